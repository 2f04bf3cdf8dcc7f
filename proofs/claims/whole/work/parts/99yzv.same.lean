/-! The class: same. -/
def zdn (f : Nat → Nat) : Nat → Nat
  | 0 => 0
  | n + 1 => 10 * zdn f n + f n + 1
theorem zwn_dn (f : Nat → Nat) : ∀ n, zwn f n = nI (zdn f n)
  | 0 => rfl
  | n + 1 => by
    show 10 * zwn f n + nI (f n) + 1 = nI (10 * zdn f n + f n + 1)
    rw [zwn_dn f n, show (10 : Int32) = nI 10 from rfl, nI_mul, nI_add, nI_1]
theorem zdn_lt {f : Nat → Nat} : ∀ n, (∀ i, i < n → f i ≤ 8) → zdn f n < 10 ^ n
  | 0, _ => by show 0 < 1; omega
  | n + 1, h => by
    have h1 := zdn_lt n (fun i hi => h i (by omega))
    have h2 := h n (by omega)
    show 10 * zdn f n + f n + 1 < 10 ^ (n + 1)
    rw [Nat.pow_succ]
    omega
theorem zwn_ne {f : Nat → Nat} {n : Nat} (hn : n ≤ 4) (h : ∀ i, i < n → f i ≤ 8) : zwn f n ≠ -1 := by
  rw [zwn_dn]
  have h1 := zdn_lt n h
  have h2 : 10 ^ n ≤ 10 ^ 4 := Nat.pow_le_pow_right (by omega) hn
  exact nI_m1 (by omega)
theorem zsf6 {n : Nat} {a b c : Int32} : zsf (3 * n + 99) [some (.ref 0), some (.int a), some (.int b), some (.int c), none, none] [] = true := by
  show ((Nat.blt 0 (3 * n + 99) && (true && (true && (true && (true && (true && true)))))) && true) = true
  rw [zblt (show 0 < 3 * n + 99 by omega)]; rfl
section SmX
variable {G : ZGT} {os : Nat → Option ZAS} {u : SX} {d1 d2 : Nat}
theorem zsa_f {M N : ZNM} {p : Int32} {n L : Nat} (hT : zgT G ≤ 8) (hL : L ≤ 4) : zsa G M N p (n + 1) L = if zf1a G M N p L = -1 then zsa G M N p n (L + 1) else zf1a G M N p L := by
  rw [zsa_s]
  unfold zf1a
  cases e : zft (zqw G M N p L) (zgT G ^ L) 0 with
  | none => dsimp only; rw [if_pos rfl]
  | some w =>
    dsimp only
    have hw := zft_lt _ _ _ e
    rw [Nat.zero_add] at hw
    rw [if_neg (zwn_ne hL (fun i hi => ?_))]
    have hT0 : 0 < zgT G := by
      apply Classical.byContradiction
      intro y
      rw [show zgT G = 0 by omega, Nat.zero_pow (by omega)] at hw
      omega
    have := zdg_lt (L := L) (w := w) (i := i) hT0
    omega
set_option maxHeartbeats 1000000 in
theorem y_same (h1 : d1 < 3) (h2 : d2 < 3) (hZ : ∀ kd, kd < 3 → ZAt G kd (os kd)) (h : X3 G os u) (x : Int32) : EvQ (ZY YP0) mX11_same [.ref 0, .int (nI d1), .int (nI d2), .int x] u (k3Q G os u (zvSa G (os d1) (os d2) (u.1 3 4) x)) := by
  have hb := h.f.1.b
  obtain ⟨p, hp⟩ : ∃ p, p = u.1 3 4 := ⟨_, rfl⟩
  rw [← hp]
  obtain ⟨V, hV⟩ : ∃ V, V = zvSa G (os d1) (os d2) p x := ⟨_, rfl⟩
  rw [← hV]
  refine EQ_V vX11_same rfl ?_
  have no : ∀ v, X3 G os v → frZ u v → V = -1 → RnQ (ZY YP0) mX11_same (25, [some (.ref 0), some (.int (nI d1)), some (.int (nI d2)), some (.int x), none, none], [], v) (k3Q G os u V) := by
    intro v a b e
    refine RQ_n (ZY_ok YP0) 1 rfl trivial ?_
    rw [e]
    exact RQ_to (Rn_iret rfl rfl) ⟨rfl, a, b⟩
  refine RQ_n (ZY_ok YP0) 2 rfl trivial ?_
  refine RQ_VN vX11_isThere (z_isThere h1 (hZ d1 h1) h) rfl k11_251 rfl rfl rfl (zy0 _ rfl) zsf6 ?_
  rintro r1 v1 ⟨rfl, q1, q2, q3, q4⟩
  cases ho1 : os d1 with
  | none =>
    refine RQ_b rfl (fun _ => no v1 q1 q2 ?_) (fun z => absurd rfl z)
    rw [hV, ho1]
    cases os d2 <;> rfl
  | some A =>
  refine RQ_b rfl (fun z => absurd (show (1 : Int32) = 0 from z) (by decide)) (fun _ => ?_)
  refine RQ_n (ZY_ok YP0) 2 rfl trivial ?_
  refine RQ_VN vX11_isThere (z_isThere h2 (hZ d2 h2) q1) rfl k11_251 rfl rfl rfl (zy0 _ rfl) zsf6 ?_
  rintro r2 v2 ⟨rfl, p1, p2, p3, p4⟩
  have Z2 := q2.tr p2
  cases ho2 : os d2 with
  | none =>
    refine RQ_b rfl (fun _ => no v2 p1 Z2 ?_) (fun z => absurd rfl z)
    rw [hV, ho1, ho2]; rfl
  | some B =>
  refine RQ_b rfl (fun z => absurd (show (1 : Int32) = 0 from z) (by decide)) (fun _ => ?_)
  refine RQ_n (ZY_ok YP0) 1 rfl trivial ?_
  have fr1 : (swX d1 v2).1 36 3 = 0 := by
    by_cases e : d1 = d2
    · rw [e]; exact p4
    · exact p3.f3 h1 e q4
  cases e : zix x 5 with
  | none =>
    have ev : V = -1 := by rw [hV, ho1, ho2]; unfold zvSa; rw [e]
    refine RQ_b rfl (fun _ => no v2 p1 Z2 ev) (fun z => ?_)
    refine RQ_n (ZY_ok YP0) 2 rfl trivial ?_
    refine RQ_b rfl (fun z2 => ?_) (fun _ => no v2 p1 Z2 ev)
    have := zix_ge (n := 5) (by omega) e z
    exact absurd (Int32.lt_of_lt_of_le (show (4 : Int32) < nI 5 by decide) this) (Int32.not_lt.mpr z2)
  | some m =>
  obtain ⟨m1, m2⟩ := zix_s e
  obtain ⟨z1, z2⟩ := zix_lt (n := 5) (by omega) e
  refine RQ_b rfl (fun z => absurd z z1) (fun _ => ?_)
  refine RQ_n (ZY_ok YP0) 2 rfl trivial ?_
  refine RQ_b rfl (fun _ => ?_) (fun z => absurd (show x ≤ (4 : Int32) by rw [m2]; exact (zq_le (a := m) (b := 4) rfl rfl (by omega) (by omega)).mpr (by omega)) z)
  have ev : V = zsa G (zN A) (zN B) p (m + 1) 0 := by rw [hV, ho1, ho2]; unfold zvSa; rw [e]
  clear no
  subst m2
  refine RQ_n (ZY_ok YP0) 2 rfl trivial ?_
  refine loopU (M := mX11_same) (pc := 30) (m + 1) (fun l (_ : Unit) => [some (.ref 0), some (.int (nI d1)), some (.int (nI d2)), some (.int (nI m)), some (.int (nI l)), none]) (fun l _ v => X3 G os v ∧ frZ u v ∧ (swX d1 v).1 36 3 = 0 ∧ (swX d2 v).1 36 3 = 0 ∧ zsa G (zN A) (zN B) p (m + 1 - l) l = V) ?_ 0 () v2 (by omega) ⟨p1, Z2, fr1, p4, by rw [ev]; rfl⟩
  intro l _ v hl hJ ih
  obtain ⟨j1, j2, j3, j4, j5⟩ := hJ
  refine RQ_n (ZY_ok YP0) 2 rfl trivial ?_
  refine RQ_b rfl (fun z => ?_) (fun z => ?_)
  · have z := (zq_lt (a := m) (b := l) rfl rfl (by omega) (by omega)).mp z
    have : l = m + 1 := by omega
    subst this
    refine RQ_n (ZY_ok YP0) 1 rfl trivial ?_
    rw [Nat.sub_self] at j5
    rw [← j5]
    exact RQ_to (Rn_iret rfl rfl) ⟨rfl, j1, j2⟩
  have z := (not_congr (zq_lt (a := m) (b := l) rfl rfl (by omega) (by omega))).mp z
  have ep : v.1 3 4 = p := by rw [j2.1 3 4 (by omega), hp]
  refine RQ_n (ZY_ok YP0) 3 rfl trivial ?_
  refine RQ_V vX11_actionsOf (z_actionsOf h1 ho1 (hZ d1 h1) j1 j3) rfl k11_282 rfl rfl rfl (zy0 _ rfl) (fun _ s1 q => by show 3 * s1.2.2.2.2.1 + 99 = 3 * v.2.2.2.2.1 + 99; rw [q.2.2.2.2.2.2]) ?_
  rw [ep]
  rintro r3 v3 ⟨rfl, a1, a2, a3, a4, a5, a6⟩
  have ep3 : v3.1 3 4 = p := by rw [a2.1 3 4 (by omega), ep]
  have f32 : (swX d2 v3).1 36 3 = 0 := by
    by_cases e : d2 = d1
    · rw [e]; exact a4
    · exact a3.f3 h2 e j4
  refine RQ_n (ZY_ok YP0) 2 rfl trivial ?_
  refine RQ_V vX11_actionsOf (z_actionsOf h2 ho2 (hZ d2 h2) a1 f32) rfl k11_282 rfl rfl rfl (zy0 _ rfl) (fun _ s1 q => by show 3 * s1.2.2.2.2.1 + 99 = 3 * v3.2.2.2.2.1 + 99; rw [q.2.2.2.2.2.2]) ?_
  rw [ep3]
  rintro r4 v4 ⟨rfl, b1, b2, b3, b4, b5, b6⟩
  have f41 : (swX d1 v4).1 36 3 = 0 := by
    by_cases e : d1 = d2
    · rw [e]; exact b4
    · exact b3.f3 h1 e a4
  have t41 : XT G (zN A) p (swX d1 v4) := by
    by_cases e : d1 = d2
    · have eAB : A = B := by
        rw [e, ho2] at ho1
        cases ho1; rfl
      rw [eAB, e]; exact b5
    · exact a5.o h1 e b3
  refine RQ_n (ZY_ok YP0) 1 rfl trivial ?_
  refine RQ_V vX11_firstByOneAlone (z_firstByOneAlone h1 h2 ho1 ho2 hZ b1 f41 b4 t41 b5 (L := l) (by omega)) rfl k11_395 rfl rfl rfl (zy0 _ rfl) (fun _ s1 q => by show 3 * s1.2.2.2.2.1 + 99 = 3 * v4.2.2.2.2.1 + 99; rw [q.2.2.2.2]) ?_
  rintro r5 v5 ⟨rfl, c1, c2, c3, c4⟩
  have Z5 := ((j2.tr a2).tr b2).tr c2
  refine RQ_n (ZY_ok YP0) 3 rfl trivial ?_
  rw [show m + 1 - l = (m - l) + 1 by omega, zsa_f (by omega) (by omega)] at j5
  by_cases ef : zf1a G (zN A) (zN B) p l = -1
  · rw [if_pos ef] at j5
    refine RQ_b rfl (fun _ => ?_) (fun y => absurd ef y)
    refine RQ_n (ZY_ok YP0) 2 rfl trivial ?_
    exact ih (by omega) () _ _ ⟨rfl, rfl, rfl, rfl, nIs l, trivial⟩ ⟨c1, Z5, c3.f3 h1 (by omega) f41, c3.f3 h2 (by omega) b4, by rw [show m + 1 - (l + 1) = m - l by omega]; exact j5⟩
  · rw [if_neg ef] at j5
    refine RQ_b rfl (fun y => absurd y ef) (fun _ => ?_)
    refine RQ_n (ZY_ok YP0) 1 rfl trivial ?_
    rw [← j5]
    exact RQ_to (Rn_iret rfl rfl) ⟨rfl, c1, Z5⟩
end SmX
