/-! The class: countTrees, treesOf, trees. -/
/-- all is as it was but what counting of trees may change -/
def frTz (u v : SX) : Prop := (∀ b j, (b, j) ≠ (14, 10) → v.1 b j = u.1 b j) ∧ (∀ a, a ≠ 20 → v.2.1 a = u.2.1 a) ∧ (∀ b, b ≠ 21 → b ≠ 22 → v.2.2.1 b = u.2.2.1 b) ∧ (∀ b j, ¬ (b = 14 ∧ (j = 11 ∨ j = 12)) → v.2.2.2.1 b j = u.2.2.2.1 b j) ∧ v.2.2.2.2 = u.2.2.2.2
theorem frTz.rf {u : SX} : frTz u u := ⟨fun _ _ _ => rfl, fun _ _ => rfl, fun _ _ _ => rfl, fun _ _ _ => rfl, rfl⟩
theorem frTz.tr {u v w : SX} (h1 : frTz u v) (h2 : frTz v w) : frTz u w := ⟨fun b j hb => (h2.1 b j hb).trans (h1.1 b j hb), fun a ha => (h2.2.1 a ha).trans (h1.2.1 a ha), fun b x y => (h2.2.2.1 b x y).trans (h1.2.2.1 b x y), fun b j x => (h2.2.2.2.1 b j x).trans (h1.2.2.2.1 b j x), h2.2.2.2.2.trans h1.2.2.2.2⟩
theorem frTw.z {u v : SX} (f : frTw u v) : frTz u v := ⟨fun b j _ => by rw [f.1], fun a _ => by rw [f.2.1], f.2.2.1, f.2.2.2.1, f.2.2.2.2⟩
theorem frTz.of {ks : List (Nat × Nat)} {as : List Nat} {u v : SX} (f : frX ks as u v) (h1 : ∀ x ∈ ks, x = (14, 10)) (h2 : ∀ a ∈ as, a = 20) : frTz u v := ⟨fun b j hb => f.1 b j (fun y => hb (h1 _ y)), fun a ha => f.2.1 a (fun y => ha (h2 _ y)), fun b _ _ => by rw [f.2.2], fun b j _ => by rw [f.2.2], by rw [f.2.2]⟩
theorem ZGX.tz {G : ZGT} {u v : SX} (h : ZGX G u) (f : frTz u v) : ZGX G v := by
  unfold ZGX at h ⊢
  rw [f.1 3 0 (by decide), f.1 3 1 (by decide), f.1 3 2 (by decide), f.1 3 3 (by decide), f.2.1 4 (by decide), f.2.1 5 (by decide), f.2.1 6 (by decide)]; exact h
theorem WyX.e {u v : SX} (h : WyX u) (f : v.2.2 = u.2.2) : WyX v := by
  unfold WyX at h ⊢
  rw [f]; exact h
/-- trees of heights below h, and of h by the first r rules -/
def ztrS (G : ZGT) (h r : Nat) : Nat → Nat → Nat → Nat := fun k n c => if k < h then ztrh G k n c else if k = h then ztrr G (ztrh G (h - 1)) r n c else 0
def TrW (t : Nat → Nat → Nat → Nat) (u : SX) : Prop := ∀ k n c, k < 7 → n < 6 → c < 9 → u.2.1 20 ((k * 6 + n) * 9 + c) = nI (t k n c)
/-- the trees that stand, and the rows of ways -/
def TrX (G : ZGT) (u : SX) : Prop := WyX u ∧ (u.1 14 10 = 0 ∨ (u.1 14 10 = 1 ∧ TrW (ztrh G) u))
theorem ztrS_n {G : ZGT} {h : Nat} (hh : 1 ≤ h) : ztrS G h (zgR G) = ztrS G (h + 1) 0 := by
  funext k n c
  unfold ztrS
  by_cases a : k < h
  · rw [if_pos a, if_pos (by omega)]
  · rw [if_neg a]
    by_cases b : k = h
    · rw [if_pos b, if_pos (by omega), b]
      obtain ⟨h', rfl⟩ : ∃ h', h = h' + 1 := ⟨h - 1, by omega⟩
      rfl
    · rw [if_neg b, if_neg (by omega)]
      by_cases d : k = h + 1
      · rw [if_pos d]; rfl
      · rw [if_neg d]
theorem ztrS_1 {G : ZGT} : ztrS G 1 0 = fun _ _ _ => 0 := by
  funext k n c
  unfold ztrS
  by_cases a : k < 1
  · rw [if_pos a, show k = 0 by omega]; rfl
  · rw [if_neg a]
    by_cases b : k = 1
    · rw [if_pos b]; rfl
    · rw [if_neg b]
theorem ztrS_le (G : ZGT) (h r k n c : Nat) : ztrS G h r k n c ≤ 1000000000 := by
  unfold ztrS
  split
  · exact ztrh_le G k n c
  · split
    · exact ztrr_le G _ r n c
    · omega
section CnuX
variable {P : YP} {G : ZGT} {u : SX}
set_option maxHeartbeats 1000000 in
theorem y_countTrees (h : ZGX G u) (hW : WyX u) : EvQ (ZY P) mX4_countTrees [.ref 14] u (fun x v => x = none ∧ WyX v ∧ TrW (ztrh G) v ∧ frTz u v) := by
  have hb := h.b
  refine EQ_V vX4_countTrees rfl ?_
  refine RQ_n (ZY_ok P) 3 rfl trivial ?_
  refine RQ_s vJ7_fill_53178 (y_fill u 20 378 0 (by omega) (by omega) (fun _ _ => rfl)) rfl k4_93 rfl rfl rfl rfl ?_
  obtain ⟨v0, hv0⟩ : ∃ w : SX, w = (u.1, setA u.2.1 20 (fil (u.2.1 20) 0 378 0), u.2.2) := ⟨_, rfl⟩
  rw [← hv0]
  have f0 : frTz u v0 := by
    rw [hv0]
    exact ⟨fun _ _ _ => rfl, fun a ha => setA_ne ha, fun _ _ _ => rfl, fun _ _ _ => rfl, rfl⟩
  have W0 : WyX v0 := by rw [hv0]; exact hW
  have T0 : TrW (ztrS G 1 0) v0 := by
    intro k n c hk hn hc
    rw [hv0, ztrS_1]
    show setA u.2.1 20 (fil (u.2.1 20) 0 378 0) 20 _ = _
    rw [setA_at, fil_in (by omega) (by omega)]; rfl
  refine RQ_n (ZY_ok P) 2 rfl trivial ?_
  refine loopU (M := mX4_countTrees) (pc := 10) 6 (fun i (_ : Unit) => [some (.ref 14), some (.int (nI (i + 1))), none]) (fun i _ v => frTz u v ∧ WyX v ∧ TrW (ztrS G (i + 1) 0) v) ?_ 0 () v0 (by omega) ⟨f0, W0, T0⟩
  intro i _ v hi hJ ih
  obtain ⟨j1, j2, j3⟩ := hJ
  refine RQ_n (ZY_ok P) 2 rfl trivial ?_
  refine RQ_b rfl (fun z => ?_) (fun z => ?_)
  · have z := (zq_lt (a := 6) (b := i + 1) rfl rfl (by omega) (by omega)).mp z
    have : i = 6 := by omega
    subst this
    refine RQ_to (Rn_vret rfl rfl) ⟨rfl, j2, fun k n c hk hn hc => ?_, j1⟩
    rw [j3 k n c hk hn hc]
    unfold ztrS
    rw [if_pos (by omega)]
  have z := (not_congr (zq_lt (a := 6) (b := i + 1) rfl rfl (by omega) (by omega))).mp z
  refine RQ_n (ZY_ok P) 2 rfl trivial ?_
  refine loopU (M := mX4_countTrees) (pc := 18) (zgR G) (fun r (_ : Unit) => [some (.ref 14), some (.int (nI (i + 1))), some (.int (nI r))]) (fun r _ x => frTz u x ∧ WyX x ∧ TrW (ztrS G (i + 1) r) x) ?_ 0 () v (by omega) ⟨j1, j2, j3⟩
  intro r _ x hr hJ2 ih2
  obtain ⟨i1, i2, i3⟩ := hJ2
  have hGx := h.tz i1
  refine RQ_n (ZY_ok P) 4 rfl trivial ?_
  rw [hGx.2.1.1]
  refine RQ_b rfl (fun y => ?_) (fun y => ?_)
  · have y := (zq_le (a := zgR G) (b := r) rfl rfl (by omega) (by omega)).mp y
    have : r = zgR G := by omega
    subst this
    refine RQ_n (ZY_ok P) 2 rfl trivial ?_
    exact ih (by omega) () _ _ ⟨rfl, nIs (i + 1), trivial⟩ ⟨i1, i2, by rw [ztrS_n (by omega)] at i3; exact i3⟩
  have y := (not_congr (zq_le (a := zgR G) (b := r) rfl rfl (by omega) (by omega))).mp y
  have hr' : r < zgR G := by omega
  have hl6 := h.1.l hr'
  refine RQ_n (ZY_ok P) 3 rfl trivial ?_
  refine RQ_v vX5_isIn (y_isIn hGx hr') rfl k4_72 rfl rfl rfl (zyr (ci := 5) rfl rfl (by omega)) rfl ?_
  have p65 : ∀ x2, frTz u x2 → WyX x2 → TrW (ztrS G (i + 1) (r + 1)) x2 → RnQ (ZY P) mX4_countTrees (65, [some (.ref 14), some (.int (nI (i + 1))), some (.int (nI r))], [], x2) (fun x v => x = none ∧ WyX v ∧ TrW (ztrh G) v ∧ frTz u v) := by
    intro x2 a1 a2 a3
    refine RQ_n (ZY_ok P) 2 rfl trivial ?_
    exact ih2 (by omega) () _ _ ⟨rfl, rfl, nIs r, trivial⟩ ⟨a1, a2, a3⟩
  have es : ∀ k n c, ztrS G (i + 1) (r + 1) k n c = if k = i + 1 ∧ zgi G r = true ∧ zgl G r = n then zcp (ztrS G (i + 1) r k n c + zuw G (ztrh G i) r (zgn G r) c) else ztrS G (i + 1) r k n c := by
    intro k n c
    unfold ztrS
    by_cases a : k < i + 1
    · rw [if_pos a, if_pos a, if_neg (by omega)]
    · rw [if_neg a, if_neg a]
      by_cases b : k = i + 1
      · rw [if_pos b, if_pos b]
        show (if zgi G r = true ∧ zgl G r = n then zcp (ztrr G (ztrh G (i + 1 - 1)) r n c + zuw G (ztrh G (i + 1 - 1)) r (zgn G r) c) else ztrr G (ztrh G (i + 1 - 1)) r n c) = _
        rw [show i + 1 - 1 = i by omega]
        by_cases d : zgi G r = true ∧ zgl G r = n
        · rw [if_pos d, if_pos ⟨b, d⟩]
        · rw [if_neg d, if_neg (fun q => d q.2)]
      · rw [if_neg b, if_neg b, if_neg (fun q => b q.1)]
  cases eg : zgi G r with
  | false =>
    refine RQ_b rfl (fun _ => ?_) (fun q => absurd rfl q)
    refine p65 x i1 i2 (fun k n c hk hn hc => ?_)
    rw [i3 k n c hk hn hc, es, if_neg (fun q => by rw [eg] at q; exact absurd q.2.1 (by decide))]
  | true =>
  refine RQ_b rfl (fun q => absurd (show (1 : Int32) = 0 from q) (by decide)) (fun _ => ?_)
  refine RQ_n (ZY_ok P) 5 rfl trivial ?_
  rw [nI_pred]
  refine RQ_V vX4_countWays (y_countWays (T := ztrh G i) hGx i2 hr' (by omega) (fun n c hn hc => by rw [i3 i n c (by omega) hn hc]; unfold ztrS; rw [if_pos (by omega)]) (fun n c => ztrh_le G i n c)) rfl k4_142 rfl rfl rfl (zy14 _ rfl) (fun _ s1 q => by show 3 * s1.2.2.2.2.1 + 99 = 3 * x.2.2.2.2.1 + 99; rw [q.2.2.2.2.2.2]) ?_
  rintro r1 x1 ⟨rfl, w1, w2⟩
  have hG1 := hGx.tw w2
  have g1 := i1.tr w2.z
  refine RQ_n (ZY_ok P) 6 rfl ⟨nI_in (by omega) (by omega), trivial⟩ ?_
  rw [nI_clamp (by omega), (hG1.2.2.1 r hr').1]
  refine RQ_n (ZY_ok P) 1 rfl trivial ?_
  refine RQ_s vX4_treesAt (y_treesAt x1 (zgl G r) (i + 1)) rfl k4_139 rfl rfl rfl rfl ?_
  have e20 : x1.2.1 20 = x.2.1 20 := by rw [w2.2.1]
  have ht : ∀ c, c < 9 → x1.2.1 20 (((i + 1) * 6 + zgl G r) * 9 + c) = nI (ztrS G (i + 1) r (i + 1) (zgl G r) c) := fun c hc => by rw [e20]; exact i3 (i + 1) (zgl G r) c (by omega) hl6 hc
  have fin : ∀ x2 : SX, (∀ c, c < 9 → x2.2.1 20 (((i + 1) * 6 + zgl G r) * 9 + c) = nI (zcp (ztrS G (i + 1) r (i + 1) (zgl G r) c + zuw G (ztrh G i) r (zgn G r) c))) → (∀ j, (j < ((i + 1) * 6 + zgl G r) * 9 ∨ ((i + 1) * 6 + zgl G r) * 9 + 9 ≤ j) → x2.2.1 20 j = x1.2.1 20 j) → frX [] [20] x1 x2 → RnQ (ZY P) mX4_countTrees (65, [some (.ref 14), some (.int (nI (i + 1))), some (.int (nI r))], [], x2) (fun x v => x = none ∧ WyX v ∧ TrW (ztrh G) v ∧ frTz u v) := by
    intro x2 a1 a2 a3
    refine p65 x2 (g1.tr (frTz.of a3 (fun y hy => by cases hy) (fun y hy => List.mem_singleton.mp hy))) (w1.x.e a3.2.2) (fun k n c hk hn hc => ?_)
    rw [es]
    by_cases e : k = i + 1 ∧ zgi G r = true ∧ zgl G r = n
    · rw [if_pos e, e.1, ← e.2.2]; exact a1 c hc
    · rw [if_neg e, a2 _ (by
        by_cases e1 : k = i + 1
        · have : zgl G r ≠ n := fun q => e ⟨e1, eg, q⟩
          omega
        · omega), e20]
      exact i3 k n c hk hn hc
  rcases w1 with ⟨o1, o2, o3⟩ | ⟨o1, o2, o3⟩
  · refine RQ_V vX4_addWays (y_addWays21 (t := fun c => ztrS G (i + 1) r (i + 1) (zgl G r) c) o1 o3 (fun c => zuw_le G _ r _ c) ht (fun c => ztrS_le G _ _ _ _ c) (by omega)) rfl k4_146 rfl rfl rfl (zy14 _ rfl) (fun _ s1 q => by show 3 * s1.2.2.2.2.1 + 99 = 3 * x1.2.2.2.2.1 + 99; rw [q.2.2.2.2.2]) ?_
    rintro r2 x2 ⟨rfl, a1, a2, a3⟩
    exact fin x2 a1 a2 a3
  · refine RQ_V vX4_addWays (y_addWays22 (t := fun c => ztrS G (i + 1) r (i + 1) (zgl G r) c) o1 o3 (fun c => zuw_le G _ r _ c) ht (fun c => ztrS_le G _ _ _ _ c) (by omega)) rfl k4_146 rfl rfl rfl (zy14 _ rfl) (fun _ s1 q => by show 3 * s1.2.2.2.2.1 + 99 = 3 * x1.2.2.2.2.1 + 99; rw [q.2.2.2.2.2]) ?_
    rintro r2 x2 ⟨rfl, a1, a2, a3⟩
    exact fin x2 a1 a2 a3
theorem y_treesOf (h : ZGX G u) (hX : TrX G u) {n c k : Nat} (hn : n < 6) (hc : c < 9) (hk : k < 7) : EvQ (ZY P) mX4_treesOf [.ref 14, .int (nI n), .int (nI c), .int (nI k)] u (fun x v => x = some (.int (nI (ztrh G k n c))) ∧ TrX G v ∧ frTz u v) := by
  obtain ⟨hW, hX⟩ := hX
  refine EQ_V vX4_treesOf rfl ?_
  have p16 : ∀ v, WyX v → v.1 14 10 = 1 → TrW (ztrh G) v → frTz u v → RnQ (ZY P) mX4_treesOf (16, [some (.ref 14), some (.int (nI n)), some (.int (nI c)), some (.int (nI k))], [], v) (fun x v => x = some (.int (nI (ztrh G k n c))) ∧ TrX G v ∧ frTz u v) := by
    intro v v1 v2 v3 v4
    refine RQ_n (ZY_ok P) 4 rfl trivial ?_
    refine RQ_s vX4_treesAt (y_treesAt v n k) rfl k4_139 rfl rfl rfl rfl ?_
    refine RQ_n (ZY_ok P) 2 rfl trivial ?_
    rw [nI_add]
    refine RQ_n (ZY_ok P) 1 rfl ⟨nI_in (by omega) (by omega), trivial⟩ ?_
    rw [nI_clamp (by omega), v3 k n c hk hn hc]
    exact RQ_to (Rn_iret rfl rfl) ⟨rfl, ⟨v1, Or.inr ⟨v2, v3⟩⟩, v4⟩
  refine RQ_n (ZY_ok P) 2 rfl trivial ?_
  rcases hX with e | ⟨e1, e2⟩
  · rw [e]
    refine RQ_b rfl (fun q => absurd rfl q) (fun _ => ?_)
    refine RQ_n (ZY_ok P) 1 rfl trivial ?_
    refine RQ_V vX4_countTrees (y_countTrees h hW) rfl k4_136 rfl rfl rfl (zy14 _ rfl) (fun _ s1 q => by show 3 * s1.2.2.2.2.1 + 99 = 3 * u.2.2.2.2.1 + 99; rw [q.2.2.2.2.2.2.2]) ?_
    rintro r1 v ⟨rfl, q1, q2, q3⟩
    refine RQ_n (ZY_ok P) 3 rfl ⟨Or.inr rfl, trivial⟩ ?_
    exact p16 _ q1 rfl q2 (q3.tr (frTz.of (frX.i (ks := [(14, 10)]) (as := []) 14 10 (by decide)) (fun y hy => List.mem_singleton.mp hy) (fun y hy => by cases hy)))
  · rw [e1]
    refine RQ_b rfl (fun _ => ?_) (fun q => absurd (show ¬ (1 : Int32) = 0 by decide) q)
    exact p16 u hW e1 e2 frTz.rf
theorem y_trees (h : ZGX G u) (hX : TrX G u) (x y z : Int32) : EvQ (ZY P) mX11_trees [.ref 0, .int x, .int y, .int z] u (fun r v => r = some (.int (zvTe G x y z)) ∧ TrX G v ∧ frTz u v) := by
  have hb := h.b
  refine EQ_V vX11_trees rfl ?_
  have no : zvTe G x y z = -1 → RnQ (ZY P) mX11_trees (28, [some (.ref 0), some (.int x), some (.int y), some (.int z)], [], u) (fun r v => r = some (.int (zvTe G x y z)) ∧ TrX G v ∧ frTz u v) := by
    intro e
    rw [e]
    refine RQ_n (ZY_ok P) 1 rfl trivial ?_
    exact RQ_to (Rn_iret rfl rfl) ⟨rfl, hX, frTz.rf⟩
  refine RQ_n (ZY_ok P) 2 rfl trivial ?_
  refine RQ_v vX11_isName (y_isName h x) rfl k11_176 rfl rfl rfl (zy0 _ rfl) rfl ?_
  cases e1 : zix x (zgN G) with
  | none => exact RQ_b rfl (fun _ => no (by unfold zvTe; rw [e1])) (fun q => absurd rfl q)
  | some n =>
  refine RQ_b rfl (fun q => absurd (show (1 : Int32) = 0 from q) (by decide)) (fun _ => ?_)
  refine RQ_n (ZY_ok P) 1 rfl trivial ?_
  cases e2 : zix y 9 with
  | none =>
    have ev : zvTe G x y z = -1 := by unfold zvTe; rw [e1]; dsimp only; rw [e2]
    refine RQ_b rfl (fun _ => no ev) (fun q => ?_)
    refine RQ_n (ZY_ok P) 2 rfl trivial ?_
    refine RQ_b rfl (fun _ => no ev) (fun q2 => ?_)
    have := zix_ge (n := 9) (by omega) e2 q
    exact absurd (show (8 : Int32) < y from Int32.lt_of_lt_of_le (show (8 : Int32) < nI 9 by decide) this) q2
  | some c =>
  obtain ⟨c1, c2⟩ := zix_s e2
  obtain ⟨y1, y2⟩ := zix_lt (n := 9) (by omega) e2
  refine RQ_b rfl (fun q => absurd q y1) (fun _ => ?_)
  refine RQ_n (ZY_ok P) 2 rfl trivial ?_
  refine RQ_b rfl (fun q => ?_) (fun _ => ?_)
  · rw [c2] at q
    have q := (zq_lt (a := 8) (b := c) rfl rfl (by omega) (by omega)).mp q
    omega
  refine RQ_n (ZY_ok P) 1 rfl trivial ?_
  cases e3 : zix z 7 with
  | none =>
    have ev : zvTe G x y z = -1 := by unfold zvTe; rw [e1]; dsimp only; rw [e2]; dsimp only; rw [e3]
    refine RQ_b rfl (fun _ => no ev) (fun q => ?_)
    refine RQ_n (ZY_ok P) 2 rfl trivial ?_
    refine RQ_b rfl (fun q2 => ?_) (fun _ => no ev)
    have := zix_ge (n := 7) (by omega) e3 q
    exact absurd (Int32.lt_of_lt_of_le (show (6 : Int32) < nI 7 by decide) this) (Int32.not_lt.mpr q2)
  | some k =>
  obtain ⟨k1, k2⟩ := zix_s e3
  obtain ⟨z1, z2⟩ := zix_lt (n := 7) (by omega) e3
  obtain ⟨n1, n2⟩ := zix_s e1
  refine RQ_b rfl (fun q => absurd q z1) (fun _ => ?_)
  refine RQ_n (ZY_ok P) 2 rfl trivial ?_
  refine RQ_b rfl (fun _ => ?_) (fun q => absurd (show z ≤ (6 : Int32) by rw [k2]; exact (zq_le (a := k) (b := 6) rfl rfl (by omega) (by omega)).mpr (by omega)) q)
  have ev : zvTe G x y z = nI (ztrh G k n c) := by unfold zvTe; rw [e1]; dsimp only; rw [e2]; dsimp only; rw [e3]
  rw [ev]
  subst n2; subst c2; subst k2
  refine RQ_n (ZY_ok P) 5 rfl trivial ?_
  refine RQ_V vX4_treesOf (y_treesOf h hX (n := n) (c := c) (k := k) (by omega) c1 k1) rfl k11_197 rfl rfl rfl (zy14 _ rfl) (fun _ s1 q => by show 3 * s1.2.2.2.2.1 + 99 = 3 * u.2.2.2.2.1 + 99; rw [q.2.2.2.2.2.2]) ?_
  rintro r1 v ⟨rfl, q1, q2⟩
  exact RQ_to (Rn_iret rfl rfl) ⟨rfl, q1, q2⟩
end CnuX
