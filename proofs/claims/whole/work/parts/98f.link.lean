/-! The class: link, by one letter. -/
/-- what link leaves, over the value -/
def linkR (P : YP) (kd m : Nat) (K : Nat → Nat → Int32) (go : Nat → Nat → Option Nat) (q : List Nat) (N : Nat → Int32) (s b : Nat) (w4 : Int32) (v : SX) : Prop :=
  match ztk kd K m N (go s b) with
  | some t => XA P (m, zKU K t (fun i => K t i ||| N i), zgU go s b t, if zcB ((∃ i, i < 102 ∧ K t i ||| N i ≠ K t i) ∧ t ∉ q) = true then q ++ [t] else q) v ∧ v.1 36 4 = w4
  | none => if m = 200 then v.1 36 4 = 0 ∧ XI P v else XA P (m + 1, zKU K m N, zgU (fun s' b' => if s' = m then none else go s' b') s b m, q ++ [m]) v ∧ v.1 36 4 = w4
set_option maxHeartbeats 1000000 in
theorem y_link {P : YP} {kd m s b : Nat} {K : Nat → Nat → Int32} {go : Nat → Nat → Option Nat} {q : List Nat} {u : SX} {N : Nat → Int32} (hk : P.1 0 = nI kd) (hk3 : kd < 3) (hX : XA P (m, K, go, q) u) (hN : KX N 31 u) (hm : m ≤ 200) (hs : s < m) (hb : b < 14) (hqn : q.Nodup) (hqm : ∀ x, x ∈ q → x < m) (hw : ∀ w, go s b = some w → w < m ∧ zco (K w) N) :
    EvQ (ZY P) mX2_link [.ref 25, .ref 36, .int (nI s), .int (nI b)] u (fun x v => x = none ∧ frL u v ∧ linkR P kd m K go q N s b (u.1 36 4) v) := by
  obtain ⟨h1, ⟨kc, hks⟩, h3, h4, hq, h6, h, h7, h8⟩ := id hX
  dsimp only at h1 hks h3 h4 hq h8
  -- the end: the goal is set
  have fin : ∀ (t : Nat) (v : SX) (x4 : Int32), v.1 36 4 = u.1 36 4 → frL u v → (∃ h, KRw h v) → (∀ w : SX, w = (v.1, updA v.2.1 40 (14 * s + b) (nI t), v.2.2) → w.1 36 4 = u.1 36 4 → linkR P kd m K go q N s b (u.1 36 4) w) → RnQ (ZY P) mX2_link (99, [some (.ref 25), some (.ref 36), some (.int (nI s)), some (.int (nI b)), some (.int x4), some (.int (nI t))], [], v) (fun x v => x = none ∧ frL u v ∧ linkR P kd m K go q N s b (u.1 36 4) v) := by
    intro t v x4 e4 hf hh hl
    obtain ⟨h', hh⟩ := hh
    refine RQ_n (ZY_ok P) 4 rfl trivial ?_
    refine RQ_v vX1_setGoal (y_setGoal v (nI t) (by omega) hb) rfl k2_138 rfl rfl rfl (zy36 _ rfl) rfl ?_
    exact RQ_to (Rn_vret rfl rfl) ⟨rfl, hf.tr (frL.lo hh (frX.a 40 (by decide))), hl _ rfl e4⟩
  refine EQ_V vX2_link rfl ?_
  refine RQ_n (ZY_ok P) 3 rfl trivial ?_
  refine RQ_v vX1_slotWithCore (y_slotWithCore hm h1 hks h3 hN) rfl k2_123 rfl rfl rfl (zy36 _ rfl) rfl ?_
  refine RQ_n (ZY_ok P) 8 rfl trivial ?_
  refine RQ_v vX1_goalOf (y_goalOf u (by omega) hb) rfl k2_127 rfl rfl rfl (zy36 _ rfl) rfl ?_
  rw [h4 s hs b hb]
  refine RQ_v vX1_slotFor (y_slotFor hk hk3 hm h1 hks h3 hN hw) rfl k2_130 rfl rfl rfl (zy36 _ rfl) rfl ?_
  refine RQ_n (ZY_ok P) 3 rfl trivial ?_
  cases hz : ztk kd K m N (go s b) with
  | some t =>
    obtain ⟨t1, t2⟩ := ztk_lt hz (fun w hw' => (hw w hw').1)
    have tco := zdt_co t2
    have ht1 : ¬ nI t = -1 := nI_m1 (by omega)
    obtain ⟨k1, k2, k3⟩ := hks.1 t t1
    have hc99 : 99 ≤ kc t := k2.1
    refine RQ_b rfl (fun _ => ?_) (fun z => absurd z (fun y => y ht1))
    refine RQ_n (ZY_ok P) 2 rfl trivial ?_
    refine RQ_b rfl (fun _ => ?_) (fun z => absurd z (fun y => y ht1))
    refine RQ_n (ZY_ok P) 2 rfl trivial ?_
    refine RQ_v vX1_kernelIn (y_kernelIn (by omega) k1) rfl k2_92 rfl rfl rfl (zy36 _ rfl) rfl ?_
    refine RQ_n (ZY_ok P) 2 rfl trivial ?_
    refine RQ_V vX7_join (y_join k2.2 (Or.inr (Or.inl rfl)) (by omega) k3 hN tco) rfl k2_134 rfl rfl rfl (zyk k2.2 rfl) (fun _ s1 q => by show 3 * s1.2.2.2.2.1 + 99 = 3 * u.2.2.2.2.1 + 99; rw [q.2.2.2.2]) ?_
    rintro r1 v1 ⟨rfl, hK1, hf1⟩
    have X1 := XA_join hX t1 hks tco hK1 hf1
    have L1 := frL.k h7 k1 hf1
    have e1 : v1.1 36 4 = u.1 36 4 := hf1.1 36 4 (by simp only [List.mem_cons, List.not_mem_nil, or_false, Prod.mk.injEq]; omega)
    refine RQ_b rfl (fun z => ?_) (fun z => ?_)
    · have z := bI_0.mp z
      refine fin t v1 _ e1 L1 ⟨h, h7.fr hf1.2.2⟩ (fun w hw1 hw2 => ?_)
      unfold linkR
      rw [hz]
      refine ⟨?_, hw2⟩
      have e : zcB ((∃ i, i < 102 ∧ K t i ||| N i ≠ K t i) ∧ t ∉ q) = false := zcB_f (fun y => by rw [zcB_t y.1] at z; cases z)
      rw [e, if_neg (by decide), hw1]
      exact XA_goal X1 hb
    · have z := bI_t z
      have zc : ∃ i, i < 102 ∧ K t i ||| N i ≠ K t i := Classical.byContradiction (fun y => by rw [zcB_f y] at z; cases z)
      refine RQ_n (ZY_ok P) 2 rfl trivial ?_
      refine RQ_V vX2_enqueue (y_enqueue X1.2.2.2.2.1 (by omega) hqn (fun x hx => by have := hqm x hx; omega)) rfl k2_74 rfl rfl rfl (zy25 _ rfl) (fun _ s1 q => by show 3 * s1.2.2.2.2.1 + 99 = 3 * v1.2.2.2.2.1 + 99; rw [q.2.2.2.2]) ?_
      rintro r2 v2 ⟨rfl, hQ2, hf2⟩
      have X2 := XA_queue X1 hQ2 hf2
      have L2 := frL.lo (h7.fr hf1.2.2) (hf2.up (by decide) (by decide))
      refine fin t v2 _ ((hf2.1 36 4 (by decide)).trans e1) (L1.tr L2) ⟨h, (h7.fr hf1.2.2).fr hf2.2.2⟩ (fun w hw1 hw2 => ?_)
      unfold linkR
      rw [hz]
      refine ⟨?_, hw2⟩
      have e : (if zcB ((∃ i, i < 102 ∧ K t i ||| N i ≠ K t i) ∧ t ∉ q) = true then q ++ [t] else q) = (if zcB (t ∈ q) = true then q else q ++ [t]) := by
        by_cases y : t ∈ q
        · rw [zcB_f (fun y' => y'.2 y), zcB_t y, if_neg (by decide), if_pos rfl]
        · rw [zcB_t ⟨zc, y⟩, zcB_f y, if_pos rfl, if_neg (by decide)]
      rw [e, hw1]
      exact XA_goal X2 hb
  | none =>
    refine RQ_b rfl (fun z => absurd rfl z) (fun _ => ?_)
    refine RQ_n (ZY_ok P) 3 rfl trivial ?_
    rw [h1]
    refine RQ_b rfl (fun z => ?_) (fun z => ?_)
    · have hm2 : m ≠ 200 := fun y => z (by rw [y]; rfl)
      refine RQ_n (ZY_ok P) 2 rfl trivial ?_
      refine RQ_b rfl (fun z => absurd rfl z) (fun _ => ?_)
      refine RQ_n (ZY_ok P) 4 rfl trivial ?_
      refine RQ_VN vX1_add (y_addK h6 h7 (by omega) h8.1 h1 hN (core := zfst (fun i => zcB (zco (K i) N)) m) (fun c hc => by have := (zfst_s hc).1; omega)) rfl k2_70 rfl rfl rfl (zy36 _ rfl) ?_ ?_
      · show (((Nat.blt 25 (3 * u.2.2.2.2.1 + 99)) && ((Nat.blt 36 (3 * u.2.2.2.2.1 + 99)) && true)) && true) = true
        rw [zblt (show 25 < 3 * u.2.2.2.2.1 + 99 by omega), zblt (show 36 < 3 * u.2.2.2.2.1 + 99 by omega)]; rfl
      rintro r1 v1 ⟨rfl, a1, ⟨c, a2, a3, a4, a5⟩, a6, ⟨h', a7, a8, a8b, -⟩, a9, a10⟩
      have hc99 : 99 ≤ c := a3.1
      have X1 := XA_add hX a1 a2 a3 a4 a5 a6 a7 ⟨a8, by have := h8.2; omega⟩ a9 a10
      have L1 := frL.ad h7 a7 a2 a5
      have e1 : v1.1 36 4 = u.1 36 4 := a5.1 36 4 (by omega) (by omega)
      have hmq : m ∉ q := fun y => Nat.lt_irrefl _ (hqm m y)
      refine RQ_n (ZY_ok P) 3 rfl trivial ?_
      refine RQ_V vX2_enqueue (y_enqueue X1.2.2.2.2.1 (by omega) hqn (fun x hx => by have := hqm x hx; omega)) rfl k2_74 rfl rfl rfl (zy25 _ rfl) (fun _ s1 q => by show 3 * s1.2.2.2.2.1 + 99 = 3 * v1.2.2.2.2.1 + 99; rw [q.2.2.2.2]) ?_
      rintro r2 v2 ⟨rfl, hQ2, hf2⟩
      have X2 := XA_queue X1 hQ2 hf2
      have L2 := frL.lo a7 (hf2.up (by decide) (by decide))
      refine RQ_n (ZY_ok P) 1 rfl trivial ?_
      refine fin m v2 _ ((hf2.1 36 4 (by decide)).trans e1) (L1.tr L2) ⟨h', a7.fr hf2.2.2⟩ (fun w hw1 hw2 => ?_)
      unfold linkR
      rw [hz]
      show if m = 200 then _ else _
      rw [if_neg hm2]
      refine ⟨?_, hw2⟩
      rw [zcB_f hmq, if_neg (by decide)] at X2
      rw [hw1]
      exact XA_goal X2 hb
    · have hm2 : m = 200 := (zq_eq (a := m) (b := 200) rfl rfl (by omega) (by omega)).mp (Classical.not_not.mp z)
      refine RQ_n (ZY_ok P) 3 rfl ⟨Or.inl rfl, trivial⟩ ?_
      refine RQ_to (Rn_vret rfl rfl) ⟨rfl, frL.lo h7 (frX.i 36 4 (by decide)), ?_⟩
      unfold linkR
      rw [hz]
      show if m = 200 then _ else _
      rw [if_pos hm2]
      refine ⟨?_, h6.fr rfl, ⟨h, h7.fr rfl, h8.2⟩, ?_⟩
      · show updI u.1 36 4 0 36 4 = 0
        rw [updI_eq]
        rfl
      · obtain ⟨hd, q1, q2, -⟩ := hq
        exact ⟨hd, q1, by show updI u.1 36 4 0 25 3 = _; rw [updI_ne (by decide)]; exact q2⟩
