/-! The class: kernels in slots, slots by cores. -/
theorem zy36 {P : YP} {MX : MD} (s : SX) (h : MX.1 = 1) : zrc (ZY P) MX s 36 = true := zyr (ci := 1) rfl h (by omega)
theorem zyk {P : YP} {MX : MD} {s : SX} {c : Nat} (hc : isKc c s.2.2.2.2.1) (h : MX.1 = 7) : zrc (ZY P) MX s c = true := by
  unfold zrc
  rw [show (ZY P).1 s c = .inr (7, [.int (s.1 c 0), .ref (c + 1), .ref (c + 2)]) from (isK_cell hc).1]
  show (Nat.beq 7 MX.1 && Nat.blt c (3 * s.2.2.2.2.1 + 99)) = true
  have := isK_lt hc
  rw [h, Bool.and_eq_true]
  exact ⟨rfl, Nat.ble_eq_true_of_le (by omega)⟩
/-- the slots' kernels: m of them, in the cells kc -/
def KSl (m : Nat) (K : Nat → Nat → Int32) (kc : Nat → Nat) (s : SX) : Prop := (∀ i, i < m → s.2.2.2.2.2 37 i = some (kc i) ∧ (99 ≤ kc i ∧ isKc (kc i) s.2.2.2.2.1) ∧ KX (K i) (kc i) s) ∧ ∀ i j, i < m → j < m → kc i = kc j → i = j
theorem y_kernelIn {P : YP} {s : SX} {i c : Nat} (hi : i < 200) (h : s.2.2.2.2.2 37 i = some c) : Ev (ZY P) mX1_kernelIn [.ref 36, .int (nI i)] s (some (.ref c)) s := by
  have hin : vp_in (nI i) 200 := nI_in (by omega) (by omega)
  have hic : (nI i).toNatClampNeg = i := nI_clamp (by omega)
  refine Ev_V vX1_kernelIn rfl ?_
  refine Rn_n (ZY_ok P) 4 rfl ⟨hin, trivial⟩ ?_
  rw [hic, h]
  refine Rn_n (ZY_ok P) 1 rfl trivial ?_
  refine Rn_n (ZY_ok P) 4 rfl ⟨hin, trivial⟩ ?_
  rw [hic, h]
  exact Rn_aret rfl rfl
/-- the first slot of a core -/
def zcf (K : Nat → Nat → Int32) (s c : Nat) : Prop := c ≤ s ∧ zco (K c) (K s) ∧ ∀ x, x < c → ¬ zco (K x) (K s)
def COr (m : Nat) (K : Nat → Nat → Int32) (s : SX) : Prop := ∀ i, i < m → ∃ c, s.2.1 38 i = nI c ∧ zcf K i c
theorem zco_rf {k : Nat → Int32} : zco k k := fun _ _ => Iff.rfl
theorem zco_sy {k k' : Nat → Int32} (h : zco k k') : zco k' k := fun i hi => (h i hi).symm
theorem zco_tr {k k' k'' : Nat → Int32} (h : zco k k') (h' : zco k' k'') : zco k k'' := fun i hi => (h i hi).trans (h' i hi)
theorem zcf_un {K : Nat → Nat → Int32} {s c c' : Nat} (h : zcf K s c) (h' : zcf K s c') : c = c' := by
  rcases Nat.lt_trichotomy c c' with z | z | z
  · exact absurd h.2.1 (h'.2.2 c z)
  · exact z
  · exact absurd h'.2.1 (h.2.2 c' z)
theorem y_slotWithCore {P : YP} {u : SX} {m : Nat} {K : Nat → Nat → Int32} {kc : Nat → Nat} {N : Nat → Int32} (hm : m ≤ 200) (h5 : u.1 36 5 = nI m) (hK : KSl m K kc u) (hC : COr m K u) (hN : KX N 31 u) : Ev (ZY P) mX1_slotWithCore [.ref 36, .ref 31] u (some (.int (fI (zfst (fun i => zcB (zco (K i) N)) m)))) u := by
  refine EQ_ev (EQ_V vX1_slotWithCore rfl ?_)
  refine RQ_n (ZY_ok P) 2 rfl trivial ?_
  refine loopU m (fun i (_ : Unit) => [some (.ref 36), some (.ref 31), some (.int (nI i))]) (fun i _ v => v = u ∧ ∀ b, b < i → zcB (zco (K b) N) = false) ?_ 0 () u (by omega) ⟨rfl, fun b hb => by omega⟩
  intro i _ v hi hJ ih
  obtain ⟨rfl, he⟩ := hJ
  refine RQ_n (ZY_ok P) 3 rfl trivial ?_
  refine RQ_b rfl (fun z => ?_) (fun z => ?_)
  · have z := (zq_le h5 rfl (by omega) (by omega)).mp z
    refine RQ_n (ZY_ok P) 1 rfl trivial ?_
    exact RQ_to (Rn_iret rfl rfl) ⟨by rw [zfst_n.mpr (fun b hb => he b (by omega))]; rfl, rfl⟩
  have z := (not_congr (zq_le h5 rfl (by omega) (by omega))).mp z
  have him : i < m := by omega
  have hin : vp_in (nI i) 200 := nI_in (by omega) (by omega)
  have hic : (nI i).toNatClampNeg = i := nI_clamp (by omega)
  obtain ⟨c, hc1, hc2⟩ := hC i him
  obtain ⟨k1, ⟨k2, k3⟩, k4⟩ := hK.1 i him
  have hcl := hc2.1
  have next : zcB (zco (K i) N) = false → RnQ (ZY P) mX1_slotWithCore (34, [some (.ref 36), some (.ref 31), some (.int (nI i))], [], v) (fun r w => r = some (.int (fI (zfst (fun i => zcB (zco (K i) N)) m))) ∧ w = v) := by
    intro hf
    refine RQ_n (ZY_ok P) 2 rfl trivial ?_
    refine ih him () _ _ ⟨rfl, rfl, nIs i, trivial⟩ ⟨rfl, fun b hb => ?_⟩
    by_cases y : b = i
    · subst y; exact hf
    · exact he b (by omega)
  refine RQ_n (ZY_ok P) 5 rfl ⟨hin, trivial⟩ ?_
  rw [hic, hc1]
  refine RQ_b rfl (fun z2 => ?_) (fun z2 => ?_)
  · have z2 := (not_congr (zq_eq (a := c) (b := i) rfl rfl (by omega) (by omega))).mp z2
    refine next (zcB_f (fun y => ?_))
    have := he c (by omega)
    rw [zcB_t (zco_tr hc2.2.1 y)] at this
    cases this
  have z2 := (zq_eq (a := c) (b := i) rfl rfl (by omega) (by omega)).mp (Classical.not_not.mp z2)
  refine RQ_n (ZY_ok P) 2 rfl trivial ?_
  refine RQ_v vX1_kernelIn (y_kernelIn (by omega) k1) rfl k1_64 rfl rfl rfl (zy36 v rfl) rfl ?_
  refine RQ_n (ZY_ok P) 1 rfl trivial ?_
  refine RQ_v vX7_hasCoreOf (y_hasCoreOf k3 (Or.inr (Or.inl rfl)) (by omega) k4 hN) rfl k1_79 rfl rfl rfl (zyk k3 rfl) rfl ?_
  refine RQ_b rfl (fun z3 => next (bI_0.mp z3)) (fun z3 => ?_)
  have z3 := bI_t z3
  refine RQ_n (ZY_ok P) 1 rfl trivial ?_
  exact RQ_to (Rn_iret rfl rfl) ⟨by rw [zfst_i him z3 he]; rfl, rfl⟩
theorem y_goalOf {P : YP} (u : SX) {s b : Nat} (hs : s < 200) (hb : b < 14) : Ev (ZY P) mX1_goalOf [.ref 36, .int (nI s), .int (nI b)] u (some (.int (u.2.1 40 (14 * s + b)))) u := by
  have e1 : nI s * 14 + nI b = nI (14 * s + b) := by rw [show (14 : Int32) = nI 14 from rfl, nI_mul, nI_add, Nat.mul_comm]
  refine Ev_V vX1_goalOf rfl ?_
  refine Rn_n (ZY_ok P) 8 rfl ⟨by rw [e1]; exact nI_in (by omega) (by omega), trivial⟩ ?_
  refine Rn_to (Rn_iret rfl rfl) ?_ rfl
  rw [e1, nI_clamp (by omega)]
theorem y_setGoal {P : YP} (u : SX) {s b : Nat} (x : Int32) (hs : s < 200) (hb : b < 14) : Ev (ZY P) mX1_setGoal [.ref 36, .int (nI s), .int (nI b), .int x] u none (u.1, updA u.2.1 40 (14 * s + b) x, u.2.2) := by
  have e1 : nI s * 14 + nI b = nI (14 * s + b) := by rw [show (14 : Int32) = nI 14 from rfl, nI_mul, nI_add, Nat.mul_comm]
  refine Ev_V vX1_setGoal rfl ?_
  refine Rn_n (ZY_ok P) 9 rfl ⟨by rw [e1]; exact nI_in (by omega) (by omega), trivial⟩ ?_
  rw [e1, nI_clamp (by omega)]
  exact Rn_vret rfl rfl
set_option maxHeartbeats 1000000 in
/-- slotFor: of the slots of that core, by the kind; before: of that core too -/
theorem y_slotFor {P : YP} {u : SX} {m kd : Nat} {K : Nat → Nat → Int32} {kc : Nat → Nat} {N : Nat → Int32} (hk : P.1 0 = nI kd) (hk3 : kd < 3) (hm : m ≤ 200) (h5 : u.1 36 5 = nI m) (hK : KSl m K kc u) (hC : COr m K u) (hN : KX N 31 u) {was : Option Nat} (hw : ∀ w, was = some w → w < m ∧ zco (K w) N) :
    Ev (ZY P) mX1_slotFor [.ref 36, .ref 31, .int (fI (zfst (fun i => zcB (zco (K i) N)) m)), .int (fI was)] u (some (.int (fI (ztk kd K m N was)))) u := by
  refine EQ_ev (EQ_V vX1_slotFor rfl ?_)
  refine RQ_n (ZY_ok P) 2 rfl trivial ?_
  cases hco : zfst (fun i => zcB (zco (K i) N)) m with
  | none =>
    have hno : ∀ b, b < m → ¬ zco (K b) N := fun b hb y => by
      have := zfst_n.mp hco b hb
      rw [zcB_t y] at this; cases this
    have e1 : ztk kd K m N was = none := by
      cases hz : ztk kd K m N was with
      | none => rfl
      | some t =>
        obtain ⟨t1, t2⟩ := ztk_lt hz (fun w hw' => (hw w hw').1)
        exact absurd (zdt_co t2) (hno t t1)
    refine RQ_b rfl (fun _ => ?_) (fun y => absurd rfl y)
    refine RQ_n (ZY_ok P) 1 rfl trivial ?_
    exact RQ_to (Rn_iret rfl rfl) ⟨by rw [e1], rfl⟩
  | some c =>
    obtain ⟨c1, c2, c3⟩ := zfst_s hco
    have c2 := zcB_iff.mp c2
    have c3 : ∀ b, b < c → ¬ zco (K b) N := fun b hb y => by
      have := c3 b hb
      rw [zcB_t y] at this; cases this
    refine RQ_b rfl (fun y => absurd y (nI_m1 (by omega))) (fun _ => ?_)
    refine RQ_n (ZY_ok P) 3 rfl trivial ?_
    refine RQ_b rfl (fun y => ?_) (fun y => ?_)
    rotate_left
    · have y := (zq_eq hk (show (2 : Int32) = nI 2 from rfl) (by omega) (by omega)).mp (Classical.not_not.mp y)
      refine RQ_n (ZY_ok P) 1 rfl trivial ?_
      refine RQ_to (Rn_iret rfl rfl) ⟨?_, rfl⟩
      subst y
      have e1 : ztk 2 K m N was = some c := by
        unfold ztk
        rw [zcB_f (fun z => absurd z.1 (by decide)), if_neg (by decide)]
        refine zfst_i c1 (zcB_t ?_) (fun b hb => zcB_f (fun z => c3 b hb (zdt_co z)))
        unfold zdt; rw [if_neg (by decide), if_neg (by decide)]; exact c2
      rw [e1]
    have y := (not_congr (zq_eq hk (show (2 : Int32) = nI 2 from rfl) (by omega) (by omega))).mp y
    -- the slots behind
    have loop : ¬ (kd = 1 ∧ ∃ w, was = some w ∧ zdt kd (K w) N) → RnQ (ZY P) mX1_slotFor (42, [some (.ref 36), some (.ref 31), some (.int (nI c)), some (.int (fI was)), none, none], [], u) (fun r v => r = some (.int (fI (ztk kd K m N was))) ∧ v = u) := by
      intro hno
      have etk : ztk kd K m N was = zfst (fun s => zcB (zdt kd (K s) N)) m := by unfold ztk; rw [zcB_f hno, if_neg (by decide)]
      rw [etk]
      refine RQ_n (ZY_ok P) 2 rfl trivial ?_
      have key := loopU (Z := ZY P) (M := mX1_slotFor) (pc := 45) (Q := fun r v => r = some (.int (fI (zfst (fun s => zcB (zdt kd (K s) N)) m))) ∧ v = u) (m - c) (fun d (_ : Unit) => [some (.ref 36), some (.ref 31), some (.int (nI c)), some (.int (fI was)), some (.int (nI (c + d))), none]) (fun d _ v => v = u ∧ ∀ b, b < c + d → zcB (zdt kd (K b) N) = false) ?_ 0 () u (by omega) ⟨rfl, fun b hb => zcB_f (fun z => c3 b (by omega) (zdt_co z))⟩
      · exact key
      intro d _ v hd hJ ih
      obtain ⟨rfl, he⟩ := hJ
      obtain ⟨i, hi⟩ : ∃ i, i = c + d := ⟨_, rfl⟩
      rw [← hi] at he ⊢
      refine RQ_n (ZY_ok P) 3 rfl trivial ?_
      refine RQ_b rfl (fun z => ?_) (fun z => ?_)
      · have z := (zq_le h5 rfl (by omega) (by omega)).mp z
        refine RQ_n (ZY_ok P) 1 rfl trivial ?_
        exact RQ_to (Rn_iret rfl rfl) ⟨by rw [zfst_n.mpr (fun b hb => he b (by omega))]; rfl, rfl⟩
      have z := (not_congr (zq_le h5 rfl (by omega) (by omega))).mp z
      have him : i < m := by omega
      have hin : vp_in (nI i) 200 := nI_in (by omega) (by omega)
      have hic : (nI i).toNatClampNeg = i := nI_clamp (by omega)
      obtain ⟨c', hc1, hc2⟩ := hC i him
      obtain ⟨k1, ⟨k2, k3⟩, k4⟩ := hK.1 i him
      have hcl := hc2.1
      have next : zcB (zdt kd (K i) N) = false → ∀ o, RnQ (ZY P) mX1_slotFor (104, [some (.ref 36), some (.ref 31), some (.int (nI c)), some (.int (fI was)), some (.int (nI i)), o], [], v) (fun r w => r = some (.int (fI (zfst (fun s => zcB (zdt kd (K s) N)) m))) ∧ w = v) := by
        intro hf o
        refine RQ_n (ZY_ok P) 2 rfl trivial ?_
        refine ih (by omega) () _ _ ⟨rfl, rfl, rfl, rfl, ?_, trivial⟩ ⟨rfl, fun b hb => ?_⟩
        · show Value.int (nI (c + (d + 1))) = Value.int (nI i + 1)
          rw [nI_1, hi]; rfl
        · by_cases y : b = i
          · subst y; exact hf
          · exact he b (by omega)
      have found : zdt kd (K i) N → ∀ o, RnQ (ZY P) mX1_slotFor (101, [some (.ref 36), some (.ref 31), some (.int (nI c)), some (.int (fI was)), some (.int (nI i)), o], [], v) (fun r w => r = some (.int (fI (zfst (fun s => zcB (zdt kd (K s) N)) m))) ∧ w = v) := by
        intro hf o
        refine RQ_n (ZY_ok P) 1 rfl trivial ?_
        exact RQ_to (Rn_iret rfl rfl) ⟨by rw [zfst_i him (zcB_t hf) he]; rfl, rfl⟩
      refine RQ_n (ZY_ok P) 2 rfl trivial ?_
      refine RQ_v vX1_kernelIn (y_kernelIn (by omega) k1) rfl k1_64 rfl rfl rfl (zy36 v rfl) rfl ?_
      refine RQ_n (ZY_ok P) 6 rfl ⟨hin, trivial⟩ ?_
      rw [hic, hc1]
      refine RQ_b rfl (fun z2 => ?_) (fun z2 => ?_)
      · have z2 := (not_congr (zq_eq (a := c') (b := c) rfl rfl (by omega) (by omega))).mp z2
        refine next (zcB_f (fun y1 => z2 ?_)) _
        have hzi := zdt_co y1
        have : zcf K i c := ⟨by omega, zco_tr c2 (zco_sy hzi), fun x hx hz => c3 x hx (zco_tr hz hzi)⟩
        exact zcf_un hc2 this
      have z2 := (zq_eq (a := c') (b := c) rfl rfl (by omega) (by omega)).mp (Classical.not_not.mp z2)
      subst z2
      have hcoi : zco (K i) N := zco_tr (zco_sy hc2.2.1) c2
      refine RQ_n (ZY_ok P) 2 rfl trivial ?_
      refine RQ_b rfl (fun z3 => ?_) (fun z3 => ?_)
      · have z3 := (not_congr (zq_eq hk (show (0 : Int32) = nI 0 from rfl) (by omega) (by omega))).mp z3
        have hk1 : kd = 1 := by omega
        refine RQ_n (ZY_ok P) 2 rfl trivial ?_
        refine RQ_v vX7_isCompatible (y_isCompatible k3 (Or.inr (Or.inl rfl)) (by omega) k4 hN hcoi) rfl k1_83 rfl rfl rfl (zyk k3 rfl) rfl ?_
        have ed : zdt kd (K i) N = (zco (K i) N ∧ zwk (K i) N) := by unfold zdt; rw [if_neg z3, if_pos hk1]
        refine RQ_b rfl (fun z4 => ?_) (fun z4 => ?_)
        · have z4 := bI_zcB_0.mp z4
          exact next (zcB_f (fun y1 => by rw [ed] at y1; exact z4 y1.2)) _
        · have z4 := zcB_iff.mp (bI_t z4)
          exact found (by rw [ed]; exact ⟨hcoi, z4⟩) _
      · have z3 := (zq_eq hk (show (0 : Int32) = nI 0 from rfl) (by omega) (by omega)).mp (Classical.not_not.mp z3)
        refine RQ_n (ZY_ok P) 2 rfl trivial ?_
        refine RQ_v vX7_hasLooksOf (y_hasLooksOf k3 (Or.inr (Or.inl rfl)) (by omega) k4 hN hcoi) rfl k1_86 rfl rfl rfl (zyk k3 rfl) rfl ?_
        have ed : zdt kd (K i) N = (∀ j, j < 102 → K i j = N j) := by unfold zdt; rw [if_pos z3]
        refine RQ_b rfl (fun z4 => ?_) (fun z4 => ?_)
        · have z4 := bI_zcB_0.mp z4
          exact next (zcB_f (fun y1 => by rw [ed] at y1; exact z4 y1)) _
        · have z4 := zcB_iff.mp (bI_t z4)
          refine RQ_n (ZY_ok P) 1 rfl trivial ?_
          exact found (by rw [ed]; exact z4) _
    refine RQ_n (ZY_ok P) 3 rfl trivial ?_
    refine RQ_b rfl (fun y2 => ?_) (fun y2 => ?_)
    · have y2 := (not_congr (zq_eq hk (show (1 : Int32) = nI 1 from rfl) (by omega) (by omega))).mp y2
      exact loop (fun z => y2 z.1)
    have y2 := (zq_eq hk (show (1 : Int32) = nI 1 from rfl) (by omega) (by omega)).mp (Classical.not_not.mp y2)
    refine RQ_n (ZY_ok P) 2 rfl trivial ?_
    cases hwas : was with
    | none =>
      rw [hwas] at loop
      exact RQ_b rfl (fun _ => loop (fun z => by obtain ⟨-, w, hw1, -⟩ := z; cases hw1)) (fun z => absurd rfl z)
    | some w =>
      rw [hwas] at loop
      obtain ⟨w1, w2⟩ := hw w hwas
      obtain ⟨k1, ⟨k2, k3⟩, k4⟩ := hK.1 w w1
      have ed : zdt kd (K w) N = (zco (K w) N ∧ zwk (K w) N) := by unfold zdt; rw [if_neg (by omega), if_pos y2]
      refine RQ_b rfl (fun z => absurd z (nI_m1 (by omega))) (fun _ => ?_)
      refine RQ_n (ZY_ok P) 2 rfl trivial ?_
      refine RQ_v vX1_kernelIn (y_kernelIn (by omega) k1) rfl k1_64 rfl rfl rfl (zy36 u rfl) rfl ?_
      refine RQ_n (ZY_ok P) 1 rfl trivial ?_
      refine RQ_v vX7_isCompatible (y_isCompatible k3 (Or.inr (Or.inl rfl)) (by omega) k4 hN w2) rfl k1_83 rfl rfl rfl (zyk k3 rfl) rfl ?_
      refine RQ_b rfl (fun z4 => ?_) (fun z4 => ?_)
      · have z4 := bI_zcB_0.mp z4
        refine loop (fun z => ?_)
        obtain ⟨-, w', hw1, hw2⟩ := z
        cases hw1
        rw [ed] at hw2
        exact z4 hw2.2
      · have z4 := zcB_iff.mp (bI_t z4)
        refine RQ_n (ZY_ok P) 1 rfl trivial ?_
        refine RQ_to (Rn_iret rfl rfl) ⟨?_, rfl⟩
        unfold ztk
        rw [zcB_t ⟨y2, w, rfl, by rw [ed]; exact ⟨w2, z4⟩⟩, if_pos rfl]
