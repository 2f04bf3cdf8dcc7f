/-! The reference: isWeakly, doesTake, takerOf. -/
set_option maxHeartbeats 1000000 in
theorem m_isWeakly {G : ZGT} {u : SM} (h : ZGM G u) {kd st : Nat} (hk : kd < 3) (hs : st < 200) (h2 : zhi G (u.2.1 45)) : Ev ZR mX12_isWeakly [.ref 0, .int (nI kd), .int (nI st)] u (some (.int (bI (zcB (zwk (mK kd u st) (u.2.1 45)))))) u := by
  have hb := h.b
  have hrow := mrow_lt hk hs
  obtain ⟨row, hrw⟩ : ∃ row, row = mrow kd st := ⟨_, rfl⟩
  obtain ⟨N, hN⟩ : ∃ N, N = u.2.1 45 := ⟨_, rfl⟩
  obtain ⟨K, hK⟩ : ∃ K : Nat → Int32, K = mK kd u st := ⟨_, rfl⟩
  rw [← hN] at h2
  rw [← hrw] at hrow
  rw [← hN, ← hK]
  have eK : ∀ i, u.2.1 38 (row + i) = K i := fun i => by rw [hK, hrw]; rfl
  refine EQ_ev (EQ_V vX12_isWeakly rfl ?_)
  refine RQ_n ZR_ok 2 rfl trivial ?_
  refine RQ_s vX12_rowOf (e_rowOf u kd st) rfl k12_352 rfl rfl rfl rfl ?_
  rw [← hrw]
  refine RQ_n ZR_ok 3 rfl trivial ?_
  have e6 : (6 : Int32) * (u.1 15 + 1) = nI (6 * (zgR G + 1)) := by rw [h.R, nI_1, show (6 : Int32) = nI 6 from rfl, nI_mul]
  refine loopU (6 * (zgR G + 1)) (fun i (_ : Unit) => [some (.ref 0), some (.int (nI kd)), some (.int (nI st)), some (.int (nI row)), some (.int (nI i)), none, none, none, none]) (fun i _ v => v = u ∧ ∀ a, a < i → ∀ b, b < a → N a ≠ 0 → N b ≠ 0 → zwp K N a b) ?_ 0 () u (by omega) ⟨rfl, fun a ha => by omega⟩
  intro i _ v hi hJ ih
  obtain ⟨rfl, he⟩ := hJ
  refine RQ_n ZR_ok 7 rfl trivial ?_
  refine RQ_b rfl (fun q => ?_) (fun q => ?_)
  · have q := (zq_le e6 rfl (by omega) (by omega)).mp q
    refine RQ_n ZR_ok 1 rfl trivial ?_
    have hw : zwk K N := fun a ha b hb hna hnb => he a (Nat.lt_of_not_le fun z => hna (h2 a ha (by omega))) b hb hna hnb
    exact RQ_to (Rn_zret rfl rfl (Or.inr rfl)) ⟨by rw [zcB_t hw]; rfl, rfl⟩
  have q := (not_congr (zq_le e6 rfl (by omega) (by omega))).mp q
  have hi2 : i < 6 * (zgR G + 1) := by omega
  have hri : nI row + nI i = nI (row + i) := nI_add _ _
  have hini : vp_in (nI (row + i)) 61200 := nI_in (by omega) (by omega)
  have hic : (nI (row + i)).toNatClampNeg = row + i := nI_clamp (by omega)
  have hi45 : vp_in (nI i) 102 := nI_in (by omega) (by omega)
  have hic2 : (nI i).toNatClampNeg = i := nI_clamp (by omega)
  refine RQ_n ZR_ok 2 rfl trivial ?_
  refine loopU i (fun j (_ : Unit) => [some (.ref 0), some (.int (nI kd)), some (.int (nI st)), some (.int (nI row)), some (.int (nI i)), some (.int (nI j)), none, none, none]) (fun j _ w => w = v ∧ ∀ b, b < j → N i ≠ 0 → N b ≠ 0 → zwp K N i b) ?_ 0 () v (by omega) ⟨rfl, fun b hb => by omega⟩
  intro j _ w hj hJ2 ih2
  obtain ⟨rfl, he2⟩ := hJ2
  have out : (N i = 0 ∨ i ≤ j) → RnQ ZR mX12_isWeakly (147, [some (.ref 0), some (.int (nI kd)), some (.int (nI st)), some (.int (nI row)), some (.int (nI i)), some (.int (nI j)), none, none, none], [], w) (fun r x => r = some (.int (bI (zcB (zwk K N)))) ∧ x = w) := by
    intro ho
    refine RQ_n ZR_ok 2 rfl trivial ?_
    refine ih hi2 () _ _ ⟨rfl, rfl, rfl, rfl, nIs i, trivial⟩ ⟨rfl, fun a ha b hb hna hnb => ?_⟩
    by_cases y : a = i
    · subst y
      rcases ho with ho | ho
      · exact absurd ho hna
      · exact he2 b (by omega) hna hnb
    · exact he a (by omega) b hb hna hnb
  refine RQ_n ZR_ok 2 rfl trivial ?_
  refine RQ_b rfl (fun z => out (Or.inr ((zq_le (a := i) (b := j) rfl rfl (by omega) (by omega)).mp z))) (fun z => ?_)
  have z := (not_congr (zq_le (a := i) (b := j) rfl rfl (by omega) (by omega))).mp z
  have hji : j < i := by omega
  refine RQ_n ZR_ok 4 rfl ⟨hi45, trivial⟩ ?_
  rw [hic2, ← hN]
  refine RQ_b rfl (fun z2 => out (Or.inl z2)) (fun z2 => ?_)
  have z2 : ¬ N i = 0 := z2
  have hj45 : vp_in (nI j) 102 := nI_in (by omega) (by omega)
  have hjc2 : (nI j).toNatClampNeg = j := nI_clamp (by omega)
  have hrj : nI row + nI j = nI (row + j) := nI_add _ _
  have hinj : vp_in (nI (row + j)) 61200 := nI_in (by omega) (by omega)
  have hjc : (nI (row + j)).toNatClampNeg = row + j := nI_clamp (by omega)
  have next : (N j ≠ 0 → zwp K N i j) → ∀ o6 o7 o8, RnQ ZR mX12_isWeakly (141, [some (.ref 0), some (.int (nI kd)), some (.int (nI st)), some (.int (nI row)), some (.int (nI i)), some (.int (nI j)), o6, o7, o8], [], w) (fun r x => r = some (.int (bI (zcB (zwk K N)))) ∧ x = w) := by
    intro hw o6 o7 o8
    refine RQ_n ZR_ok 2 rfl trivial ?_
    refine ih2 hji () _ _ ⟨rfl, rfl, rfl, rfl, rfl, nIs j, trivial⟩ ⟨rfl, fun b hb hna hnb => ?_⟩
    by_cases y : b = j
    · subst y; exact hw hnb
    · exact he2 b (by omega) hna hnb
  refine RQ_n ZR_ok 4 rfl ⟨hj45, trivial⟩ ?_
  rw [hjc2, ← hN]
  refine RQ_b rfl (fun z3 => next (fun y => absurd z3 y) _ _ _) (fun z3 => ?_)
  have z3 : ¬ N j = 0 := z3
  refine RQ_n ZR_ok 5 rfl trivial ?_
  rw [hri]
  refine RQ_n ZR_ok 7 rfl ⟨hini, trivial⟩ ?_
  rw [hic, eK, hrj]
  refine RQ_n ZR_ok 8 rfl ⟨hinj, hj45, trivial⟩ ?_
  rw [hjc, eK, hjc2, ← hN]
  have tail : ((K i &&& N j) ≠ 0 ∨ (K j &&& N i) ≠ 0) → RnQ ZR mX12_isWeakly (105, [some (.ref 0), some (.int (nI kd)), some (.int (nI st)), some (.int (nI row)), some (.int (nI i)), some (.int (nI j)), some (.int (K i)), some (.int (K j)), none], [], w) (fun r x => r = some (.int (bI (zcB (zwk K N)))) ∧ x = w) := by
    intro hcr
    refine RQ_n ZR_ok 3 rfl trivial ?_
    refine RQ_b rfl (fun z => absurd rfl z) (fun _ => ?_)
    refine RQ_n ZR_ok 3 rfl trivial ?_
    refine RQ_b rfl (fun z4 => next (fun _ => Or.inr (Or.inl z4)) _ _ _) (fun z4 => ?_)
    have z4 : (K i &&& K j) = 0 := Classical.not_not.mp z4
    refine RQ_n ZR_ok 9 rfl ⟨hi45, hj45, trivial⟩ ?_
    rw [hic2, hjc2, ← hN]
    refine RQ_b rfl (fun z5 => next (fun _ => Or.inr (Or.inr z5)) _ _ _) (fun z5 => ?_)
    have z5 : (N i &&& N j) = 0 := Classical.not_not.mp z5
    refine RQ_n ZR_ok 1 rfl trivial ?_
    have hno : ¬ zwk K N := fun y => by
      rcases y i (by omega) j hji z2 z3 with y | y | y
      · rcases hcr with w | w
        · exact w y.1
        · exact w y.2
      · exact y z4
      · exact y z5
    exact RQ_to (Rn_zret rfl rfl (Or.inl rfl)) ⟨by rw [zcB_f hno]; rfl, rfl⟩
  refine RQ_b rfl (fun z4 => tail (Or.inl z4)) (fun z4 => ?_)
  have z4 : (K i &&& N j) = 0 := Classical.not_not.mp z4
  refine RQ_n ZR_ok 6 rfl ⟨hi45, trivial⟩ ?_
  rw [hic2, ← hN]
  refine RQ_b rfl (fun z5 => tail (Or.inr z5)) (fun z5 => ?_)
  have z5 : (K j &&& N i) = 0 := Classical.not_not.mp z5
  refine RQ_n ZR_ok 4 rfl trivial ?_
  exact RQ_b rfl (fun _ => next (fun _ => Or.inl ⟨z4, z5⟩) _ _ _) (fun z => absurd (by show ¬ ((1 : Int32) = 0); decide) z)
theorem m_doesTake {G : ZGT} {u : SM} (h : ZGM G u) {kd st : Nat} (hk : kd < 3) (hs : st < 200) (h1 : zhi G (mK kd u st)) (h2 : zhi G (u.2.1 45)) : Ev ZR mX12_doesTake [.ref 0, .int (nI kd), .int (nI st)] u (some (.int (bI (zcB (zdt kd (mK kd u st) (u.2.1 45)))))) u := by
  have n0 := m_isNext h hk hs false h1 h2
  have n1 := m_isNext h hk hs true h1 h2
  rw [if_neg (by decide)] at n0
  rw [if_pos rfl] at n1
  refine EQ_ev (EQ_V vX12_doesTake rfl ?_)
  refine RQ_n ZR_ok 1 rfl trivial ?_
  refine RQ_b rfl (fun q => ?_) (fun q => ?_)
  · have q := (not_congr (zq_eq (a := kd) (b := 0) rfl rfl (by omega) (by omega))).mp q
    refine RQ_n ZR_ok 4 rfl trivial ?_
    refine RQ_v vX12_isNext n1 rfl k12_364 rfl rfl rfl rfl rfl ?_
    refine RQ_b rfl (fun q2 => ?_) (fun q2 => ?_)
    · have q2 := bI_0.mp q2
      refine RQ_n ZR_ok 1 rfl trivial ?_
      refine RQ_to (Rn_zret rfl rfl (Or.inl rfl)) ⟨?_, rfl⟩
      rw [zcB_f (fun z => ?_)]; rfl
      rw [zcB_t (zdt_co z)] at q2; cases q2
    have q2 := zcB_iff.mp (bI_t q2)
    refine RQ_n ZR_ok 2 rfl trivial ?_
    refine RQ_b rfl (fun q3 => ?_) (fun q3 => ?_)
    · have q3 := (zq_eq (a := kd) (b := 2) rfl rfl (by omega) (by omega)).mp q3
      refine RQ_n ZR_ok 2 rfl trivial ?_
      refine RQ_to (Rn_zret rfl rfl (Or.inr rfl)) ⟨?_, rfl⟩
      rw [zcB_t (by unfold zdt; rw [if_neg q, if_neg (by omega)]; exact q2)]; rfl
    have q3 := (not_congr (zq_eq (a := kd) (b := 2) rfl rfl (by omega) (by omega))).mp q3
    have e1 : zdt kd (mK kd u st) (u.2.1 45) = (zco (mK kd u st) (u.2.1 45) ∧ zwk (mK kd u st) (u.2.1 45)) := by unfold zdt; rw [if_neg q, if_pos (by omega)]
    rw [e1]
    refine RQ_n ZR_ok 3 rfl trivial ?_
    refine RQ_v vX12_isWeakly (m_isWeakly h hk hs h2) rfl k12_368 rfl rfl rfl rfl rfl ?_
    refine RQ_b rfl (fun q4 => ?_) (fun q4 => ?_)
    · have q4 := bI_0.mp q4
      refine RQ_n ZR_ok 1 rfl trivial ?_
      refine RQ_to (Rn_zret rfl rfl (Or.inl rfl)) ⟨?_, rfl⟩
      rw [zcB_f (fun z => by rw [zcB_t z.2] at q4; cases q4)]; rfl
    · have q4 := zcB_iff.mp (bI_t q4)
      refine RQ_n ZR_ok 2 rfl trivial ?_
      refine RQ_to (Rn_zret rfl rfl (Or.inr rfl)) ⟨?_, rfl⟩
      rw [zcB_t ⟨q2, q4⟩]; rfl
  · have q := (zq_eq (a := kd) (b := 0) rfl rfl (by omega) (by omega)).mp (Classical.not_not.mp q)
    refine RQ_n ZR_ok 4 rfl trivial ?_
    refine RQ_v vX12_isNext n0 rfl k12_364 rfl rfl rfl rfl rfl ?_
    refine RQ_n ZR_ok 1 rfl trivial ?_
    refine RQ_to (Rn_zret rfl rfl (bI_01 _)) ⟨?_, rfl⟩
    have e1 : zdt kd (mK kd u st) (u.2.1 45) = (∀ i, i < 102 → mK kd u st i = u.2.1 45 i) := by unfold zdt; rw [if_pos q]
    rw [e1]
/-- K in the reference: the kernels of the states below m -/
theorem m_takerOf {G : ZGT} {u : SM} (h : ZGM G u) {kd m : Nat} {K : Nat → Nat → Int32} (hk : kd < 3) (hm : m ≤ 200) (h44 : u.2.1 44 kd = nI m) (hK : ∀ s, s < m → ∀ i, i < 102 → mK kd u s i = K s i) (h1 : ∀ s, s < m → zhi G (K s)) (h2 : zhi G (u.2.1 45)) {was : Option Nat} (hw : ∀ w, was = some w → w < m) : Ev ZR mX12_takerOf [.ref 0, .int (nI kd), .int (fI was)] u (some (.int (fI (ztk kd K m (u.2.1 45) was)))) u := by
  have hcg : ∀ s, s < m → (zdt kd (mK kd u s) (u.2.1 45) ↔ zdt kd (K s) (u.2.1 45)) := by
    intro s hs
    have e1 : ∀ i, i < 102 → mK kd u s i = K s i := hK s hs
    have c1 : (∀ i, i < 102 → mK kd u s i = u.2.1 45 i) ↔ ∀ i, i < 102 → K s i = u.2.1 45 i := ⟨fun z i hi => by rw [← e1 i hi]; exact z i hi, fun z i hi => by rw [e1 i hi]; exact z i hi⟩
    have c2 : zco (mK kd u s) (u.2.1 45) ↔ zco (K s) (u.2.1 45) := ⟨fun z i hi => by rw [← e1 i hi]; exact z i hi, fun z i hi => by rw [e1 i hi]; exact z i hi⟩
    have c3 : zwk (mK kd u s) (u.2.1 45) ↔ zwk (K s) (u.2.1 45) := by
      refine ⟨fun z i hi j hj a b => ?_, fun z i hi j hj a b => ?_⟩
      · have := z i hi j hj a b; unfold zwp at this ⊢; rw [e1 i hi, e1 j (by omega)] at this; exact this
      · have := z i hi j hj a b; unfold zwp at this ⊢; rw [e1 i hi, e1 j (by omega)]; exact this
    unfold zdt
    by_cases z : kd = 0
    · rw [if_pos z, if_pos z]; exact c1
    · rw [if_neg z, if_neg z]
      by_cases y : kd = 1
      · rw [if_pos y, if_pos y, c2, c3]
      · rw [if_neg y, if_neg y]; exact c2
  have hdt : ∀ s, s < m → Ev ZR mX12_doesTake [.ref 0, .int (nI kd), .int (nI s)] u (some (.int (bI (zcB (zdt kd (K s) (u.2.1 45)))))) u := by
    intro s hs
    have h0 := m_doesTake h hk (st := s) (by omega) (fun i hi hh => by rw [hK s hs i hi]; exact h1 s hs i hi hh) h2
    have e : zcB (zdt kd (mK kd u s) (u.2.1 45)) = zcB (zdt kd (K s) (u.2.1 45)) := by
      by_cases z : zdt kd (K s) (u.2.1 45)
      · rw [zcB_t z, zcB_t ((hcg s hs).mpr z)]
      · rw [zcB_f z, zcB_f (fun y => z ((hcg s hs).mp y))]
    rw [e] at h0
    exact h0
  refine EQ_ev (EQ_V vX12_takerOf rfl ?_)
  refine RQ_n ZR_ok 2 rfl trivial ?_
  have loop : ¬ (kd = 1 ∧ ∃ w, was = some w ∧ zdt kd (K w) (u.2.1 45)) → RnQ ZR mX12_takerOf (21, [some (.ref 0), some (.int (nI kd)), some (.int (fI was)), none], [], u) (fun r v => r = some (.int (fI (ztk kd K m (u.2.1 45) was))) ∧ v = u) := by
    intro hno
    have etk : ztk kd K m (u.2.1 45) was = zfst (fun s => zcB (zdt kd (K s) (u.2.1 45))) m := by unfold ztk; rw [zcB_f hno, if_neg (by decide)]
    rw [etk]
    refine RQ_n ZR_ok 2 rfl trivial ?_
    refine loopU m (fun s (_ : Unit) => [some (.ref 0), some (.int (nI kd)), some (.int (fI was)), some (.int (nI s))]) (fun s _ v => v = u ∧ ∀ b, b < s → zcB (zdt kd (K b) (u.2.1 45)) = false) ?_ 0 () u (by omega) ⟨rfl, fun b hb => by omega⟩
    intro s _ v hs hJ ih
    obtain ⟨rfl, he⟩ := hJ
    have e44 : v.2.1 44 (nI kd).toNatClampNeg = nI m := by rw [nI_clamp (by omega)]; exact h44
    refine RQ_n ZR_ok 5 rfl ⟨nI_in (by omega) (by omega), trivial⟩ ?_
    refine RQ_b rfl (fun q => ?_) (fun q => ?_)
    · have q := (zq_le e44 rfl (by omega) (by omega)).mp q
      refine RQ_n ZR_ok 1 rfl trivial ?_
      exact RQ_to (Rn_iret rfl rfl) ⟨by rw [zfst_n.mpr (fun b hb => he b (by omega))]; rfl, rfl⟩
    have q := (not_congr (zq_le e44 rfl (by omega) (by omega))).mp q
    refine RQ_n ZR_ok 3 rfl trivial ?_
    refine RQ_v vX12_doesTake (hdt s (by omega)) rfl k12_371 rfl rfl rfl rfl rfl ?_
    refine RQ_b rfl (fun q2 => ?_) (fun q2 => ?_)
    · have q2 := bI_0.mp q2
      refine RQ_n ZR_ok 2 rfl trivial ?_
      refine ih (by omega) () _ _ ⟨rfl, rfl, rfl, nIs s, trivial⟩ ⟨rfl, fun b hb => ?_⟩
      by_cases y : b = s
      · subst y; exact q2
      · exact he b (by omega)
    · have q2 := bI_t q2
      refine RQ_n ZR_ok 1 rfl trivial ?_
      exact RQ_to (Rn_iret rfl rfl) ⟨by rw [zfst_i (by omega) q2 he]; rfl, rfl⟩
  refine RQ_b rfl (fun q => ?_) (fun q => ?_)
  · have q := (not_congr (zq_eq (a := kd) (b := 1) rfl rfl (by omega) (by omega))).mp q
    exact loop (fun z => q z.1)
  have q := (zq_eq (a := kd) (b := 1) rfl rfl (by omega) (by omega)).mp (Classical.not_not.mp q)
  refine RQ_n ZR_ok 2 rfl trivial ?_
  cases hwas : was with
  | none =>
    rw [hwas] at loop
    refine RQ_b rfl (fun _ => loop (fun z => by obtain ⟨-, w, hw1, -⟩ := z; cases hw1)) (fun z => absurd rfl z)
  | some w =>
    rw [hwas] at loop
    have hwm := hw w hwas
    refine RQ_b rfl (fun z => absurd z (nI_m1 (by omega))) (fun _ => ?_)
    refine RQ_n ZR_ok 3 rfl trivial ?_
    refine RQ_v vX12_doesTake (hdt w hwm) rfl k12_371 rfl rfl rfl rfl rfl ?_
    refine RQ_b rfl (fun q2 => ?_) (fun q2 => ?_)
    · have q2 := bI_0.mp q2
      refine loop (fun z => ?_)
      obtain ⟨-, w', hw1, hw2⟩ := z
      cases hw1
      rw [zcB_t hw2] at q2; cases q2
    · have q2 := zcB_iff.mp (bI_t q2)
      refine RQ_n ZR_ok 1 rfl trivial ?_
      refine RQ_to (Rn_iret rfl rfl) ⟨?_, rfl⟩
      unfold ztk
      rw [zcB_t ⟨q, w, rfl, q2⟩, if_pos rfl]
