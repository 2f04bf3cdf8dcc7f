/-! doesMend, mends: the reference. -/
section MMend2
variable {G : ZGT} {kd m : Nat} {os : Nat → Option ZAS} {s : SM} {ln : Nat → Nat} {yy : Nat → Nat → Nat} {nb : Nat → Int32} {sl : Nat → Nat} {A : ZAS}
set_option maxHeartbeats 2000000 in
theorem m_doesMend (hk3 : kd < 3) (hZ : ∀ kd, kd < 3 → ZAt G kd (os kd)) (h : RGr G os s) (h30 : s.2.1 30 kd = 1) (ho : os kd = some A) (hS : SnM m ln yy s) (hT : TMc G nb sl s) {k pl c : Nat} (hk : k < m) (hp : pl ≤ ln k) (hc : c < 20 + zgT G) :
    EvQ ZR mX12_doesMend [.ref 0, .int (nI kd), .int (nI k), .int (nI pl), .int (nI c)] s (fun x v => x = some (.int (bI (zdm G (zN A) (s.1 24) (ln k) (fun i => zsno sl (zgT G) (yy k i)) pl c))) ∧ RGr G os v ∧ frM [57, 62, 63, 64, 65, 71] [56, 58, 59, 60, 61, 66, 67, 68, 69, 70] s v) := by
  have hb := h.1.b
  have hm4 := hS.2.1
  obtain ⟨s1, s2, s3⟩ := hS.2.2 k hk
  obtain ⟨b1, b2⟩ := h.a hk3 h30 ho
  have hF := zN_F (ZAt_all h.1.1 b2 (ho ▸ hZ kd hk3)) (show ZAt G kd (some A) from ho ▸ hZ kd hk3).2
  obtain ⟨I0, hI0⟩ : ∃ I0 : Nat → Nat, I0 = fun i => zsno sl (zgT G) (yy k i) := ⟨_, rfl⟩
  have hlm := m_layMended (pl := pl) (c := c) h.1 hS hT hk hp
  rw [show (fun i => zsno sl (zgT G) (yy k i)) = I0 from hI0.symm] at hlm ⊢
  have hIk : ∀ i, I0 i ≤ zgT G ∨ I0 i = 99 := fun i => by rw [hI0]; exact zsno_ok sl (zgT G) (yy k i)
  obtain ⟨Q, hQ⟩ : ∃ Q : Option Value → SM → Prop, Q = (fun x v => x = some (.int (bI (zdm G (zN A) (s.1 24) (ln k) I0 pl c))) ∧ RGr G os v ∧ frM [57, 62, 63, 64, 65, 71] [56, 58, 59, 60, 61, 66, 67, 68, 69, 70] s v) := ⟨_, rfl⟩
  rw [← hQ]
  refine EQ_V vX12_doesMend rfl ?_
  obtain ⟨l7, hl7⟩ : ∃ l7 : Int32, l7 = if c < 20 then nI c - 1 else nI c - 20 := ⟨_, rfl⟩
  -- behind the question whether it may be tried
  have p115 : ∀ (b : Bool) (x6 : Int32), b = zmv (zgT G) (ln k) I0 pl c → RnQ ZR mX12_doesMend (115, [some (.ref 0), some (.int (nI kd)), some (.int (nI k)), some (.int (nI pl)), some (.int (nI c)), some (.int (nI (ln k))), some (.int x6), some (.int l7), none], [.int (bI b)], s) Q := by
    intro b x6 hbv
    refine RQ_n ZR_ok 2 rfl trivial ?_
    cases b with
    | false =>
      refine RQ_b rfl (fun z => absurd rfl z) (fun _ => ?_)
      refine RQ_n ZR_ok 1 rfl trivial ?_
      rw [hQ]
      exact RQ_to (Rn_zret rfl rfl (Or.inl rfl)) ⟨by rw [zdm_f hbv.symm]; rfl, h, frM.rf⟩
    | true =>
      refine RQ_b rfl (fun _ => ?_) (fun z => absurd (Classical.not_not.mp z) (show ¬ (1 : Int32) = 0 by decide))
      have hv1 : c < 20 → pl < ln k := fun y => by
        have e := hbv.symm
        unfold zmv at e
        rw [if_pos y, Bool.and_eq_true, decide_eq_true_eq] at e
        exact e.1
      have hv2 : 20 ≤ c → ln k < 24 := fun y => by
        have e := hbv.symm
        unfold zmv at e
        rw [if_neg (by omega), Bool.and_eq_true, decide_eq_true_eq] at e
        exact e.1
      have hv3 : ∀ x, zms c = some x → x < zgT G := fun x hx => by
        have e := hbv.symm
        unfold zmv at e
        unfold zms at hx
        by_cases y0 : c = 0
        · rw [if_pos y0] at hx; cases hx
        rw [if_neg y0] at hx
        by_cases y : c < 20
        · rw [if_pos y] at hx
          rw [if_pos y, Bool.and_eq_true, decide_eq_false y0, Bool.false_or, Bool.and_eq_true, decide_eq_true_eq, decide_eq_true_eq] at e
          have := e.2.1
          have := Option.some.inj hx
          omega
        · rw [if_neg y] at hx
          have := Option.some.inj hx
          omega
      refine RQ_n ZR_ok 4 rfl trivial ?_
      refine RQ_V vX12_layMended (hlm hv1 hv2 (by omega)) rfl k12_509 rfl rfl rfl rfl (fun _ _ _ => rfl) (fun r1 v h1 => ?_)
      obtain ⟨rfl, q1, q2, q3⟩ := h1
      have g1 : RGr G os v := h.fr q3 (by decide) (by decide)
      have hlen : zcl1 (ln k) (zmo c) (zms c) ≤ 25 := by
        unfold zcl1
        split <;> omega
      refine RQ_n ZR_ok 3 rfl trivial ?_
      refine RQ_V vX12_readAll (m_readAll (md := 0) (p := s.1 24) g1.1 hF hk3 (b1.fr q3 (by decide)) (by omega) q1 hlen q2 (fun i _ => zci_ok (len := 0) hIk hv3 i)) rfl k12_503 rfl rfl rfl rfl (fun _ _ _ => rfl) (fun r4 v4 h4 => ?_)
      obtain ⟨rfl, -, -, r3⟩ := h4
      have g4 : RGr G os v4 := g1.fr r3 (by decide) (by decide)
      have F4 : frM [57, 62, 63, 64, 65, 71] [56, 58, 59, 60, 61, 66, 67, 68, 69, 70] s v4 := (q3.up (by decide) (by decide)).tr (r3.up (by decide) (by decide))
      have ee : (rrt G (zN A) (s.1 24) 0 (zcl1 (ln k) (zmo c) (zms c)) (zci I0 pl (zmo c) (zms c)) v).1 = (zcan G (zN A) (s.1 24) 0 (zcl1 (ln k) (zmo c) (zms c)) (zci I0 pl (zmo c) (zms c))).1 := (xr_rr (p := s.1 24) (md := 0) h.1.1 hF (fun i _ => zci_ok (len := 0) hIk hv3 i) sX0 v).1.symm.trans (xr_rr (p := s.1 24) (md := 0) h.1.1 hF (fun i _ => zci_ok (len := 0) hIk hv3 i) sX0 zt0).1
      have hlt : (zcan G (zN A) (s.1 24) 0 (zcl1 (ln k) (zmo c) (zms c)) (zci I0 pl (zmo c) (zms c))).1 < 3 := by
        unfold zcan rrt
        exact (zrt_end h.1.1 hF (fun i _ => zci_ok (len := 0) hIk hv3 i) 301 _ ⟨rr0_W hF.1.1 zt0, (rr0_W hF.1.1 zt0).k, Nat.zero_le _⟩ (fun _ => rfl)).1
      rw [ee]
      have hz : zdm G (zN A) (s.1 24) (ln k) I0 pl c = decide ((zcan G (zN A) (s.1 24) 0 (zcl1 (ln k) (zmo c) (zms c)) (zci I0 pl (zmo c) (zms c))).1 = 1) := by unfold zdm; rw [← hbv, Bool.true_and]
      rw [hQ, hz]
      obtain ⟨e, he⟩ : ∃ e, e = (zcan G (zN A) (s.1 24) 0 (zcl1 (ln k) (zmo c) (zms c)) (zci I0 pl (zmo c) (zms c))).1 := ⟨_, rfl⟩
      rw [← he] at hlt ⊢
      refine RQ_n ZR_ok 1 rfl trivial ?_
      by_cases y : e = 1
      · refine RQ_b rfl (fun q => absurd ((zq_eq (a := e) (b := 1) rfl rfl (by omega) (by omega)).mpr y) q) (fun _ => ?_)
        refine RQ_n ZR_ok 2 rfl trivial ?_
        exact RQ_to (Rn_zret rfl rfl (Or.inr rfl)) ⟨by rw [decide_eq_true y]; rfl, g4, F4⟩
      · refine RQ_b rfl (fun _ => ?_) (fun q => absurd ((zq_eq (a := e) (b := 1) rfl rfl (by omega) (by omega)).mp (Classical.not_not.mp q)) y)
        refine RQ_n ZR_ok 1 rfl trivial ?_
        exact RQ_to (Rn_zret rfl rfl (Or.inl rfl)) ⟨by rw [decide_eq_false y]; rfl, g4, F4⟩
  have p114 : ∀ (x6 : Int32), zmv (zgT G) (ln k) I0 pl c = false → RnQ ZR mX12_doesMend (114, [some (.ref 0), some (.int (nI kd)), some (.int (nI k)), some (.int (nI pl)), some (.int (nI c)), some (.int (nI (ln k))), some (.int x6), some (.int l7), none], [], s) Q := by
    intro x6 e
    refine RQ_n ZR_ok 1 rfl trivial ?_
    exact p115 false x6 e.symm
  have p110 : ∀ (x6 : Int32), zmv (zgT G) (ln k) I0 pl c = true → RnQ ZR mX12_doesMend (110, [some (.ref 0), some (.int (nI kd)), some (.int (nI k)), some (.int (nI pl)), some (.int (nI c)), some (.int (nI (ln k))), some (.int x6), some (.int l7), none], [], s) Q := by
    intro x6 e
    refine RQ_n ZR_ok 2 rfl trivial ?_
    exact p115 true x6 e.symm
  -- behind the place
  have p64 : ∀ (b : Bool), b = (if c < 20 then decide (pl < ln k) else decide (ln k < 24)) → RnQ ZR mX12_doesMend (64, [some (.ref 0), some (.int (nI kd)), some (.int (nI k)), some (.int (nI pl)), some (.int (nI c)), some (.int (nI (ln k))), some (.int (bI b)), some (.int l7), none], [], s) Q := by
    intro b hbv
    refine RQ_n ZR_ok 1 rfl trivial ?_
    cases b with
    | false =>
      refine RQ_b rfl (fun _ => p114 _ ?_) (fun z => absurd rfl z)
      unfold zmv
      by_cases y : c < 20
      · rw [if_pos y] at hbv ⊢; rw [← hbv]; rfl
      · rw [if_neg y] at hbv ⊢; rw [← hbv]; rfl
    | true =>
      refine RQ_b rfl (fun z => absurd (show (1 : Int32) = 0 from z) (by decide)) (fun _ => ?_)
      refine RQ_n ZR_ok 3 rfl trivial ?_
      rw [h.1.2.1.2.2]
      by_cases y : c < 20
      · rw [if_pos y] at hbv hl7
        by_cases y0 : c = 0
        · have e7 : l7 = -1 := by rw [hl7, y0]; rfl
          rw [e7]
          rw [e7] at p110
          refine RQ_b rfl (fun z => ?_) (fun _ => ?_)
          · exact absurd z (Int32.not_le.mpr (by rw [Int32.lt_iff_toInt_lt, nI_toInt (by omega)]; show (-1 : Int) < _; omega))
          refine RQ_n ZR_ok 1 rfl trivial ?_
          refine RQ_b rfl (fun _ => p110 _ ?_) (fun z => absurd (show nI c = 0 by rw [y0]; rfl) z)
          unfold zmv
          rw [if_pos y, ← hbv, decide_eq_true y0]; rfl
        have e7 : l7 = nI (c - 1) := by rw [hl7]; exact nI_m (by omega)
        rw [e7]
        rw [e7] at p114 p110
        have hpl : pl < ln k := of_decide_eq_true hbv.symm
        refine RQ_b rfl (fun z => p114 _ ?_) (fun z => ?_)
        · have z := (zq_le (a := zgT G) (b := c - 1) rfl rfl (by omega) (by omega)).mp z
          unfold zmv
          rw [if_pos y, ← hbv, decide_eq_false y0, decide_eq_false (show ¬ c ≤ zgT G by omega)]; rfl
        have z := (not_congr (zq_le (a := zgT G) (b := c - 1) rfl rfl (by omega) (by omega))).mp z
        refine RQ_n ZR_ok 1 rfl trivial ?_
        refine RQ_b rfl (fun z => absurd ((zq_eq (a := c) (b := 0) rfl rfl (by omega) (by omega)).mp z) y0) (fun _ => ?_)
        refine RQ_n ZR_ok 2 rfl trivial ?_
        refine RQ_b rfl (fun z => ?_) (fun _ => ?_)
        · have := (zq_le (a := 20) (b := c) rfl rfl (by omega) (by omega)).mp z
          omega
        obtain ⟨t1, t2⟩ := s3 pl hpl
        refine RQ_n ZR_ok 8 rfl trivial ?_
        rw [show (24 : Int32) * nI k + nI pl = nI (24 * k + pl) by rw [show (24 : Int32) = nI 24 from rfl, nI_mul, nI_add]]
        refine RQ_n ZR_ok 1 rfl ⟨nI_in (by omega) (by omega), trivial⟩ ?_
        rw [nI_clamp (show 24 * k + pl < 2 ^ 31 by omega), t1]
        have hso := m_signOf s (zgT G) (nI (97 + yy k pl)) h.1.2.1.2.2 (by omega)
        rw [fnd_cgr (C := fun k => nI (97 + sl k)) (zgT G) (fun j hj => hT.2 j hj)] at hso
        rw [show sI (fnd (fun k => nI (97 + sl k)) (nI (97 + yy k pl)) (zgT G)) = nI (zsno sl (zgT G) (yy k pl)) from zsno_g sl (zgT G) (yy k pl)] at hso
        refine RQ_v vX12_signOf hso rfl k12_241 rfl rfl rfl rfl rfl ?_
        have hi0 : zsno sl (zgT G) (yy k pl) = I0 pl := by rw [hI0]
        rw [hi0]
        have hik := hIk pl
        refine RQ_n ZR_ok 1 rfl trivial ?_
        by_cases x : I0 pl = c - 1
        · refine RQ_b rfl (fun _ => p114 _ ?_) (fun r => absurd ((zq_eq (a := I0 pl) (b := c - 1) rfl rfl (by omega) (by omega)).mpr x) r)
          unfold zmv
          rw [if_pos y, ← hbv, decide_eq_false y0, decide_eq_true x, Bool.not_true, Bool.and_false]; rfl
        · refine RQ_b rfl (fun r => absurd ((zq_eq (a := I0 pl) (b := c - 1) rfl rfl (by omega) (by omega)).mp r) x) (fun _ => p110 _ ?_)
          unfold zmv
          rw [if_pos y, ← hbv, decide_eq_false y0, decide_eq_false x, decide_eq_true (show c ≤ zgT G by omega)]; rfl
      · rw [if_neg y] at hbv hl7
        have e7 : l7 = nI (c - 20) := by rw [hl7]; exact nIsub (b := 20) (by omega)
        rw [e7]
        rw [e7] at p110
        refine RQ_b rfl (fun z => ?_) (fun _ => ?_)
        · have z := (zq_le (a := zgT G) (b := c - 20) rfl rfl (by omega) (by omega)).mp z
          omega
        have hz : zmv (zgT G) (ln k) I0 pl c = true := by
          unfold zmv
          rw [if_neg y, ← hbv, decide_eq_true (show c - 20 < zgT G by omega)]; rfl
        refine RQ_n ZR_ok 1 rfl trivial ?_
        refine RQ_b rfl (fun z => absurd ((zq_eq (a := c) (b := 0) rfl rfl (by omega) (by omega)).mp z) (by omega)) (fun _ => ?_)
        refine RQ_n ZR_ok 2 rfl trivial ?_
        exact RQ_b rfl (fun _ => p110 _ hz) (fun z => absurd ((zq_le (a := 20) (b := c) rfl rfl (by omega) (by omega)).mpr (by omega)) z)
  -- the place
  have p41 : ∀ (b : Bool), b = (if c < 20 then decide (pl < ln k) else decide (ln k < 24)) → RnQ ZR mX12_doesMend (41, [some (.ref 0), some (.int (nI kd)), some (.int (nI k)), some (.int (nI pl)), some (.int (nI c)), some (.int (nI (ln k))), none, none, none], [.int (bI b)], s) Q := by
    intro b hbv
    refine RQ_n ZR_ok 3 rfl trivial ?_
    by_cases y : c < 20
    · refine RQ_b rfl (fun z => ?_) (fun _ => ?_)
      · have := (zq_le (a := 20) (b := c) rfl rfl (by omega) (by omega)).mp z
        omega
      refine RQ_n ZR_ok 5 rfl trivial ?_
      rw [show nI c - 1 = l7 by rw [hl7, if_pos y]]
      exact p64 b hbv
    · refine RQ_b rfl (fun _ => ?_) (fun z => absurd ((zq_le (a := 20) (b := c) rfl rfl (by omega) (by omega)).mpr (by omega)) z)
      refine RQ_n ZR_ok 4 rfl trivial ?_
      rw [show nI c - 20 = l7 by rw [hl7, if_neg y]]
      exact p64 b hbv
  refine RQ_n ZR_ok 3 rfl trivial ?_
  refine RQ_n ZR_ok 1 rfl ⟨nI_in (by omega) (by omega), trivial⟩ ?_
  rw [nI_clamp (show k < 2 ^ 31 by omega), s1]
  refine RQ_n ZR_ok 3 rfl trivial ?_
  by_cases y : c < 20
  · rw [if_pos y] at p41
    refine RQ_b rfl (fun z => ?_) (fun _ => ?_)
    · have := (zq_le (a := 20) (b := c) rfl rfl (by omega) (by omega)).mp z
      omega
    refine RQ_n ZR_ok 2 rfl trivial ?_
    refine RQ_b rfl (fun z => ?_) (fun z => ?_)
    · have z := (zq_le (a := ln k) (b := pl) rfl rfl (by omega) (by omega)).mp z
      refine RQ_n ZR_ok 2 rfl trivial ?_
      exact p41 false (decide_eq_false (by omega)).symm
    · have z := (not_congr (zq_le (a := ln k) (b := pl) rfl rfl (by omega) (by omega))).mp z
      refine RQ_n ZR_ok 2 rfl trivial ?_
      exact p41 true (decide_eq_true (by omega)).symm
  · rw [if_neg y] at p41
    refine RQ_b rfl (fun _ => ?_) (fun z => absurd ((zq_le (a := 20) (b := c) rfl rfl (by omega) (by omega)).mpr (by omega)) z)
    refine RQ_n ZR_ok 2 rfl trivial ?_
    refine RQ_b rfl (fun z => ?_) (fun z => ?_)
    · have z := (zq_le (a := 24) (b := ln k) rfl rfl (by omega) (by omega)).mp z
      refine RQ_n ZR_ok 1 rfl trivial ?_
      exact p41 false (decide_eq_false (by omega)).symm
    · have z := (not_congr (zq_le (a := 24) (b := ln k) rfl rfl (by omega) (by omega))).mp z
      refine RQ_n ZR_ok 2 rfl trivial ?_
      exact p41 true (decide_eq_true (by omega)).symm
end MMend2
