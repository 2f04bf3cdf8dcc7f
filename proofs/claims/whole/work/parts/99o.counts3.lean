/-! counts, both sides. -/
section CntX
variable {P : YP} {G : ZGT} {kd : Nat} {o : Option ZAS} {u : SX}
set_option maxHeartbeats 1000000 in
theorem y_counts (hP : P.2.1 kd = some 36) (hP2 : P.2.2 kd = some 47) (hk : P.1 0 = nI kd) (hk3 : kd < 3) (hZ : ZAt G kd o) (h : XK P G o u) (x1 : Int32) : EvQ (ZY P) mX11_counts [.ref 0, .int (nI kd), .int x1] u (kdQ P G o u (zvC G o (u.1 3 4) x1)) := by
  have hin : vp_in (nI kd) 3 := nI_in (by omega) (by omega)
  have hic : (nI kd).toNatClampNeg = kd := nI_clamp (by omega)
  refine EQ_V vX11_counts rfl ?_
  refine RQ_n (ZY_ok P) 2 rfl trivial ?_
  refine RQ_VN vX11_isThere (y_isThere hP hk hk3 hZ h) rfl k11_251 rfl rfl rfl (zy0 _ rfl) ?_ ?_
  · show (((Nat.blt 0 (3 * u.2.2.2.2.1 + 99)) && true) && true) = true
    rw [zblt (show 0 < 3 * u.2.2.2.2.1 + 99 by omega)]; rfl
  rintro r1 v1 ⟨rfl, h1, h3, h4, h5⟩
  cases o with
  | none =>
    refine RQ_b rfl (fun z => absurd rfl z) (fun _ => ?_)
    refine RQ_n (ZY_ok P) 1 rfl trivial ?_
    exact RQ_to (Rn_iret rfl rfl) ⟨rfl, h1, h5⟩
  | some A =>
  obtain ⟨w1, w2, w3, w4⟩ := h1.v hZ h3
  have hN := w2.1.2
  refine RQ_b rfl (fun _ => ?_) (fun z => absurd (Classical.not_not.mp z) (show ¬ (1 : Int32) = 0 by decide))
  refine RQ_n (ZY_ok P) 4 rfl ⟨hin, trivial⟩ ?_
  rw [hic, hP]
  refine RQ_n (ZY_ok P) 3 rfl trivial ?_
  refine RQ_V vX11_actionsOf (y_actionsOf hP2 hk3 hZ h1 h3) rfl k11_282 rfl rfl rfl (zy0 _ rfl) (fun _ s1 q => by show 3 * s1.2.2.2.2.1 + 99 = 3 * v1.2.2.2.2.1 + 99; rw [q.2.2.2.2.2.1.2.2]) ?_
  rintro r2 v2 ⟨rfl, q1, q2, q3, q4, q5, q6⟩
  have e34 : v2.1 3 4 = u.1 3 4 := q4.trans h4
  rw [e34] at q3
  obtain ⟨y1, -, y3, -⟩ := q1.v hZ q2
  have hG2 := q1.2.1.1
  have hf2 := h5.tr q6
  obtain ⟨hh, hR2, -⟩ := q1.1.2.1
  refine RQ_n (ZY_ok P) 2 rfl trivial ?_
  unfold zvC
  dsimp only
  cases e : zix x1 7 with
  | none =>
    obtain ⟨rr, ss, hq, hr⟩ : RnQ (ZY P) mX11_counts (107, [some (.ref 0), some (.int (nI kd)), some (.int x1), some (.ref 36), some (.ref 47)], [], v2) (kdQ P G (some A) u (-1)) := by
      refine RQ_n (ZY_ok P) 1 rfl trivial ?_
      exact RQ_to (Rn_iret rfl rfl) ⟨rfl, q1, hf2⟩
    refine ⟨rr, ss, hq, Rn_swO (tgt := 107) rfl ?_ rfl hr⟩
    have := zix_out (by omega) e
    omega
  | some j =>
  obtain ⟨j1, j2⟩ := zix_s e
  rcases (show j = 0 ∨ j = 1 ∨ j = 2 ∨ j = 3 ∨ j = 4 ∨ j = 5 ∨ j = 6 by omega) with y | y | y | y | y | y | y <;> subst y <;> subst j2
  · obtain ⟨rr, ss, hq, hr⟩ : RnQ (ZY P) mX11_counts (68, [some (.ref 0), some (.int (nI kd)), some (.int (nI 0)), some (.ref 36), some (.ref 47)], [], v2) (kdQ P G (some A) u (zsm (zcv G (zN A) (u.1 3 4) 0) (zN A).1)) := by
      refine RQ_n (ZY_ok P) 1 rfl trivial ?_
      refine RQ_v vX0_conflictsInAll (y_conflictsInAll w2 y3 q3) rfl k11_320 rfl rfl rfl (zy47 _ rfl) rfl ?_
      exact RQ_to (Rn_iret rfl rfl) ⟨rfl, q1, hf2⟩
    exact ⟨rr, ss, hq, Rn_swI (off := 43) (tgt := 68) rfl (by decide) (by decide) rfl rfl hr⟩
  · obtain ⟨rr, ss, hq, hr⟩ : RnQ (ZY P) mX11_counts (74, [some (.ref 0), some (.int (nI kd)), some (.int (nI 1)), some (.ref 36), some (.ref 47)], [], v2) (kdQ P G (some A) u (zsm (zcv G (zN A) (u.1 3 4) 1) (zN A).1)) := by
      refine RQ_n (ZY_ok P) 1 rfl trivial ?_
      refine RQ_v vX0_statesInConflict (y_statesInConflict w2 y3 q3) rfl k11_323 rfl rfl rfl (zy47 _ rfl) rfl ?_
      exact RQ_to (Rn_iret rfl rfl) ⟨rfl, q1, hf2⟩
    exact ⟨rr, ss, hq, Rn_swI (off := 49) (tgt := 74) rfl (by decide) (by decide) rfl rfl hr⟩
  · obtain ⟨rr, ss, hq, hr⟩ : RnQ (ZY P) mX11_counts (80, [some (.ref 0), some (.int (nI kd)), some (.int (nI 2)), some (.ref 36), some (.ref 47)], [], v2) (kdQ P G (some A) u (zsm (zcv G (zN A) (u.1 3 4) 2) (zN A).1)) := by
      refine RQ_n (ZY_ok P) 1 rfl trivial ?_
      refine RQ_V vX1_splitCores (y_splitCores w4.1 y1) rfl k11_326 rfl rfl rfl (zy36 _ rfl) (fun _ s1 q => by show 3 * s1.2.2.2.2.1 + 99 = 3 * v2.2.2.2.2.1 + 99; rw [q.2.2.2]) ?_
      rintro r3 v3 ⟨rfl, d2⟩
      exact RQ_to (Rn_iret rfl rfl) ⟨congrArg (fun r => some (Value.int r)) (zsm_cnt _ _).symm, q1.fr d2 (by decide) (by decide), hf2.tr (d2.k hR2 (by decide) (by decide))⟩
    exact ⟨rr, ss, hq, Rn_swI (off := 55) (tgt := 80) rfl (by decide) (by decide) rfl rfl hr⟩
  · obtain ⟨rr, ss, hq, hr⟩ : RnQ (ZY P) mX11_counts (85, [some (.ref 0), some (.int (nI kd)), some (.int (nI 3)), some (.ref 36), some (.ref 47)], [], v2) (kdQ P G (some A) u (nI (zmx (zcom (zN A)) (zN A).1))) := by
      refine RQ_n (ZY_ok P) 1 rfl trivial ?_
      refine RQ_V vX1_mostOfOneCore (y_mostOfOneCore w4.1 y1) rfl k11_329 rfl rfl rfl (zy36 _ rfl) (fun _ s1 q => by show 3 * s1.2.2.2.2.1 + 99 = 3 * v2.2.2.2.2.1 + 99; rw [q.2.2.2]) ?_
      rintro r3 v3 ⟨rfl, d2⟩
      exact RQ_to (Rn_iret rfl rfl) ⟨rfl, q1.fr d2 (by decide) (by decide), hf2.tr (d2.k hR2 (by decide) (by decide))⟩
    exact ⟨rr, ss, hq, Rn_swI (off := 60) (tgt := 85) rfl (by decide) (by decide) rfl rfl hr⟩
  · obtain ⟨rr, ss, hq, hr⟩ : RnQ (ZY P) mX11_counts (90, [some (.ref 0), some (.int (nI kd)), some (.int (nI 4)), some (.ref 36), some (.ref 47)], [], v2) (kdQ P G (some A) u (zsm (zcv G (zN A) (u.1 3 4) 4) (zN A).1)) := by
      refine RQ_n (ZY_ok P) 1 rfl trivial ?_
      refine RQ_v vX1_itemsOfKernels (y_itemsOfKernels (p := u.1 3 4) w2 y3) rfl k11_332 rfl rfl rfl (zy36 _ rfl) rfl ?_
      exact RQ_to (Rn_iret rfl rfl) ⟨rfl, q1, hf2⟩
    exact ⟨rr, ss, hq, Rn_swI (off := 65) (tgt := 90) rfl (by decide) (by decide) rfl rfl hr⟩
  · obtain ⟨rr, ss, hq, hr⟩ : RnQ (ZY P) mX11_counts (95, [some (.ref 0), some (.int (nI kd)), some (.int (nI 5)), some (.ref 36), some (.ref 47)], [], v2) (kdQ P G (some A) u (zsm (zcv G (zN A) (u.1 3 4) 5) (zN A).1)) := by
      refine RQ_n (ZY_ok P) 1 rfl trivial ?_
      refine RQ_v vX0_actionsInAll (y_actionsInAll hG2 w2 y3 q3) rfl k11_335 rfl rfl rfl (zy47 _ rfl) rfl ?_
      exact RQ_to (Rn_iret rfl rfl) ⟨rfl, q1, hf2⟩
    exact ⟨rr, ss, hq, Rn_swI (off := 70) (tgt := 95) rfl (by decide) (by decide) rfl rfl hr⟩
  · obtain ⟨rr, ss, hq, hr⟩ : RnQ (ZY P) mX11_counts (101, [some (.ref 0), some (.int (nI kd)), some (.int (nI 6)), some (.ref 36), some (.ref 47)], [], v2) (kdQ P G (some A) u (zsm (zcv G (zN A) (u.1 3 4) 6) (zN A).1)) := by
      refine RQ_n (ZY_ok P) 1 rfl trivial ?_
      refine RQ_v vX0_statesWithDefault (y_statesWithDefault hG2 w2 y3 q3) rfl k11_338 rfl rfl rfl (zy47 _ rfl) rfl ?_
      exact RQ_to (Rn_iret rfl rfl) ⟨rfl, q1, hf2⟩
    exact ⟨rr, ss, hq, Rn_swI (off := 76) (tgt := 101) rfl (by decide) (by decide) rfl rfl hr⟩
end CntX
section CntM
variable {G : ZGT} {N : ZNM} {s : SM} {p : Int32} {kd : Nat} {os : Nat → Option ZAS}
theorem m_isSameCore (hk3 : kd < 3) (hN : N.1 ≤ 200) (hR : RMn kd N s) {k j : Nat} (hk : k < N.1) (hj : j < N.1) : Ev ZR mX12_isSameCore [.ref 0, .int (nI kd), .int (nI k), .int (nI j)] s (some (.int (bI (zcB (zco (N.2.1 k) (N.2.1 j)))))) s := by
  have hr1 := mrow_lt hk3 (show k < 200 by omega)
  have hr2 := mrow_lt hk3 (show j < 200 by omega)
  refine EQ_ev ?_
  refine EQ_V vX12_isSameCore rfl ?_
  refine RQ_n ZR_ok 2 rfl trivial ?_
  refine loopU 102 (fun i (_ : Unit) => [some (.ref 0), some (.int (nI kd)), some (.int (nI k)), some (.int (nI j)), some (.int (nI i))]) (fun i _ w => w = s ∧ ∀ i', i' < i → (N.2.1 k i' = 0 ↔ N.2.1 j i' = 0)) ?_ 0 () s (by omega) ⟨rfl, fun i' h => by omega⟩
  intro i _ w hi hJ ih
  obtain ⟨rfl, g1⟩ := hJ
  refine RQ_n ZR_ok 2 rfl trivial ?_
  refine RQ_b rfl (fun z => ?_) (fun z => ?_)
  · have z := (zq_le (a := 102) (b := i) rfl rfl (by omega) (by omega)).mp z
    refine RQ_n ZR_ok 1 rfl trivial ?_
    rw [zcB_t (show zco (N.2.1 k) (N.2.1 j) from fun i' hi' => g1 i' (by omega))]
    exact RQ_to (Rn_zret rfl rfl (Or.inr rfl)) ⟨rfl, rfl⟩
  have z := (not_congr (zq_le (a := 102) (b := i) rfl rfl (by omega) (by omega))).mp z
  have e1 : w.2.1 38 (mrow kd k + i) = N.2.1 k i := hR.2.1 k hk i (by omega)
  have e2 : w.2.1 38 (mrow kd j + i) = N.2.1 j i := hR.2.1 j hj i (by omega)
  -- behind both tests
  have p52 : ∀ b1 b2 : Bool, b1 = decide (N.2.1 k i = 0) → b2 = decide (N.2.1 j i = 0) → RnQ ZR mX12_isSameCore (52, [some (.ref 0), some (.int (nI kd)), some (.int (nI k)), some (.int (nI j)), some (.int (nI i))], [.int (bI b2), .int (bI b1)], w) (fun y v => y = some (.int (bI (zcB (zco (N.2.1 k) (N.2.1 j))))) ∧ v = w) := by
    intro b1 b2 h1 h2
    refine RQ_b rfl (fun y => ?_) (fun y => ?_)
    · have y : bI b1 = bI b2 := y
      refine RQ_n ZR_ok 2 rfl trivial ?_
      refine ih (by omega) () _ _ ⟨rfl, rfl, rfl, rfl, nIs i, trivial⟩ ⟨rfl, fun i' hi' => ?_⟩
      by_cases q : i' = i
      · have hb : b1 = b2 := by cases b1 <;> cases b2 <;> first | rfl | exact absurd y (by decide)
        rw [h1, h2] at hb
        rw [q]
        exact decide_eq_decide.mp hb
      · exact g1 i' (by omega)
    · have y : ¬ bI b1 = bI b2 := y
      refine RQ_n ZR_ok 1 rfl trivial ?_
      rw [zcB_f (show ¬ zco (N.2.1 k) (N.2.1 j) from fun q => y (by rw [h1, h2, decide_eq_decide.mpr (q i (by omega))]))]
      exact RQ_to (Rn_zret rfl rfl (Or.inl rfl)) ⟨rfl, rfl⟩
  have p31 : ∀ b1 : Bool, b1 = decide (N.2.1 k i = 0) → RnQ ZR mX12_isSameCore (31, [some (.ref 0), some (.int (nI kd)), some (.int (nI k)), some (.int (nI j)), some (.int (nI i))], [.int (bI b1)], w) (fun y v => y = some (.int (bI (zcB (zco (N.2.1 k) (N.2.1 j))))) ∧ v = w) := by
    intro b1 h1
    refine RQ_n ZR_ok 4 rfl trivial ?_
    refine RQ_s vX12_rowOf (e_rowOf w kd j) rfl k12_352 rfl rfl rfl rfl ?_
    refine RQ_n ZR_ok 2 rfl trivial ?_
    rw [nI_add]
    refine RQ_n ZR_ok 1 rfl ⟨nI_in (by omega) (by omega), trivial⟩ ?_
    rw [nI_clamp (show mrow kd j + i < 2 ^ 31 by omega), e2]
    refine RQ_b rfl (fun y => ?_) (fun y => ?_)
    · refine RQ_n ZR_ok 1 rfl trivial ?_
      exact p52 b1 false h1 (decide_eq_false y).symm
    · refine RQ_n ZR_ok 2 rfl trivial ?_
      exact p52 b1 true h1 (decide_eq_true (Classical.not_not.mp y)).symm
  refine RQ_n ZR_ok 4 rfl trivial ?_
  refine RQ_s vX12_rowOf (e_rowOf w kd k) rfl k12_352 rfl rfl rfl rfl ?_
  refine RQ_n ZR_ok 2 rfl trivial ?_
  rw [nI_add]
  refine RQ_n ZR_ok 1 rfl ⟨nI_in (by omega) (by omega), trivial⟩ ?_
  rw [nI_clamp (show mrow kd k + i < 2 ^ 31 by omega), e1]
  refine RQ_b rfl (fun y => ?_) (fun y => ?_)
  · refine RQ_n ZR_ok 1 rfl trivial ?_
    exact p31 false (decide_eq_false y).symm
  · refine RQ_n ZR_ok 2 rfl trivial ?_
    exact p31 true (decide_eq_true (Classical.not_not.mp y)).symm
theorem m_coreMany (hk3 : kd < 3) (hN : N.1 ≤ 200) (hR : RMn kd N s) {k : Nat} (hk : k < N.1) : Ev ZR mX12_coreMany [.ref 0, .int (nI kd), .int (nI k)] s (some (.int (nI (zcom N k)))) s := by
  have hin : vp_in (nI kd) 3 := nI_in (by omega) (by omega)
  have hic : (nI kd).toNatClampNeg = kd := nI_clamp (by omega)
  refine EQ_ev ?_
  refine EQ_V vX12_coreMany rfl ?_
  refine RQ_n ZR_ok 4 rfl trivial ?_
  refine loopU N.1 (fun j (_ : Unit) => [some (.ref 0), some (.int (nI kd)), some (.int (nI k)), some (.int (nI (zcnt (fun j => zcB (zco (N.2.1 k) (N.2.1 j))) j))), some (.int (nI j)), none]) (fun j _ w => w = s ∧ ∀ j', j' < j → j' < k → ¬ zco (N.2.1 k) (N.2.1 j')) ?_ 0 () s (by omega) ⟨rfl, fun j' h => by omega⟩
  intro j _ w hj hJ ih
  obtain ⟨rfl, g1⟩ := hJ
  refine RQ_n ZR_ok 5 rfl ⟨hin, trivial⟩ ?_
  rw [hic, hR.1]
  refine RQ_b rfl (fun z => ?_) (fun z => ?_)
  · have z := (zq_le (a := N.1) (b := j) rfl rfl (by omega) (by omega)).mp z
    have : j = N.1 := by omega
    subst this
    refine RQ_n ZR_ok 1 rfl trivial ?_
    refine RQ_to (Rn_iret rfl rfl) ⟨?_, rfl⟩
    unfold zcom
    rw [zcB_f (fun ⟨j', h1, h2⟩ => g1 j' (by omega) h1 h2), if_neg (by decide)]
  have z := (not_congr (zq_le (a := N.1) (b := j) rfl rfl (by omega) (by omega))).mp z
  refine RQ_n ZR_ok 4 rfl trivial ?_
  refine RQ_v vX12_isSameCore (m_isSameCore hk3 hN hR hk (show j < N.1 by omega)) rfl k12_452 rfl rfl rfl rfl rfl ?_
  refine RQ_n ZR_ok 2 rfl trivial ?_
  refine RQ_b rfl (fun y => ?_) (fun y => ?_)
  · have y := bI_0.mp y
    refine RQ_n ZR_ok 2 rfl trivial ?_
    rw [y]
    refine RQ_b rfl (fun _ => ?_) (fun q => absurd rfl q)
    refine RQ_n ZR_ok 5 rfl trivial ?_
    refine ih (by omega) () _ _ ?_ ⟨rfl, fun j' h1 h2 q => ?_⟩
    · rw [zcnt, y]
      exact ⟨rfl, rfl, rfl, congrArg Value.int (nI_add _ 0).symm, nIs j, trivial⟩
    · by_cases e : j' = j
      · rw [e] at q
        rw [zcB_t q] at y
        cases y
      · exact g1 j' (by omega) h2 q
  · have y := bI_t y
    have yc := zcB_iff.mp y
    refine RQ_n ZR_ok 2 rfl trivial ?_
    refine RQ_b rfl (fun q => ?_) (fun q => ?_)
    · have q := (zq_le (a := k) (b := j) rfl rfl (by omega) (by omega)).mp q
      refine RQ_n ZR_ok 2 rfl trivial ?_
      rw [y]
      refine RQ_b rfl (fun x => absurd (show (1 : Int32) = 0 from x) (by decide)) (fun _ => ?_)
      refine RQ_n ZR_ok 6 rfl trivial ?_
      refine ih (by omega) () _ _ ?_ ⟨rfl, fun j' h1 h2 => g1 j' (by omega) h2⟩
      rw [zcnt, y]
      exact ⟨rfl, rfl, rfl, nIs _, nIs j, trivial⟩
    · have q := (not_congr (zq_le (a := k) (b := j) rfl rfl (by omega) (by omega))).mp q
      refine RQ_n ZR_ok 1 rfl trivial ?_
      refine RQ_to (Rn_iret rfl rfl) ⟨?_, rfl⟩
      unfold zcom
      rw [zcB_t ⟨j, by omega, yc⟩, if_pos rfl]
      rfl
set_option maxHeartbeats 1000000 in
theorem m_countOf (h : ZGM G s) (hk3 : kd < 3) (hN : N.1 ≤ 200) (hA : RAu G (zE0 G) (zF0 G) kd p N s) {k j : Nat} (hk : k < N.1) (hj : j < 7) (hj3 : j ≠ 3) : Ev ZR mX12_countOf [.ref 0, .int (nI kd), .int (nI k), .int (nI j)] s (some (.int (zcv G N p j k))) s := by
  have hb := h.b
  obtain ⟨-, c2, c3, c4⟩ := hA.2 k hk
  have e2 : (200 : Int32) * nI kd + nI k = nI (200 * kd + k) := by rw [show (200 : Int32) = nI 200 from rfl, nI_mul, nI_add]
  have hin2 : vp_in (nI (200 * kd + k)) 600 := nI_in (by omega) (by omega)
  have hic2 : (nI (200 * kd + k)).toNatClampNeg = 200 * kd + k := nI_clamp (by omega)
  have hcl : zcom N k ≤ 200 := by
    unfold zcom
    split
    · omega
    · exact Nat.le_trans (zcnt_le _ _) hN
  refine EQ_ev ?_
  refine EQ_V vX12_countOf rfl ?_
  refine RQ_n ZR_ok 3 rfl trivial ?_
  rcases (show j = 0 ∨ j = 1 ∨ j = 2 ∨ j = 4 ∨ j = 5 ∨ j = 6 by omega) with y | y | y | y | y | y <;> subst y
  · obtain ⟨rr, ss, hq, hr⟩ : RnQ ZR mX12_countOf (48, [some (.ref 0), some (.int (nI kd)), some (.int (nI k)), some (.int (nI 0)), some (.int 0), none], [], s) (fun x v => x = some (.int (zcv G N p 0 k)) ∧ v = s) := by
      refine RQ_n ZR_ok 7 rfl trivial ?_
      rw [e2]
      refine RQ_n ZR_ok 1 rfl ⟨hin2, trivial⟩ ?_
      rw [hic2, c3]
      refine RQ_s vJ6_bitCount_0f7a4 (e_bitCount ZR_ok s _) rfl k12_197 rfl rfl rfl rfl ?_
      exact RQ_to (Rn_iret rfl rfl) ⟨rfl, rfl⟩
    exact ⟨rr, ss, hq, Rn_swI (off := 44) (tgt := 48) rfl (by decide) (by decide) rfl rfl hr⟩
  · obtain ⟨rr, ss, hq, hr⟩ : RnQ ZR mX12_countOf (64, [some (.ref 0), some (.int (nI kd)), some (.int (nI k)), some (.int (nI 1)), some (.int 0), none], [], s) (fun x v => x = some (.int (zcv G N p 1 k)) ∧ v = s) := by
      refine RQ_n ZR_ok 7 rfl trivial ?_
      rw [e2]
      refine RQ_n ZR_ok 1 rfl ⟨hin2, trivial⟩ ?_
      rw [hic2, c3]
      have e : zcv G N p 1 k = if decide (zck G (zcl G (zE0 G) (zF0 G) (N.2.1 k)) (N.2.2 k) (zgT G + 1) ≠ 0) = true then 1 else 0 := rfl
      refine RQ_b rfl (fun y => ?_) (fun y => ?_)
      · have y : zck G (zcl G (zE0 G) (zF0 G) (N.2.1 k)) (N.2.2 k) (zgT G + 1) = 0 := y
        refine RQ_n ZR_ok 1 rfl trivial ?_
        exact RQ_to (Rn_iret rfl rfl) ⟨by rw [e, decide_eq_false (fun q => q y)]; rfl, rfl⟩
      · have y : zck G (zcl G (zE0 G) (zF0 G) (N.2.1 k)) (N.2.2 k) (zgT G + 1) ≠ 0 := y
        refine RQ_n ZR_ok 2 rfl trivial ?_
        exact RQ_to (Rn_iret rfl rfl) ⟨by rw [e, decide_eq_true y]; rfl, rfl⟩
    exact ⟨rr, ss, hq, Rn_swI (off := 60) (tgt := 64) rfl (by decide) (by decide) rfl rfl hr⟩
  · obtain ⟨rr, ss, hq, hr⟩ : RnQ ZR mX12_countOf (85, [some (.ref 0), some (.int (nI kd)), some (.int (nI k)), some (.int (nI 2)), some (.int 0), none], [], s) (fun x v => x = some (.int (zcv G N p 2 k)) ∧ v = s) := by
      refine RQ_n ZR_ok 3 rfl trivial ?_
      refine RQ_v vX12_coreMany (m_coreMany hk3 hN hA.1 hk) rfl k12_455 rfl rfl rfl rfl rfl ?_
      refine RQ_n ZR_ok 1 rfl trivial ?_
      have e : zcv G N p 2 k = if decide (1 < zcom N k) = true then 1 else 0 := rfl
      refine RQ_b rfl (fun y => ?_) (fun y => ?_)
      · have y := (zq_le (a := zcom N k) (b := 1) rfl rfl (by omega) (by omega)).mp y
        refine RQ_n ZR_ok 1 rfl trivial ?_
        exact RQ_to (Rn_iret rfl rfl) ⟨by rw [e, decide_eq_false (by omega)]; rfl, rfl⟩
      · have y := (not_congr (zq_le (a := zcom N k) (b := 1) rfl rfl (by omega) (by omega))).mp y
        refine RQ_n ZR_ok 2 rfl trivial ?_
        exact RQ_to (Rn_iret rfl rfl) ⟨by rw [e, decide_eq_true (by omega)]; rfl, rfl⟩
    exact ⟨rr, ss, hq, Rn_swI (off := 81) (tgt := 85) rfl (by decide) (by decide) rfl rfl hr⟩
  · obtain ⟨rr, ss, hq, hr⟩ : RnQ ZR mX12_countOf (101, [some (.ref 0), some (.int (nI kd)), some (.int (nI k)), some (.int (nI 4)), some (.int 0), none], [], s) (fun x v => x = some (.int (zcv G N p 4 k)) ∧ v = s) := by
      refine RQ_n ZR_ok 4 rfl trivial ?_
      refine RQ_v vX12_itemMany (m_itemMany hk3 hN hA hk false) rfl k12_430 rfl rfl rfl rfl rfl ?_
      exact RQ_to (Rn_iret rfl rfl) ⟨rfl, rfl⟩
    exact ⟨rr, ss, hq, Rn_swI (off := 97) (tgt := 101) rfl (by decide) (by decide) rfl rfl hr⟩
  · obtain ⟨rr, ss, hq, hr⟩ : RnQ ZR mX12_countOf (131, [some (.ref 0), some (.int (nI kd)), some (.int (nI k)), some (.int (nI 5)), some (.int 0), none], [], s) (fun x v => x = some (.int (zcv G N p 5 k)) ∧ v = s) := by
      obtain ⟨a, ha⟩ : ∃ a, a = zac G (zcl G (zE0 G) (zF0 G) (N.2.1 k)) (N.2.2 k) p := ⟨_, rfl⟩
      refine RQ_n ZR_ok 2 rfl trivial ?_
      refine loopU (zgT G + 1) (fun t (_ : Unit) => [some (.ref 0), some (.int (nI kd)), some (.int (nI k)), some (.int (nI 5)), some (.int (nI (zcnt (fun t => decide (a t ≠ -1)) t))), some (.int (nI t))]) (fun _ _ v => v = s) ?_ 0 () s (by omega) rfl
      intro t _ v ht hv ih2
      subst hv
      refine RQ_n ZR_ok 3 rfl trivial ?_
      rw [h.2.1.2.2]
      refine RQ_b rfl (fun y => ?_) (fun y => ?_)
      · have y := (zq_lt (a := zgT G) (b := t) rfl rfl (by omega) (by omega)).mp y
        have : t = zgT G + 1 := by omega
        subst this
        refine RQ_n ZR_ok 1 rfl trivial ?_
        exact RQ_to (Rn_iret rfl rfl) ⟨by rw [ha]; rfl, rfl⟩
      have y := (not_congr (zq_lt (a := zgT G) (b := t) rfl rfl (by omega) (by omega))).mp y
      refine RQ_n ZR_ok 5 rfl trivial ?_
      have hpa := m_plainAction v hk3 (show k < 200 by omega) (show t < 9 by omega)
      rw [c2 t (by omega), ← ha] at hpa
      refine RQ_v vX12_plainAction hpa rfl k12_402 rfl rfl rfl rfl rfl ?_
      refine RQ_n ZR_ok 1 rfl trivial ?_
      refine RQ_b rfl (fun q => ?_) (fun q => ?_)
      · have q : a t = -1 := q
        refine RQ_n ZR_ok 5 rfl trivial ?_
        refine ih2 (by omega) () _ _ ?_ rfl
        rw [zcnt, decide_eq_false (fun x => x q)]
        exact ⟨rfl, rfl, rfl, rfl, congrArg Value.int (nI_add _ 0).symm, nIs t, trivial⟩
      · have q : ¬ a t = -1 := q
        refine RQ_n ZR_ok 6 rfl trivial ?_
        refine ih2 (by omega) () _ _ ?_ rfl
        rw [zcnt, decide_eq_true q]
        exact ⟨rfl, rfl, rfl, rfl, nIs _, nIs t, trivial⟩
    exact ⟨rr, ss, hq, Rn_swI (off := 127) (tgt := 131) rfl (by decide) (by decide) rfl rfl hr⟩
  · obtain ⟨rr, ss, hq, hr⟩ : RnQ ZR mX12_countOf (109, [some (.ref 0), some (.int (nI kd)), some (.int (nI k)), some (.int (nI 6)), some (.int 0), none], [], s) (fun x v => x = some (.int (zcv G N p 6 k)) ∧ v = s) := by
      refine RQ_n ZR_ok 7 rfl trivial ?_
      rw [e2]
      refine RQ_n ZR_ok 1 rfl ⟨hin2, trivial⟩ ?_
      rw [hic2, c4]
      refine RQ_n ZR_ok 1 rfl trivial ?_
      have e : zcv G N p 6 k = if (zdf G (zac G (zcl G (zE0 G) (zF0 G) (N.2.1 k)) (N.2.2 k) p)).isSome = true then 1 else 0 := rfl
      cases hz : zdf G (zac G (zcl G (zE0 G) (zF0 G) (N.2.1 k)) (N.2.2 k) p) with
      | none =>
        rw [hz] at e
        refine RQ_b rfl (fun _ => ?_) (fun y => absurd rfl y)
        refine RQ_n ZR_ok 1 rfl trivial ?_
        exact RQ_to (Rn_iret rfl rfl) ⟨by rw [e]; rfl, rfl⟩
      | some r =>
        rw [hz] at e
        have hr := zdfs_lt _ _ hz
        refine RQ_b rfl (fun y => absurd y (nI_m1 (a := r) (by omega))) (fun _ => ?_)
        refine RQ_n ZR_ok 2 rfl trivial ?_
        exact RQ_to (Rn_iret rfl rfl) ⟨by rw [e]; rfl, rfl⟩
    exact ⟨rr, ss, hq, Rn_swI (off := 105) (tgt := 109) rfl (by decide) (by decide) rfl rfl hr⟩
set_option maxHeartbeats 1000000 in
theorem m_counts (hk3 : kd < 3) (hZ : ∀ kd, kd < 3 → ZAt G kd (os kd)) (h : RGr G os s) (x1 : Int32) : EvQ ZR mX12_counts [.ref 0, .int (nI kd), .int x1] s (rfQ G os s (zvC G (os kd) (s.1 24) x1)) := by
  have hin : vp_in (nI kd) 3 := nI_in (by omega) (by omega)
  have hic : (nI kd).toNatClampNeg = kd := nI_clamp (by omega)
  refine EQ_V vX12_counts rfl ?_
  refine RQ_n ZR_ok 2 rfl trivial ?_
  refine RQ_V vX12_isThere (m_isThere hk3 hZ h) rfl k12_424 rfl rfl rfl rfl (fun _ _ _ => rfl) (fun r1 v h1 => ?_)
  obtain ⟨rfl, a1, a2, a3⟩ := h1
  have a3 := frR.th a3
  cases ho : os kd with
  | none =>
    refine RQ_b rfl (fun _ => ?_) (fun z => absurd rfl z)
    refine RQ_n ZR_ok 1 rfl trivial ?_
    exact RQ_to (Rn_iret rfl rfl) ⟨rfl, a1, a3⟩
  | some A =>
  obtain ⟨b1, b2⟩ := a1.a hk3 a2 ho
  have hF := zN_F (ZAt_all a1.1.1 b2 (ho ▸ hZ kd hk3)) (show ZAt G kd (some A) from ho ▸ hZ kd hk3).2
  have hN := hF.1.2
  have e24 : v.1 24 = s.1 24 := a3.1 24 (by decide)
  rw [e24] at b1
  refine RQ_b rfl (fun z => absurd (show (1 : Int32) = 0 from z) (by decide)) (fun _ => ?_)
  refine RQ_n ZR_ok 3 rfl trivial ?_
  refine RQ_s vX12_in (e_in v x1 0 6) rfl k12_170 rfl rfl rfl rfl ?_
  rw [show inB x1 0 6 = (zix x1 7).isSome from zix_in1 (n := 6) (by omega)]
  have hno : zix x1 7 = none → zvC G (some A) (s.1 24) x1 = -1 := fun hj => by
    unfold zvC
    dsimp only
    rw [hj]
  have h33 : zix x1 7 = some 3 → zvC G (some A) (s.1 24) x1 = nI (zmx (zcom (zN A)) (zN A).1) := fun hj => by
    unfold zvC
    dsimp only
    rw [hj]
    rfl
  have hgen : ∀ j, zix x1 7 = some j → j ≠ 3 → zvC G (some A) (s.1 24) x1 = zsm (zcv G (zN A) (s.1 24) j) (zN A).1 := fun j hj h3 => by
    have := (zix_s hj).1
    unfold zvC
    dsimp only
    rw [hj]
    rcases (show j = 0 ∨ j = 1 ∨ j = 2 ∨ j = 4 ∨ j = 5 ∨ j = 6 by omega) with y | y | y | y | y | y <;> subst y <;> rfl
  cases e : zix x1 7 with
  | none =>
    rw [hno e]
    refine RQ_b rfl (fun z => absurd rfl z) (fun _ => ?_)
    refine RQ_n ZR_ok 1 rfl trivial ?_
    exact RQ_to (Rn_iret rfl rfl) ⟨rfl, a1, a3⟩
  | some j =>
  obtain ⟨j1, j2⟩ := zix_s e
  refine RQ_b rfl (fun _ => ?_) (fun z => absurd (Classical.not_not.mp z) (show ¬ (1 : Int32) = 0 by decide))
  refine RQ_n ZR_ok 4 rfl trivial ?_
  by_cases hj3 : j = 3
  · subst hj3
    rw [h33 e, j2]
    have hcl : ∀ k, zcom (zN A) k ≤ 200 := fun k => by
      unfold zcom
      split
      · omega
      · exact Nat.le_trans (zcnt_le _ _) hN
    refine loopU (zN A).1 (fun k (_ : Unit) => [some (.ref 0), some (.int (nI kd)), some (.int (nI 3)), some (.int (nI (zmx (zcom (zN A)) k))), some (.int (nI k))]) (fun _ _ w => w = v) ?_ 0 () v (by omega) rfl
    intro k _ w hk hw ih
    subst hw
    have hm2 : zmx (zcom (zN A)) k ≤ 200 := zmx_le _ (fun i _ => hcl i)
    have hc2 := hcl k
    refine RQ_n ZR_ok 5 rfl ⟨hin, trivial⟩ ?_
    rw [hic, b1.1.1]
    refine RQ_b rfl (fun z => ?_) (fun z => ?_)
    · have z := (zq_le (a := (zN A).1) (b := k) rfl rfl (by omega) (by omega)).mp z
      have : k = (zN A).1 := by omega
      subst this
      refine RQ_n ZR_ok 1 rfl trivial ?_
      exact RQ_to (Rn_iret rfl rfl) ⟨rfl, a1, a3⟩
    have z := (not_congr (zq_le (a := (zN A).1) (b := k) rfl rfl (by omega) (by omega))).mp z
    refine RQ_n ZR_ok 2 rfl trivial ?_
    refine RQ_b rfl (fun y => absurd rfl y) (fun _ => ?_)
    refine RQ_n ZR_ok 4 rfl trivial ?_
    refine RQ_v vX12_coreMany (m_coreMany hk3 hN b1.1 (show k < (zN A).1 by omega)) rfl k12_455 rfl rfl rfl rfl rfl ?_
    refine RQ_max rfl k12_458 rfl ?_
    refine RQ_n ZR_ok 4 rfl trivial ?_
    refine ih (by omega) () _ _ ?_ rfl
    have e : (if nI (zmx (zcom (zN A)) k) < nI (zcom (zN A) k) then nI (zcom (zN A) k) else nI (zmx (zcom (zN A)) k)) = nI (zmx (zcom (zN A)) (k + 1)) := by
      rw [zmx]
      by_cases y : zmx (zcom (zN A)) k < zcom (zN A) k
      · rw [if_pos ((zq_lt rfl rfl (by omega) (by omega)).mpr y), Nat.max_eq_right (by omega)]
      · rw [if_neg (fun q => y ((zq_lt rfl rfl (by omega) (by omega)).mp q)), Nat.max_eq_left (by omega)]
    rw [← e]
    exact ⟨rfl, rfl, rfl, rfl, nIs k, trivial⟩
  · rw [hgen j e hj3, j2]
    refine loopU (zN A).1 (fun k (_ : Unit) => [some (.ref 0), some (.int (nI kd)), some (.int (nI j)), some (.int (zsm (zcv G (zN A) (s.1 24) j) k)), some (.int (nI k))]) (fun _ _ w => w = v) ?_ 0 () v (by omega) rfl
    intro k _ w hk hw ih
    subst hw
    refine RQ_n ZR_ok 5 rfl ⟨hin, trivial⟩ ?_
    rw [hic, b1.1.1]
    refine RQ_b rfl (fun z => ?_) (fun z => ?_)
    · have z := (zq_le (a := (zN A).1) (b := k) rfl rfl (by omega) (by omega)).mp z
      have : k = (zN A).1 := by omega
      subst this
      refine RQ_n ZR_ok 1 rfl trivial ?_
      exact RQ_to (Rn_iret rfl rfl) ⟨rfl, a1, a3⟩
    have z := (not_congr (zq_le (a := (zN A).1) (b := k) rfl rfl (by omega) (by omega))).mp z
    refine RQ_n ZR_ok 2 rfl trivial ?_
    refine RQ_b rfl (fun _ => ?_) (fun y => absurd ((zq_eq (a := j) (b := 3) rfl rfl (by omega) (by omega)).mp (Classical.not_not.mp y)) hj3)
    refine RQ_n ZR_ok 5 rfl trivial ?_
    refine RQ_v vX12_countOf (m_countOf a1.1 hk3 hN b1 (show k < (zN A).1 by omega) j1 hj3) rfl k12_461 rfl rfl rfl rfl rfl ?_
    refine RQ_n ZR_ok 4 rfl trivial ?_
    exact ih (by omega) () _ _ ⟨rfl, rfl, rfl, rfl, nIs k, trivial⟩ rfl
end CntM
