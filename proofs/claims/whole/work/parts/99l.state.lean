/-! Calls by a kind and a state: state, path. -/
theorem zix_out {x : Int32} {n : Nat} (hn : n < 2 ^ 31) (h : zix x n = none) : x.toInt < 0 ∨ (n : Int) ≤ x.toInt := by
  by_cases y : x < 0
  · exact Or.inl (Int32.lt_iff_toInt_lt.mp y)
  · have := Int32.le_iff_toInt_le.mp (zix_ge hn h y)
    rw [show (nI n).toInt = (n : Int) by show (Int32.ofNat n).toInt = n; rw [Int32.toInt_ofNat_of_lt hn]] at this
    exact Or.inr this
noncomputable def zvT (G : ZGT) (o : Option ZAS) (p x1 x2 : Int32) : Int32 := match zste o x1 with
  | none => -1
  | some (A, k) => match zix x2 6 with
    | some 0 => nI (zcnt (fun i => decide ((zN A).2.1 k i ≠ 0)) 102)
    | some 1 => nI (zcnt (fun i => decide (zcl G (zE0 G) (zF0 G) ((zN A).2.1 k) i ≠ 0)) 102)
    | some 2 => nI (zcnt (fun b => ((zN A).2.2 k b).isSome) 14)
    | some 3 => fI (zdf G (zac G (zcl G (zE0 G) (zF0 G) ((zN A).2.1 k)) ((zN A).2.2 k) p))
    | some 4 => zck G (zcl G (zE0 G) (zF0 G) ((zN A).2.1 k)) ((zN A).2.2 k) (zgT G + 1)
    | some _ => nI (zpl (zc0 A) k)
    | none => -1
noncomputable def zvP (o : Option ZAS) (x1 x2 : Int32) : Int32 := match zste o x1 with
  | none => -1
  | some (A, k) => match zix x2 (zpl (zc0 A) k) with
    | none => -1
    | some i => nI (zlm (zfb (zc0 A) (zanc (zc0 A) (zpl (zc0 A) k - 1 - i) k)))
theorem zlf_ct (g : Nat → Option Nat) : bitC (zlf g 14) = nI (zcnt (fun b => (g b).isSome) 14) := by
  have e : ∀ n, ctI (zlf g 14) n = zcnt (bt (zlf g 14)) n := fun n => by
    induction n with
    | zero => rfl
    | succ n ih => rw [ctI, zcnt, ih]
  rw [bitC_ct, e, zcnt_hi (n := 14) (d := 18) (fun i hi => by rw [zlf_bt _ 14 (by omega), decide_eq_false (by omega)]; rfl)]
  exact congrArg nI (zcnt_cg 14 (fun i hi => by rw [zlf_bt _ 14 (by omega), decide_eq_true hi, Bool.true_and]))
theorem e_codeOf {P : YP} (u : SX) {b : Nat} (hb : b < 14) : Ev (ZY P) mX5_codeOf [.int (nI b)] u (some (.int (nI (zlm b)))) u := by
  refine EQ_ev ?_
  refine EQ_T vX5_codeOf rfl ?_
  refine RQ_n (ZY_ok P) 2 rfl trivial ?_
  unfold zlm
  refine RQ_b rfl (fun z => ?_) (fun z => ?_)
  · have z := (zq_le (a := 8) (b := b) rfl rfl (by omega) (by omega)).mp z
    refine RQ_n (ZY_ok P) 5 rfl trivial ?_
    rw [if_neg (by omega), show (100 : Int32) = nI 100 from rfl, nI_add, show (8 : Int32) = nI 8 from rfl, nI_sub (by omega), show 100 + b - 8 = 92 + b by omega]
    exact RQ_to (Rn_iret rfl rfl) ⟨rfl, rfl⟩
  · have z := (not_congr (zq_le (a := 8) (b := b) rfl rfl (by omega) (by omega))).mp z
    refine RQ_n (ZY_ok P) 2 rfl trivial ?_
    rw [if_pos (by omega)]
    exact RQ_to (Rn_iret rfl rfl) ⟨rfl, rfl⟩
section Pub4
variable {P : YP} {G : ZGT} {kd : Nat} {o : Option ZAS} {u : SX} {os : Nat → Option ZAS} {s : SM}
set_option maxHeartbeats 1000000 in
theorem y_state (hP : P.2.1 kd = some 36) (hP2 : P.2.2 kd = some 47) (hk : P.1 0 = nI kd) (hk3 : kd < 3) (hZ : ZAt G kd o) (h : XK P G o u) (x1 x2 : Int32) : EvQ (ZY P) mX11_state [.ref 0, .int (nI kd), .int x1, .int x2] u (kdQ P G o u (zvT G o (u.1 3 4) x1 x2)) := by
  refine EQ_V vX11_state rfl ?_
  have hin : vp_in (nI kd) 3 := nI_in (by omega) (by omega)
  have hic : (nI kd).toNatClampNeg = kd := nI_clamp (by omega)
  refine RQ_n (ZY_ok P) 2 rfl trivial ?_
  refine RQ_VN vX11_isThere (y_isThere hP hk hk3 hZ h) rfl k11_251 rfl rfl rfl (zy0 _ rfl) ?_ ?_
  · show (((Nat.blt 0 (3 * u.2.2.2.2.1 + 99)) && true) && true) = true
    rw [zblt (show 0 < 3 * u.2.2.2.2.1 + 99 by omega)]; rfl
  rintro r1 v1 ⟨rfl, h1, h3, h4, h5⟩
  cases o with
  | none =>
    refine RQ_b rfl (fun _ => ?_) (fun z => absurd rfl z)
    refine RQ_n (ZY_ok P) 1 rfl trivial ?_
    exact RQ_to (Rn_iret rfl rfl) ⟨rfl, h1, h5⟩
  | some A =>
  obtain ⟨w1, w2, w3, w4⟩ := h1.v hZ h3
  have hN := w2.1.2
  have hG := h1.2.1.1
  have hb := hG.b
  refine RQ_b rfl (fun z => absurd (show (1 : Int32) = 0 from z) (by decide)) (fun _ => ?_)
  refine RQ_n (ZY_ok P) 4 rfl ⟨hin, trivial⟩ ?_
  rw [hic, hP]
  refine RQ_n (ZY_ok P) 1 rfl trivial ?_
  refine RQ_v vX1_hasState (y_hasState hN w3 x1) rfl k11_267 rfl rfl rfl (zy36 _ rfl) rfl ?_
  unfold zvT zste
  dsimp only
  cases hz : zix x1 (zN A).1 with
  | none =>
    refine RQ_b rfl (fun z => absurd rfl z) (fun _ => ?_)
    refine RQ_n (ZY_ok P) 1 rfl trivial ?_
    exact RQ_to (Rn_iret rfl rfl) ⟨rfl, h1, h5⟩
  | some k =>
  obtain ⟨hk1, hk2⟩ := zix_s hz
  subst hk2
  dsimp only
  refine RQ_b rfl (fun _ => ?_) (fun z => absurd (Classical.not_not.mp z) (show ¬ (1 : Int32) = 0 by decide))
  refine RQ_n (ZY_ok P) 4 rfl ⟨hin, trivial⟩ ?_
  rw [hic, hP]
  refine RQ_n (ZY_ok P) 3 rfl trivial ?_
  refine RQ_V vX11_actionsOf (y_actionsOf hP2 hk3 hZ h1 h3) rfl k11_282 rfl rfl rfl (zy0 _ rfl) (fun _ s1 q => by show 3 * s1.2.2.2.2.1 + 99 = 3 * v1.2.2.2.2.1 + 99; rw [q.2.2.2.2.2.1.2.2]) ?_
  rintro r2 v2 ⟨rfl, q1, q2, q3, q4, q5, q6⟩
  have e34 : v2.1 3 4 = u.1 3 4 := q4.trans h4
  rw [e34] at q3
  obtain ⟨y1, -, y3, -⟩ := q1.v hZ q2
  have hG2 := q1.2.1.1
  have hf2 := h5.tr q6
  obtain ⟨t1, t2, t3⟩ := q3 k hk1
  have hin2 : vp_in (nI k) 200 := nI_in (by omega) (by omega)
  have hic2 : (nI k).toNatClampNeg = k := nI_clamp (by omega)
  refine RQ_n (ZY_ok P) 2 rfl trivial ?_
  cases e : zix x2 6 with
  | none =>
    refine RQ_mono (?_ : RnQ (ZY P) mX11_state (39, _, _, v2) (kdQ P G (some A) u (-1))) (fun _ _ q => q)
    obtain ⟨rr, ss, hq, hr⟩ : RnQ (ZY P) mX11_state (127, [some (.ref 0), some (.int (nI kd)), some (.int (nI k)), some (.int x2), some (.ref 36), some (.ref 47)], [], v2) (kdQ P G (some A) u (-1)) := by
      refine RQ_n (ZY_ok P) 1 rfl trivial ?_
      exact RQ_to (Rn_iret rfl rfl) ⟨rfl, q1, hf2⟩
    refine ⟨rr, ss, hq, Rn_swO (tgt := 127) rfl ?_ rfl hr⟩
    have := zix_out (by omega) e
    omega
  | some j =>
  obtain ⟨j1, j2⟩ := zix_s e
  rcases (show j = 0 ∨ j = 1 ∨ j = 2 ∨ j = 3 ∨ j = 4 ∨ j = 5 by omega) with y | y | y | y | y | y <;> subst y <;> subst j2
  · obtain ⟨rr, ss, hq, hr⟩ : RnQ (ZY P) mX11_state (76, [some (.ref 0), some (.int (nI kd)), some (.int (nI k)), some (.int (nI 0)), some (.ref 36), some (.ref 47)], [], v2) (kdQ P G (some A) u (nI (zcnt (fun i => decide ((zN A).2.1 k i ≠ 0)) 102))) := by
      obtain ⟨kc, e1, e2, m, it, hz2, hm, hsz, -⟩ := y_kernelOf (P := P) hN y3 hk1
      have hlt := isK_lt e2.2
      obtain ⟨l0, -, -⟩ := isK_cell (P := P) (s := v2) e2.2
      have hl0 : kc < (ZY P).2.1 v2 := by show kc < 3 * v2.2.2.2.2.1 + 99; omega
      refine RQ_n (ZY_ok P) 2 rfl trivial ?_
      refine RQ_v vX1_kernelOf e1 rfl k11_270 rfl rfl rfl (zy36 _ rfl) rfl ?_
      refine RQ_gf (ZY_ok P) rfl rfl l0 hl0 rfl ?_
      rw [hsz, zen_cnt hz2]
      exact RQ_to (Rn_iret rfl rfl) ⟨rfl, q1, hf2⟩
    exact ⟨rr, ss, hq, Rn_swI (off := 37) (tgt := 76) rfl (by decide) (by decide) rfl rfl hr⟩
  · obtain ⟨rr, ss, hq, hr⟩ : RnQ (ZY P) mX11_state (86, [some (.ref 0), some (.int (nI kd)), some (.int (nI k)), some (.int (nI 1)), some (.ref 36), some (.ref 47)], [], v2) (kdQ P G (some A) u (nI (zcnt (fun i => decide (zcl G (zE0 G) (zF0 G) ((zN A).2.1 k) i ≠ 0)) 102))) := by
      refine RQ_n (ZY_ok P) 2 rfl trivial ?_
      refine RQ_v vX1_closureSize (y_closureSize hG2 w2 y3 hk1) rfl k11_289 rfl rfl rfl (zy36 _ rfl) rfl ?_
      exact RQ_to (Rn_iret rfl rfl) ⟨rfl, q1, hf2⟩
    exact ⟨rr, ss, hq, Rn_swI (off := 47) (tgt := 86) rfl (by decide) (by decide) rfl rfl hr⟩
  · obtain ⟨rr, ss, hq, hr⟩ : RnQ (ZY P) mX11_state (93, [some (.ref 0), some (.int (nI kd)), some (.int (nI k)), some (.int (nI 2)), some (.ref 36), some (.ref 47)], [], v2) (kdQ P G (some A) u (nI (zcnt (fun b => ((zN A).2.2 k b).isSome) 14))) := by
      refine RQ_n (ZY_ok P) 2 rfl trivial ?_
      refine RQ_v vX1_lettersFrom (y_lettersFrom hN y3 hk1) rfl k11_292 rfl rfl rfl (zy36 _ rfl) rfl ?_
      refine RQ_s vJ6_bitCount_0f7a4 (e_bitCount (ZY_ok P) v2 _) rfl k11_295 rfl rfl rfl rfl ?_
      rw [zlf_ct]
      exact RQ_to (Rn_iret rfl rfl) ⟨rfl, q1, hf2⟩
    exact ⟨rr, ss, hq, Rn_swI (off := 54) (tgt := 93) rfl (by decide) (by decide) rfl rfl hr⟩
  · obtain ⟨rr, ss, hq, hr⟩ : RnQ (ZY P) mX11_state (103, [some (.ref 0), some (.int (nI kd)), some (.int (nI k)), some (.int (nI 3)), some (.ref 36), some (.ref 47)], [], v2) (kdQ P G (some A) u (fI (zdf G (zac G (zcl G (zE0 G) (zF0 G) ((zN A).2.1 k)) ((zN A).2.2 k) (u.1 3 4))))) := by
      refine RQ_n (ZY_ok P) 4 rfl ⟨hin2, trivial⟩ ?_
      rw [hic2, t2]
      exact RQ_to (Rn_iret rfl rfl) ⟨rfl, q1, hf2⟩
    exact ⟨rr, ss, hq, Rn_swI (off := 64) (tgt := 103) rfl (by decide) (by decide) rfl rfl hr⟩
  · obtain ⟨rr, ss, hq, hr⟩ : RnQ (ZY P) mX11_state (111, [some (.ref 0), some (.int (nI kd)), some (.int (nI k)), some (.int (nI 4)), some (.ref 36), some (.ref 47)], [], v2) (kdQ P G (some A) u (zck G (zcl G (zE0 G) (zF0 G) ((zN A).2.1 k)) ((zN A).2.2 k) (zgT G + 1))) := by
      refine RQ_n (ZY_ok P) 4 rfl ⟨hin2, trivial⟩ ?_
      rw [hic2, t3]
      exact RQ_to (Rn_iret rfl rfl) ⟨rfl, q1, hf2⟩
    exact ⟨rr, ss, hq, Rn_swI (off := 72) (tgt := 111) rfl (by decide) (by decide) rfl rfl hr⟩
  · obtain ⟨rr, ss, hq, hr⟩ : RnQ (ZY P) mX11_state (119, [some (.ref 0), some (.int (nI kd)), some (.int (nI k)), some (.int (nI 5)), some (.ref 36), some (.ref 47)], [], v2) (kdQ P G (some A) u (nI (zpl (zc0 A) k))) := by
      refine RQ_n (ZY_ok P) 4 rfl ⟨hin2, trivial⟩ ?_
      rw [hic2, (y1.p w4.1).2 k hk1]
      exact RQ_to (Rn_iret rfl rfl) ⟨rfl, q1, hf2⟩
    exact ⟨rr, ss, hq, Rn_swI (off := 80) (tgt := 119) rfl (by decide) (by decide) rfl rfl hr⟩
theorem m_state (hk3 : kd < 3) (hZ : ∀ kd, kd < 3 → ZAt G kd (os kd)) (h : RGr G os s) (x1 x2 : Int32) : EvQ ZR mX12_state [.ref 0, .int (nI kd), .int x1, .int x2] s (rfQ G os s (zvT G (os kd) (s.1 24) x1 x2)) := by
  refine EQ_V vX12_state rfl ?_
  refine RQ_n ZR_ok 3 rfl trivial ?_
  refine RQ_V vX12_isState (m_isState hk3 hZ h x1) rfl k12_427 rfl rfl rfl rfl (fun _ _ _ => rfl) (fun r1 v h1 => ?_)
  obtain ⟨rfl, a1, a2, a3⟩ := h1
  have hb := a1.1.b
  cases hz : zste (os kd) x1 with
  | none =>
    refine RQ_b rfl (fun _ => ?_) (fun z => absurd rfl z)
    refine RQ_n ZR_ok 1 rfl trivial ?_
    refine RQ_to (Rn_iret rfl rfl) ⟨?_, a1, a3⟩
    unfold zvT
    rw [hz]
  | some Ak =>
  obtain ⟨A, k⟩ := Ak
  obtain ⟨ho, hk1, hk2⟩ := zste_s hz
  subst hk2
  obtain ⟨b1, b2⟩ := a1.a hk3 a2 ho
  have hF := zN_F (ZAt_all a1.1.1 b2 (ho ▸ hZ kd hk3)) (show ZAt G kd (some A) from ho ▸ hZ kd hk3).2
  have hN := hF.1.2
  refine RQ_b rfl (fun z => absurd (show (1 : Int32) = 0 from z) (by decide)) (fun _ => ?_)
  have hI := (ZAt_all a1.1.1 b2 (ho ▸ hZ kd hk3)).1
  have e24 : v.1 24 = s.1 24 := a3.1 24 (by decide)
  rw [e24] at b1
  refine RQ_n ZR_ok 3 rfl trivial ?_
  refine RQ_s vX12_in (e_in v x2 0 5) rfl k12_170 rfl rfl rfl rfl ?_
  rw [show inB x2 0 5 = (zix x2 6).isSome from zix_in1 (n := 5) (by omega)]
  have val : ∀ r, r = (match zix x2 6 with
    | some 0 => nI (zcnt (fun i => decide ((zN A).2.1 k i ≠ 0)) 102)
    | some 1 => nI (zcnt (fun i => decide (zcl G (zE0 G) (zF0 G) ((zN A).2.1 k) i ≠ 0)) 102)
    | some 2 => nI (zcnt (fun b => ((zN A).2.2 k b).isSome) 14)
    | some 3 => fI (zdf G (zac G (zcl G (zE0 G) (zF0 G) ((zN A).2.1 k)) ((zN A).2.2 k) (s.1 24)))
    | some 4 => zck G (zcl G (zE0 G) (zF0 G) ((zN A).2.1 k)) ((zN A).2.2 k) (zgT G + 1)
    | some _ => nI (zpl (zc0 A) k)
    | none => -1) → r = zvT G (os kd) (s.1 24) (nI k) x2 := fun r hr => by
    unfold zvT
    rw [hz]
    exact hr
  cases e : zix x2 6 with
  | none =>
    rw [e] at val
    refine RQ_b rfl (fun z => absurd rfl z) (fun _ => ?_)
    refine RQ_n ZR_ok 1 rfl trivial ?_
    exact RQ_to (Rn_iret rfl rfl) ⟨congrArg (fun r => some (Value.int r)) (val _ rfl), a1, a3⟩
  | some j =>
  obtain ⟨j1, j2⟩ := zix_s e
  rw [e] at val
  have e2 : (200 : Int32) * nI kd + nI k = nI (200 * kd + k) := by rw [show (200 : Int32) = nI 200 from rfl, nI_mul, nI_add]
  have hin2 : vp_in (nI (200 * kd + k)) 600 := nI_in (by omega) (by omega)
  have hic2 : (nI (200 * kd + k)).toNatClampNeg = 200 * kd + k := nI_clamp (by omega)
  refine RQ_b rfl (fun _ => ?_) (fun z => absurd (Classical.not_not.mp z) (show ¬ (1 : Int32) = 0 by decide))
  refine RQ_n ZR_ok 1 rfl trivial ?_
  obtain ⟨-, -, c3, c4⟩ := b1.2 k hk1
  rcases (show j = 0 ∨ j = 1 ∨ j = 2 ∨ j = 3 ∨ j = 4 ∨ j = 5 by omega) with y | y | y | y | y | y <;> subst y <;> subst j2
  · obtain ⟨rr, ss, hq, hr⟩ : RnQ ZR mX12_state (56, [some (.ref 0), some (.int (nI kd)), some (.int (nI k)), some (.int (nI 0))], [], v) (rfQ G os s (zvT G (os kd) (s.1 24) (nI k) (nI 0))) := by
      refine RQ_n ZR_ok 4 rfl trivial ?_
      refine RQ_v vX12_itemMany (m_itemMany hk3 hN b1 hk1 false) rfl k12_430 rfl rfl rfl rfl rfl ?_
      exact RQ_to (Rn_iret rfl rfl) ⟨congrArg (fun r => some (Value.int r)) (val _ rfl), a1, a3⟩
    exact ⟨rr, ss, hq, Rn_swI (off := 35) (tgt := 56) rfl (by decide) (by decide) rfl rfl hr⟩
  · obtain ⟨rr, ss, hq, hr⟩ : RnQ ZR mX12_state (64, [some (.ref 0), some (.int (nI kd)), some (.int (nI k)), some (.int (nI 1))], [], v) (rfQ G os s (zvT G (os kd) (s.1 24) (nI k) (nI 1))) := by
      refine RQ_n ZR_ok 4 rfl trivial ?_
      refine RQ_v vX12_itemMany (m_itemMany hk3 hN b1 hk1 true) rfl k12_430 rfl rfl rfl rfl rfl ?_
      exact RQ_to (Rn_iret rfl rfl) ⟨congrArg (fun r => some (Value.int r)) (val _ rfl), a1, a3⟩
    exact ⟨rr, ss, hq, Rn_swI (off := 43) (tgt := 64) rfl (by decide) (by decide) rfl rfl hr⟩
  · obtain ⟨rr, ss, hq, hr⟩ : RnQ ZR mX12_state (72, [some (.ref 0), some (.int (nI kd)), some (.int (nI k)), some (.int (nI 2))], [], v) (rfQ G os s (zvT G (os kd) (s.1 24) (nI k) (nI 2))) := by
      refine RQ_n ZR_ok 3 rfl trivial ?_
      refine RQ_v vX12_byMany (m_byMany hk3 hN b1 hk1 (fun b t hb hbt => by have := zN_gl hI hk1 hb hbt; omega)) rfl k12_434 rfl rfl rfl rfl rfl ?_
      exact RQ_to (Rn_iret rfl rfl) ⟨congrArg (fun r => some (Value.int r)) (val _ rfl), a1, a3⟩
    exact ⟨rr, ss, hq, Rn_swI (off := 51) (tgt := 72) rfl (by decide) (by decide) rfl rfl hr⟩
  · obtain ⟨rr, ss, hq, hr⟩ : RnQ ZR mX12_state (79, [some (.ref 0), some (.int (nI kd)), some (.int (nI k)), some (.int (nI 3))], [], v) (rfQ G os s (zvT G (os kd) (s.1 24) (nI k) (nI 3))) := by
      refine RQ_n ZR_ok 7 rfl trivial ?_
      rw [e2]
      refine RQ_n ZR_ok 1 rfl ⟨hin2, trivial⟩ ?_
      rw [hic2, c4]
      exact RQ_to (Rn_iret rfl rfl) ⟨congrArg (fun r => some (Value.int r)) (val _ rfl), a1, a3⟩
    exact ⟨rr, ss, hq, Rn_swI (off := 58) (tgt := 79) rfl (by decide) (by decide) rfl rfl hr⟩
  · obtain ⟨rr, ss, hq, hr⟩ : RnQ ZR mX12_state (92, [some (.ref 0), some (.int (nI kd)), some (.int (nI k)), some (.int (nI 4))], [], v) (rfQ G os s (zvT G (os kd) (s.1 24) (nI k) (nI 4))) := by
      refine RQ_n ZR_ok 7 rfl trivial ?_
      rw [e2]
      refine RQ_n ZR_ok 1 rfl ⟨hin2, trivial⟩ ?_
      rw [hic2, c3]
      exact RQ_to (Rn_iret rfl rfl) ⟨congrArg (fun r => some (Value.int r)) (val _ rfl), a1, a3⟩
    exact ⟨rr, ss, hq, Rn_swI (off := 71) (tgt := 92) rfl (by decide) (by decide) rfl rfl hr⟩
  · obtain ⟨rr, ss, hq, hr⟩ : RnQ ZR mX12_state (105, [some (.ref 0), some (.int (nI kd)), some (.int (nI k)), some (.int (nI 5))], [], v) (rfQ G os s (zvT G (os kd) (s.1 24) (nI k) (nI 5))) := by
      refine RQ_n ZR_ok 3 rfl trivial ?_
      refine RQ_V vX12_layPath (m_layPath hk3 (zN_ok hI) b1.1 hk1) rfl k12_437 rfl rfl rfl rfl (fun _ _ _ => rfl) (fun r2 v2 h2 => ?_)
      obtain ⟨rfl, d1, d2⟩ := h2
      exact RQ_to (Rn_iret rfl rfl) ⟨congrArg (fun r => some (Value.int r)) (val _ rfl), a1.fr d2 (by decide) (by decide), a3.tr (d2.up (by decide) (by decide))⟩
    exact ⟨rr, ss, hq, Rn_swO (tgt := 105) rfl (by decide) rfl hr⟩
set_option maxHeartbeats 1000000 in
theorem y_path (hP : P.2.1 kd = some 36) (hk : P.1 0 = nI kd) (hk3 : kd < 3) (hZ : ZAt G kd o) (h : XK P G o u) (x1 x2 : Int32) : EvQ (ZY P) mX11_path [.ref 0, .int (nI kd), .int x1, .int x2] u (kdQ P G o u (zvP o x1 x2)) := by
  refine EQ_V vX11_path rfl ?_
  have hin : vp_in (nI kd) 3 := nI_in (by omega) (by omega)
  have hic : (nI kd).toNatClampNeg = kd := nI_clamp (by omega)
  refine RQ_n (ZY_ok P) 2 rfl trivial ?_
  refine RQ_VN vX11_isThere (y_isThere hP hk hk3 hZ h) rfl k11_251 rfl rfl rfl (zy0 _ rfl) ?_ ?_
  · show (((Nat.blt 0 (3 * u.2.2.2.2.1 + 99)) && true) && true) = true
    rw [zblt (show 0 < 3 * u.2.2.2.2.1 + 99 by omega)]; rfl
  rintro r1 v1 ⟨rfl, h1, h3, h4, h5⟩
  cases o with
  | none =>
    refine RQ_b rfl (fun _ => ?_) (fun z => absurd rfl z)
    refine RQ_n (ZY_ok P) 1 rfl trivial ?_
    exact RQ_to (Rn_iret rfl rfl) ⟨rfl, h1, h5⟩
  | some A =>
  obtain ⟨w1, w2, w3, w4⟩ := h1.v hZ h3
  have hN := w2.1.2
  have hG := h1.2.1.1
  have hb := hG.b
  refine RQ_b rfl (fun z => absurd (show (1 : Int32) = 0 from z) (by decide)) (fun _ => ?_)
  refine RQ_n (ZY_ok P) 4 rfl ⟨hin, trivial⟩ ?_
  rw [hic, hP]
  refine RQ_n (ZY_ok P) 1 rfl trivial ?_
  refine RQ_v vX1_hasState (y_hasState hN w3 x1) rfl k11_267 rfl rfl rfl (zy36 _ rfl) rfl ?_
  unfold zvP zste
  dsimp only
  cases hz : zix x1 (zN A).1 with
  | none =>
    refine RQ_b rfl (fun z => absurd rfl z) (fun _ => ?_)
    refine RQ_n (ZY_ok P) 1 rfl trivial ?_
    exact RQ_to (Rn_iret rfl rfl) ⟨rfl, h1, h5⟩
  | some k =>
  obtain ⟨hk1, hk2⟩ := zix_s hz
  subst hk2
  dsimp only
  refine RQ_b rfl (fun _ => ?_) (fun z => absurd (Classical.not_not.mp z) (show ¬ (1 : Int32) = 0 by decide))
  have hin2 : vp_in (nI k) 200 := nI_in (by omega) (by omega)
  have hic2 : (nI k).toNatClampNeg = k := nI_clamp (by omega)
  have hpl := (w1.p w4.1).2 k hk1
  have hple := zpl_le (zN_ok w4.1) k hk1
  have no : RnQ (ZY P) mX11_path (42, [some (.ref 0), some (.int (nI kd)), some (.int (nI k)), some (.int x2)], [], v1) (kdQ P G (some A) u (-1)) := by
    refine RQ_n (ZY_ok P) 1 rfl trivial ?_
    exact RQ_to (Rn_iret rfl rfl) ⟨rfl, h1, h5⟩
  refine RQ_n (ZY_ok P) 1 rfl trivial ?_
  cases e : zix x2 (zpl (zc0 A) k) with
  | none =>
    refine RQ_b rfl (fun _ => no) (fun z => ?_)
    refine RQ_n (ZY_ok P) 5 rfl ⟨hin, trivial⟩ ?_
    rw [hic, hP]
    refine RQ_n (ZY_ok P) 3 rfl ⟨hin2, trivial⟩ ?_
    rw [hic2, hpl]
    exact RQ_b rfl (fun y => absurd (zix_ge (by omega) e z) (Int32.not_le.mpr y)) (fun _ => no)
  | some i =>
    obtain ⟨i1, i2⟩ := zix_s e
    obtain ⟨z1, z2⟩ := zix_lt (by omega) e
    refine RQ_b rfl (fun z => absurd z z1) (fun _ => ?_)
    refine RQ_n (ZY_ok P) 5 rfl ⟨hin, trivial⟩ ?_
    rw [hic, hP]
    refine RQ_n (ZY_ok P) 3 rfl ⟨hin2, trivial⟩ ?_
    rw [hic2, hpl]
    refine RQ_b rfl (fun _ => ?_) (fun y => absurd (Int32.not_lt.mp y) z2)
    refine RQ_n (ZY_ok P) 4 rfl ⟨hin, trivial⟩ ?_
    rw [hic, hP]
    refine RQ_n (ZY_ok P) 2 rfl trivial ?_
    rw [i2]
    refine RQ_v vX1_pathLetter (y_pathLetter w4.1 w1 hk1 i1) rfl k11_341 rfl rfl rfl (zy36 _ rfl) rfl ?_
    refine RQ_s vX5_codeOf (e_codeOf v1 (Nat.mod_lt _ (by omega))) rfl k11_165 rfl rfl rfl rfl ?_
    exact RQ_to (Rn_iret rfl rfl) ⟨rfl, h1, h5⟩
theorem m_path (hk3 : kd < 3) (hZ : ∀ kd, kd < 3 → ZAt G kd (os kd)) (h : RGr G os s) (x1 x2 : Int32) : EvQ ZR mX12_path [.ref 0, .int (nI kd), .int x1, .int x2] s (rfQ G os s (zvP (os kd) x1 x2)) := by
  refine EQ_V vX12_path rfl ?_
  refine RQ_n ZR_ok 3 rfl trivial ?_
  refine RQ_V vX12_isState (m_isState hk3 hZ h x1) rfl k12_427 rfl rfl rfl rfl (fun _ _ _ => rfl) (fun r1 v h1 => ?_)
  obtain ⟨rfl, a1, a2, a3⟩ := h1
  have hb := a1.1.b
  cases hz : zste (os kd) x1 with
  | none =>
    refine RQ_b rfl (fun _ => ?_) (fun z => absurd rfl z)
    refine RQ_n ZR_ok 1 rfl trivial ?_
    refine RQ_to (Rn_iret rfl rfl) ⟨?_, a1, a3⟩
    unfold zvP
    rw [hz]
  | some Ak =>
  obtain ⟨A, k⟩ := Ak
  obtain ⟨ho, hk1, hk2⟩ := zste_s hz
  subst hk2
  obtain ⟨b1, b2⟩ := a1.a hk3 a2 ho
  have hF := zN_F (ZAt_all a1.1.1 b2 (ho ▸ hZ kd hk3)) (show ZAt G kd (some A) from ho ▸ hZ kd hk3).2
  have hN := hF.1.2
  refine RQ_b rfl (fun z => absurd (show (1 : Int32) = 0 from z) (by decide)) (fun _ => ?_)
  have hI := (ZAt_all a1.1.1 b2 (ho ▸ hZ kd hk3)).1
  have hple := zpl_le (zN_ok hI) k hk1
  refine RQ_n ZR_ok 5 rfl trivial ?_
  refine RQ_V vX12_layPath (m_layPath hk3 (zN_ok hI) b1.1 hk1) rfl k12_437 rfl rfl rfl rfl (fun _ _ _ => rfl) (fun r2 v2 h2 => ?_)
  obtain ⟨rfl, d1, d2⟩ := h2
  have g1 := a1.fr d2 (by decide) (by decide)
  have g3 : frR s v2 := a3.tr (d2.up (by decide) (by decide))
  refine RQ_n ZR_ok 2 rfl trivial ?_
  refine RQ_s vX12_in (e_in v2 x2 0 (nI (zpl (zc0 A) k) - 1)) rfl k12_170 rfl rfl rfl rfl ?_
  rw [zix_in (by omega)]
  have val : ∀ r, r = (match zix x2 (zpl (zc0 A) k) with | none => -1 | some i => nI (zlm (zfb (zc0 A) (zanc (zc0 A) (zpl (zc0 A) k - 1 - i) k)))) → r = zvP (os kd) (nI k) x2 := fun r hr => by
    unfold zvP
    rw [hz]
    exact hr
  cases e : zix x2 (zpl (zc0 A) k) with
  | none =>
    rw [e] at val
    refine RQ_b rfl (fun _ => ?_) (fun z => absurd rfl z)
    refine RQ_n ZR_ok 1 rfl trivial ?_
    exact RQ_to (Rn_iret rfl rfl) ⟨congrArg (fun r => some (Value.int r)) (val _ rfl), g1, g3⟩
  | some i =>
    obtain ⟨i1, i2⟩ := zix_s e
    rw [e, i2] at val
    rw [i2]
    refine RQ_b rfl (fun z => absurd (show (1 : Int32) = 0 from z) (by decide)) (fun _ => ?_)
    refine RQ_n ZR_ok 4 rfl ⟨nI_in (by omega) (by omega), trivial⟩ ?_
    rw [nI_clamp (show i < 2 ^ 31 by omega), d1 i i1]
    refine RQ_n ZR_ok 1 rfl trivial ?_
    exact RQ_to (Rn_iret rfl rfl) ⟨congrArg (fun r => some (Value.int r)) (val _ rfl), g1, g3⟩
end Pub4
