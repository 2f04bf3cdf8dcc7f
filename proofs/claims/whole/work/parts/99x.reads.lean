/-! reads, reduced, tree: the class. -/
def zt0 : SM := (fun _ => 0, fun _ _ => 0, 0)
/-- a run by an automaton, told once for both sides -/
noncomputable def zcan (G : ZGT) (N : ZNM) (p : Int32) (md len : Nat) (inp : Nat → Nat) : ZRT := rrt G N p md len inp zt0
/-- of a sentence -/
noncomputable def zcs (G : ZGT) (A : ZAS) (p : Int32) (ln : Nat → Nat) (yy : Nat → Nat → Nat) (sl : Nat → Nat) (k md : Nat) : ZRT := zcan G (zN A) p md (ln k) (fun i => zsno sl (zgT G) (yy k i))
noncomputable def zvR (G : ZGT) (o : Option ZAS) (p : Int32) (m : Nat) (ln : Nat → Nat) (yy : Nat → Nat → Nat) (sl : Nat → Nat) (x1 x2 x3 : Int32) : Int32 := match o with
  | none => -1
  | some A => match zrqs m x1 x2 with
    | none => -1
    | some (k, md) => match zix x3 4 with
      | none => -1
      | some 0 => nI (zcs G A p ln yy sl k md).1
      | some 1 => nI ((zcs G A p ln yy sl k md).2.1.1 1)
      | some 2 => nI ((zcs G A p ln yy sl k md).2.1.1 2)
      | some _ => nI ((zcs G A p ln yy sl k md).2.1.1 3)
noncomputable def zvD (G : ZGT) (o : Option ZAS) (p : Int32) (m : Nat) (ln : Nat → Nat) (yy : Nat → Nat → Nat) (sl : Nat → Nat) (x1 x2 x3 : Int32) : Int32 := match o with
  | none => -1
  | some A => match zrqs m x1 x2 with
    | none => -1
    | some (k, md) => match zix x3 ((zcs G A p ln yy sl k md).2.1.1 3) with
      | none => -1
      | some i => (zcs G A p ln yy sl k md).2.1.2 4 i
noncomputable def zvE (G : ZGT) (o : Option ZAS) (p : Int32) (m : Nat) (ln : Nat → Nat) (yy : Nat → Nat → Nat) (sl : Nat → Nat) (x1 x2 x3 : Int32) : Int32 := match o with
  | none => -1
  | some A => match zrqs m x1 0 with
    | none => -1
    | some (k, md) => match zix x2 ((zcs G A p ln yy sl k md).2.1.1 3) with
      | none => -1
      | some i => match zix x3 3 with
        | none => -1
        | some 0 => (zcs G A p ln yy sl k md).2.1.2 5 i
        | some 1 => (zcs G A p ln yy sl k md).2.1.2 7 i
        | some _ => (zcs G A p ln yy sl k md).2.1.2 8 i
section XReads
variable {P : YP} {G : ZGT} {kd m : Nat} {o : Option ZAS} {u : SX} {ln : Nat → Nat} {yy : Nat → Nat → Nat} {nb : Nat → Int32} {sl : Nat → Nat}
theorem xrt_can (hG : GW G) {A : ZAS} {p : Int32} (hF : ZNF G (zN A)) (w : SX) (k md : Nat) : EqT (xrt G (zN A) p md (ln k) (fun i => zsno sl (zgT G) (yy k i)) w) (zcs G A p ln yy sl k md) := xr_rr hG hF (fun i _ => zsno_ok sl (zgT G) (yy k i)) w zt0
theorem zcs_ok (hG : GW G) {A : ZAS} {p : Int32} (hF : ZNF G (zN A)) (k md : Nat) : (zcs G A p ln yy sl k md).1 < 3 ∧ ZRI (zN A) (zcs G A p ln yy sl k md) := by
  unfold zcs zcan rrt
  exact zrt_end hG hF (fun i _ => zsno_ok sl (zgT G) (yy k i)) 301 _ ⟨rr0_W hF.1.1 zt0, (rr0_W hF.1.1 zt0).k, Nat.zero_le _⟩ (fun _ => rfl)
set_option maxHeartbeats 1000000 in
theorem y_reads (hP : P.2.1 kd = some 36) (hP2 : P.2.2 kd = some 47) (hk : P.1 0 = nI kd) (hk3 : kd < 3) (hZ : ZAt G kd o) (h : XK P G o u) (hS : SnX m ln yy u) (hTX : TXc G nb sl u) (x1 x2 x3 : Int32) : EvQ (ZY P) mX11_reads [.ref 0, .int (nI kd), .int x1, .int x2, .int x3] u (kdQ P G o u (zvR G o (u.1 3 4) m ln yy sl x1 x2 x3)) := by
  refine EQ_V vX11_reads rfl ?_
  refine RQ_n (ZY_ok P) 2 rfl trivial ?_
  refine RQ_VN vX11_isThere (y_isThere hP hk hk3 hZ h) rfl k11_251 rfl rfl rfl (zy0 _ rfl) ?_ ?_
  · show (((Nat.blt 0 (3 * u.2.2.2.2.1 + 99)) && true) && true) = true
    rw [zblt (show 0 < 3 * u.2.2.2.2.1 + 99 by omega)]; rfl
  rintro r1 v1 ⟨rfl, h1, h3, h4, h5⟩
  cases o with
  | none =>
    refine RQ_b rfl (fun _ => ?_) (fun z => absurd rfl z)
    refine RQ_n (ZY_ok P) 1 rfl trivial ?_
    exact RQ_to (Rn_iret rfl rfl) ⟨rfl, h1, h5⟩
  | some A =>
  obtain ⟨w1, w2, w3, w4⟩ := h1.v hZ h3
  have hGW := h1.2.1.1.1
  refine RQ_b rfl (fun z => absurd (show (1 : Int32) = 0 from z) (by decide)) (fun _ => ?_)
  refine RQ_n (ZY_ok P) 4 rfl trivial ?_
  refine RQ_V vX11_readsSentence (y_readsSentence hP2 hk3 hZ h1 h3 (hS.k h5) (hTX.k h5) x1 x2) rfl k11_344 rfl rfl rfl (zy0 _ rfl) (fun _ s1 q => by show 3 * s1.2.2.2.2.1 + 99 = 3 * v1.2.2.2.2.1 + 99; rw [q.2.2.2.2.1]) ?_
  rintro r2 v2 ⟨rfl, q1, q2, q3, q4, q5⟩
  have hf := h5.tr q3
  unfold zvR
  dsimp only
  cases e : zrqs m x1 x2 with
  | none =>
    refine RQ_b rfl (fun z => absurd rfl z) (fun _ => ?_)
    refine RQ_n (ZY_ok P) 1 rfl trivial ?_
    exact RQ_to (Rn_iret rfl rfl) ⟨rfl, q1, hf⟩
  | some km =>
  obtain ⟨k, md⟩ := km
  obtain ⟨w, t1, -, -, -⟩ := q5 k md e
  have hT := xrt_can (ln := ln) (yy := yy) (sl := sl) hGW (p := v1.1 3 4) w2 w k md
  rw [h4] at t1 hT
  obtain ⟨E1, E2, -⟩ := hT
  dsimp only
  refine RQ_b rfl (fun _ => ?_) (fun z => absurd (Classical.not_not.mp z) (show ¬ (1 : Int32) = 0 by decide))
  refine RQ_n (ZY_ok P) 1 rfl trivial ?_
  cases e3 : zix x3 4 with
  | none =>
    obtain ⟨rr, ss, hq, hr⟩ : RnQ (ZY P) mX11_reads (84, [some (.ref 0), some (.int (nI kd)), some (.int x1), some (.int x2), some (.int x3)], [], v2) (kdQ P G (some A) u (-1)) := by
      refine RQ_n (ZY_ok P) 1 rfl trivial ?_
      exact RQ_to (Rn_iret rfl rfl) ⟨rfl, q1, hf⟩
    refine ⟨rr, ss, hq, Rn_swO (tgt := 84) rfl ?_ rfl hr⟩
    have := zix_out (by omega) e3
    omega
  | some j =>
  obtain ⟨j1, j2⟩ := zix_s e3
  obtain ⟨⟨i1, i2, i3, i4⟩, -⟩ := t1.2.1
  rcases (show j = 0 ∨ j = 1 ∨ j = 2 ∨ j = 3 by omega) with y | y | y | y <;> subst y <;> subst j2
  · obtain ⟨rr, ss, hq, hr⟩ : RnQ (ZY P) mX11_reads (52, [some (.ref 0), some (.int (nI kd)), some (.int x1), some (.int x2), some (.int (nI 0))], [], v2) (kdQ P G (some A) u (nI (zcs G A (u.1 3 4) ln yy sl k md).1)) := by
      refine RQ_n (ZY_ok P) 3 rfl trivial ?_
      rw [t1.1, E1]
      exact RQ_to (Rn_iret rfl rfl) ⟨rfl, q1, hf⟩
    exact ⟨rr, ss, hq, Rn_swI (off := 30) (tgt := 52) rfl (by decide) (by decide) rfl rfl hr⟩
  · obtain ⟨rr, ss, hq, hr⟩ : RnQ (ZY P) mX11_reads (60, [some (.ref 0), some (.int (nI kd)), some (.int x1), some (.int x2), some (.int (nI 1))], [], v2) (kdQ P G (some A) u (nI ((zcs G A (u.1 3 4) ln yy sl k md).2.1.1 1))) := by
      refine RQ_n (ZY_ok P) 3 rfl trivial ?_
      rw [i2, E2.1 1 (by omega)]
      exact RQ_to (Rn_iret rfl rfl) ⟨rfl, q1, hf⟩
    exact ⟨rr, ss, hq, Rn_swI (off := 38) (tgt := 60) rfl (by decide) (by decide) rfl rfl hr⟩
  · obtain ⟨rr, ss, hq, hr⟩ : RnQ (ZY P) mX11_reads (68, [some (.ref 0), some (.int (nI kd)), some (.int x1), some (.int x2), some (.int (nI 2))], [], v2) (kdQ P G (some A) u (nI ((zcs G A (u.1 3 4) ln yy sl k md).2.1.1 2))) := by
      refine RQ_n (ZY_ok P) 3 rfl trivial ?_
      rw [i3, E2.1 2 (by omega)]
      exact RQ_to (Rn_iret rfl rfl) ⟨rfl, q1, hf⟩
    exact ⟨rr, ss, hq, Rn_swI (off := 46) (tgt := 68) rfl (by decide) (by decide) rfl rfl hr⟩
  · obtain ⟨rr, ss, hq, hr⟩ : RnQ (ZY P) mX11_reads (76, [some (.ref 0), some (.int (nI kd)), some (.int x1), some (.int x2), some (.int (nI 3))], [], v2) (kdQ P G (some A) u (nI ((zcs G A (u.1 3 4) ln yy sl k md).2.1.1 3))) := by
      refine RQ_n (ZY_ok P) 3 rfl trivial ?_
      rw [i4, E2.1 3 (by omega)]
      exact RQ_to (Rn_iret rfl rfl) ⟨rfl, q1, hf⟩
    exact ⟨rr, ss, hq, Rn_swI (off := 54) (tgt := 76) rfl (by decide) (by decide) rfl rfl hr⟩
set_option maxHeartbeats 1000000 in
theorem y_reduced (hP : P.2.1 kd = some 36) (hP2 : P.2.2 kd = some 47) (hk : P.1 0 = nI kd) (hk3 : kd < 3) (hZ : ZAt G kd o) (h : XK P G o u) (hS : SnX m ln yy u) (hTX : TXc G nb sl u) (x1 x2 x3 : Int32) : EvQ (ZY P) mX11_reduced [.ref 0, .int (nI kd), .int x1, .int x2, .int x3] u (kdQ P G o u (zvD G o (u.1 3 4) m ln yy sl x1 x2 x3)) := by
  refine EQ_V vX11_reduced rfl ?_
  refine RQ_n (ZY_ok P) 2 rfl trivial ?_
  refine RQ_VN vX11_isThere (y_isThere hP hk hk3 hZ h) rfl k11_251 rfl rfl rfl (zy0 _ rfl) ?_ ?_
  · show (((Nat.blt 0 (3 * u.2.2.2.2.1 + 99)) && true) && true) = true
    rw [zblt (show 0 < 3 * u.2.2.2.2.1 + 99 by omega)]; rfl
  rintro r1 v1 ⟨rfl, h1, h3, h4, h5⟩
  cases o with
  | none =>
    refine RQ_b rfl (fun _ => ?_) (fun z => absurd rfl z)
    refine RQ_n (ZY_ok P) 1 rfl trivial ?_
    exact RQ_to (Rn_iret rfl rfl) ⟨rfl, h1, h5⟩
  | some A =>
  obtain ⟨w1, w2, w3, w4⟩ := h1.v hZ h3
  have hGW := h1.2.1.1.1
  refine RQ_b rfl (fun z => absurd (show (1 : Int32) = 0 from z) (by decide)) (fun _ => ?_)
  refine RQ_n (ZY_ok P) 4 rfl trivial ?_
  refine RQ_V vX11_readsSentence (y_readsSentence hP2 hk3 hZ h1 h3 (hS.k h5) (hTX.k h5) x1 x2) rfl k11_344 rfl rfl rfl (zy0 _ rfl) (fun _ s1 q => by show 3 * s1.2.2.2.2.1 + 99 = 3 * v1.2.2.2.2.1 + 99; rw [q.2.2.2.2.1]) ?_
  rintro r2 v2 ⟨rfl, q1, q2, q3, q4, q5⟩
  have hf := h5.tr q3
  unfold zvD
  dsimp only
  have no : RnQ (ZY P) mX11_reduced (35, [some (.ref 0), some (.int (nI kd)), some (.int x1), some (.int x2), some (.int x3)], [], v2) (kdQ P G (some A) u (-1)) := by
    refine RQ_n (ZY_ok P) 1 rfl trivial ?_
    exact RQ_to (Rn_iret rfl rfl) ⟨rfl, q1, hf⟩
  cases e : zrqs m x1 x2 with
  | none => exact RQ_b rfl (fun _ => no) (fun z => absurd rfl z)
  | some km =>
  obtain ⟨k, md⟩ := km
  obtain ⟨w, t1, -, -, -⟩ := q5 k md e
  have hT := xrt_can (ln := ln) (yy := yy) (sl := sl) hGW (p := v1.1 3 4) w2 w k md
  have hZI := (zcs_ok (ln := ln) (yy := yy) (sl := sl) hGW (p := u.1 3 4) w2 k md).2
  rw [h4] at t1 hT
  obtain ⟨E1, E2, -⟩ := hT
  obtain ⟨⟨i1, i2, i3, i4⟩, -, -, -, a4, -⟩ := t1.2.1
  have d3 := E2.1 3 (by omega)
  have hd3 : (zcs G A (u.1 3 4) ln yy sl k md).2.1.1 3 ≤ 300 := Nat.le_trans hZI.1.2.2.2.2.1 hZI.1.2.2.2.2.2
  dsimp only
  refine RQ_b rfl (fun z => absurd (show (1 : Int32) = 0 from z) (by decide)) (fun _ => ?_)
  refine RQ_n (ZY_ok P) 1 rfl trivial ?_
  cases e3 : zix x3 ((zcs G A (u.1 3 4) ln yy sl k md).2.1.1 3) with
  | none =>
    refine RQ_b rfl (fun _ => no) (fun z => ?_)
    refine RQ_n (ZY_ok P) 4 rfl trivial ?_
    rw [i4, d3]
    exact RQ_b rfl (fun y => absurd (zix_ge (by omega) e3 z) (Int32.not_le.mpr y)) (fun _ => no)
  | some i =>
    obtain ⟨j1, j2⟩ := zix_s e3
    obtain ⟨z1, z2⟩ := zix_lt (by omega) e3
    refine RQ_b rfl (fun z => absurd z z1) (fun _ => ?_)
    refine RQ_n (ZY_ok P) 4 rfl trivial ?_
    rw [i4, d3]
    refine RQ_b rfl (fun _ => ?_) (fun y => absurd (Int32.not_lt.mp y) z2)
    rw [j2]
    refine RQ_n (ZY_ok P) 4 rfl trivial ?_
    refine RQ_n (ZY_ok P) 1 rfl ⟨nI_in (by omega) (by omega), trivial⟩ ?_
    rw [nI_clamp (show i < 2 ^ 31 by omega), a4, (E2.2.2.2 i (by omega)).1]
    exact RQ_to (Rn_iret rfl rfl) ⟨rfl, q1, hf⟩
set_option maxHeartbeats 1000000 in
theorem y_tree (hP : P.2.1 kd = some 36) (hP2 : P.2.2 kd = some 47) (hk : P.1 0 = nI kd) (hk3 : kd < 3) (hZ : ZAt G kd o) (h : XK P G o u) (hS : SnX m ln yy u) (hTX : TXc G nb sl u) (x1 x2 x3 : Int32) : EvQ (ZY P) mX11_tree [.ref 0, .int (nI kd), .int x1, .int x2, .int x3] u (kdQ P G o u (zvE G o (u.1 3 4) m ln yy sl x1 x2 x3)) := by
  refine EQ_V vX11_tree rfl ?_
  refine RQ_n (ZY_ok P) 2 rfl trivial ?_
  refine RQ_VN vX11_isThere (y_isThere hP hk hk3 hZ h) rfl k11_251 rfl rfl rfl (zy0 _ rfl) ?_ ?_
  · show (((Nat.blt 0 (3 * u.2.2.2.2.1 + 99)) && true) && true) = true
    rw [zblt (show 0 < 3 * u.2.2.2.2.1 + 99 by omega)]; rfl
  rintro r1 v1 ⟨rfl, h1, h3, h4, h5⟩
  cases o with
  | none =>
    refine RQ_b rfl (fun _ => ?_) (fun z => absurd rfl z)
    refine RQ_n (ZY_ok P) 1 rfl trivial ?_
    exact RQ_to (Rn_iret rfl rfl) ⟨rfl, h1, h5⟩
  | some A =>
  obtain ⟨w1, w2, w3, w4⟩ := h1.v hZ h3
  have hGW := h1.2.1.1.1
  refine RQ_b rfl (fun z => absurd (show (1 : Int32) = 0 from z) (by decide)) (fun _ => ?_)
  refine RQ_n (ZY_ok P) 4 rfl trivial ?_
  refine RQ_V vX11_readsSentence (y_readsSentence hP2 hk3 hZ h1 h3 (hS.k h5) (hTX.k h5) x1 0) rfl k11_344 rfl rfl rfl (zy0 _ rfl) (fun _ s1 q => by show 3 * s1.2.2.2.2.1 + 99 = 3 * v1.2.2.2.2.1 + 99; rw [q.2.2.2.2.1]) ?_
  rintro r2 v2 ⟨rfl, q1, q2, q3, q4, q5⟩
  have hf := h5.tr q3
  unfold zvE
  dsimp only
  have no : RnQ (ZY P) mX11_tree (33, [some (.ref 0), some (.int (nI kd)), some (.int x1), some (.int x2), some (.int x3)], [], v2) (kdQ P G (some A) u (-1)) := by
    refine RQ_n (ZY_ok P) 1 rfl trivial ?_
    exact RQ_to (Rn_iret rfl rfl) ⟨rfl, q1, hf⟩
  cases e : zrqs m x1 0 with
  | none => exact RQ_b rfl (fun _ => no) (fun z => absurd rfl z)
  | some km =>
  obtain ⟨k, md⟩ := km
  obtain ⟨w, t1, -, -, -⟩ := q5 k md e
  have hT := xrt_can (ln := ln) (yy := yy) (sl := sl) hGW (p := v1.1 3 4) w2 w k md
  have hZI := (zcs_ok (ln := ln) (yy := yy) (sl := sl) hGW (p := u.1 3 4) w2 k md).2
  rw [h4] at t1 hT
  obtain ⟨E1, E2, -⟩ := hT
  obtain ⟨⟨i1, i2, i3, i4⟩, -, -, -, -, a5, a6, a8⟩ := t1.2.1
  have d3 := E2.1 3 (by omega)
  have hd3 : (zcs G A (u.1 3 4) ln yy sl k md).2.1.1 3 ≤ 300 := Nat.le_trans hZI.1.2.2.2.2.1 hZI.1.2.2.2.2.2
  dsimp only
  refine RQ_b rfl (fun z => absurd (show (1 : Int32) = 0 from z) (by decide)) (fun _ => ?_)
  refine RQ_n (ZY_ok P) 1 rfl trivial ?_
  cases e3 : zix x2 ((zcs G A (u.1 3 4) ln yy sl k md).2.1.1 3) with
  | none =>
    refine RQ_b rfl (fun _ => no) (fun z => ?_)
    refine RQ_n (ZY_ok P) 4 rfl trivial ?_
    rw [i4, d3]
    exact RQ_b rfl (fun y => absurd (zix_ge (by omega) e3 z) (Int32.not_le.mpr y)) (fun _ => no)
  | some i =>
  obtain ⟨j1, j2⟩ := zix_s e3
  obtain ⟨z1, z2⟩ := zix_lt (by omega) e3
  obtain ⟨-, b5, b6, b8⟩ := E2.2.2.2 i (by omega)
  refine RQ_b rfl (fun z => absurd z z1) (fun _ => ?_)
  refine RQ_n (ZY_ok P) 4 rfl trivial ?_
  rw [i4, d3]
  refine RQ_b rfl (fun _ => ?_) (fun y => absurd (Int32.not_lt.mp y) z2)
  subst j2
  dsimp only
  have hin : vp_in (nI i) 300 := nI_in (by omega) (by omega)
  have hic : (nI i).toNatClampNeg = i := nI_clamp (by omega)
  refine RQ_n (ZY_ok P) 1 rfl trivial ?_
  cases e4 : zix x3 3 with
  | none =>
    obtain ⟨rr, ss, hq, hr⟩ : RnQ (ZY P) mX11_tree (94, [some (.ref 0), some (.int (nI kd)), some (.int x1), some (.int (nI i)), some (.int x3)], [], v2) (kdQ P G (some A) u (-1)) := by
      refine RQ_n (ZY_ok P) 1 rfl trivial ?_
      exact RQ_to (Rn_iret rfl rfl) ⟨rfl, q1, hf⟩
    refine ⟨rr, ss, hq, Rn_swO (tgt := 94) rfl ?_ rfl hr⟩
    have := zix_out (by omega) e4
    omega
  | some j =>
  obtain ⟨l1, l2⟩ := zix_s e4
  rcases (show j = 0 ∨ j = 1 ∨ j = 2 by omega) with y | y | y <;> subst y <;> subst l2
  · obtain ⟨rr, ss, hq, hr⟩ : RnQ (ZY P) mX11_tree (64, [some (.ref 0), some (.int (nI kd)), some (.int x1), some (.int (nI i)), some (.int (nI 0))], [], v2) (kdQ P G (some A) u ((zcs G A (u.1 3 4) ln yy sl k md).2.1.2 5 i)) := by
      refine RQ_n (ZY_ok P) 5 rfl ⟨hin, trivial⟩ ?_
      rw [hic, a5, b5]
      exact RQ_to (Rn_iret rfl rfl) ⟨rfl, q1, hf⟩
    exact ⟨rr, ss, hq, Rn_swI (off := 27) (tgt := 64) rfl (by decide) (by decide) rfl rfl hr⟩
  · obtain ⟨rr, ss, hq, hr⟩ : RnQ (ZY P) mX11_tree (74, [some (.ref 0), some (.int (nI kd)), some (.int x1), some (.int (nI i)), some (.int (nI 1))], [], v2) (kdQ P G (some A) u ((zcs G A (u.1 3 4) ln yy sl k md).2.1.2 7 i)) := by
      refine RQ_n (ZY_ok P) 5 rfl ⟨hin, trivial⟩ ?_
      rw [hic, a6, b6]
      exact RQ_to (Rn_iret rfl rfl) ⟨rfl, q1, hf⟩
    exact ⟨rr, ss, hq, Rn_swI (off := 37) (tgt := 74) rfl (by decide) (by decide) rfl rfl hr⟩
  · obtain ⟨rr, ss, hq, hr⟩ : RnQ (ZY P) mX11_tree (84, [some (.ref 0), some (.int (nI kd)), some (.int x1), some (.int (nI i)), some (.int (nI 2))], [], v2) (kdQ P G (some A) u ((zcs G A (u.1 3 4) ln yy sl k md).2.1.2 8 i)) := by
      refine RQ_n (ZY_ok P) 5 rfl ⟨hin, trivial⟩ ?_
      rw [hic, a8, b8]
      exact RQ_to (Rn_iret rfl rfl) ⟨rfl, q1, hf⟩
    exact ⟨rr, ss, hq, Rn_swI (off := 47) (tgt := 84) rfl (by decide) (by decide) rfl rfl hr⟩
end XReads
