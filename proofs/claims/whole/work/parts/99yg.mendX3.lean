/-! mends: the class. -/
section XMend3
variable {P : YP} {G : ZGT} {kd m : Nat} {o : Option ZAS} {u : SX} {ln : Nat → Nat} {yy : Nat → Nat → Nat} {nb : Nat → Int32} {sl : Nat → Nat}
theorem zmd_s {N : ZNM} {p : Int32} {len n a : Nat} {inp : Nat → Nat} : zmd G N p len inp (n + 1) a = match zft (zdm G N p len inp a) (20 + zgT G) 0 with
    | some c => nI (100 * a + c)
    | none => zmd G N p len inp n (a + 1) := rfl
set_option maxHeartbeats 1000000 in
theorem y_mends (hP : P.2.1 kd = some 36) (hP2 : P.2.2 kd = some 47) (hk : P.1 0 = nI kd) (hk3 : kd < 3) (hZ : ZAt G kd o) (h : XK P G o u) (hS : SnX m ln yy u) (hTX : TXc G nb sl u) (x1 : Int32) : EvQ (ZY P) mX11_mends [.ref 0, .int (nI kd), .int x1] u (kdQ P G o u (zvM G o (u.1 3 4) m ln yy sl x1)) := by
  refine EQ_V vX11_mends rfl ?_
  refine RQ_n (ZY_ok P) 2 rfl trivial ?_
  refine RQ_VN vX11_isThere (y_isThere hP hk hk3 hZ h) rfl k11_251 rfl rfl rfl (zy0 _ rfl) ?_ ?_
  · show (((Nat.blt 0 (3 * u.2.2.2.2.1 + 99)) && true) && true) = true
    rw [zblt (show 0 < 3 * u.2.2.2.2.1 + 99 by omega)]; rfl
  rintro r1 v1 ⟨rfl, h1, h3, h4, h5⟩
  cases o with
  | none =>
    refine RQ_b rfl (fun _ => ?_) (fun z => absurd rfl z)
    refine RQ_n (ZY_ok P) 1 rfl trivial ?_
    exact RQ_to (Rn_iret rfl rfl) ⟨rfl, h1, h5⟩
  | some A =>
  obtain ⟨w1, w2, w3, w4⟩ := h1.v hZ h3
  have hGW := h1.2.1.1.1
  have hb := h1.2.1.1.b
  refine RQ_b rfl (fun z => absurd (show (1 : Int32) = 0 from z) (by decide)) (fun _ => ?_)
  refine RQ_n (ZY_ok P) 4 rfl trivial ?_
  refine RQ_V vX11_readsSentence (y_readsSentence hP2 hk3 hZ h1 h3 (hS.k h5) (hTX.k h5) x1 0) rfl k11_344 rfl rfl rfl (zy0 _ rfl) (fun _ s1 q => by show 3 * s1.2.2.2.2.1 + 99 = 3 * v1.2.2.2.2.1 + 99; rw [q.2.2.2.2.1]) ?_
  rintro r2 v2 ⟨rfl, q1, q2, q3, q4, q5⟩
  have hf := h5.tr q3
  cases e1 : zix x1 m with
  | none =>
    have e : zrqs m x1 0 = none := by unfold zrqs; rw [e1]
    unfold zvM
    dsimp only
    rw [e]
    refine RQ_b rfl (fun z => absurd rfl z) (fun _ => ?_)
    refine RQ_n (ZY_ok P) 1 rfl trivial ?_
    exact RQ_to (Rn_iret rfl rfl) ⟨rfl, q1, hf⟩
  | some k =>
  obtain ⟨k1, k2⟩ := zix_s e1
  have e : zrqs m x1 0 = some (k, 0) := zrqs_e e1 rfl
  obtain ⟨w, t1, t2, t3, t4⟩ := q5 k 0 e
  have hT := xrt_can (ln := ln) (yy := yy) (sl := sl) hGW (p := v1.1 3 4) w2 w k 0
  rw [h4] at t1 t2 hT
  obtain ⟨E1, E2, -, -, -⟩ := hT
  have E6 := (zcs_ok (ln := ln) (yy := yy) (sl := sl) hGW (p := u.1 3 4) w2 k 0).1
  have hv : zvM G (some A) (u.1 3 4) m ln yy sl x1 = if (zcs G A (u.1 3 4) ln yy sl k 0).1 = 1 then -1000000 else zmd G (zN A) (u.1 3 4) (ln k) (fun i => zsno sl (zgT G) (yy k i)) (ln k + 1) 0 := by
    unfold zvM; dsimp only; rw [e]
  rw [hv, e]
  clear hv
  refine RQ_b rfl (fun _ => ?_) (fun z => absurd (Classical.not_not.mp z) (show ¬ (1 : Int32) = 0 by decide))
  refine RQ_n (ZY_ok P) 4 rfl trivial ?_
  rw [t1.1, E1]
  by_cases y : (zcs G A (u.1 3 4) ln yy sl k 0).1 = 1
  · rw [if_pos y]
    refine RQ_b rfl (fun q => absurd ((zq_eq (a := (zcs G A (u.1 3 4) ln yy sl k 0).1) (b := 1) rfl rfl (by omega) (by omega)).mpr y) q) (fun _ => ?_)
    refine RQ_n (ZY_ok P) 1 rfl trivial ?_
    exact RQ_to (Rn_iret rfl rfl) ⟨rfl, q1, hf⟩
  rw [if_neg y]
  refine RQ_b rfl (fun _ => ?_) (fun q => absurd ((zq_eq (a := (zcs G A (u.1 3 4) ln yy sl k 0).1) (b := 1) rfl rfl (by omega) (by omega)).mp (Classical.not_not.mp q)) y)
  have hle := zcan_rd (N := zN A) (p := u.1 3 4) (len := ln k) (inp := fun i => zsno sl (zgT G) (yy k i)) hGW
  rw [zmd_eq hGW y]
  obtain ⟨r, hr⟩ : ∃ r, r = (zcan G (zN A) (u.1 3 4) 0 (ln k) (fun i => zsno sl (zgT G) (yy k i))).2.1.1 2 := ⟨_, rfl⟩
  rw [← hr] at hle ⊢
  have s24 := (hS.2.2 k k1).2.1
  refine RQ_n (ZY_ok P) 3 rfl trivial ?_
  rw [t1.2.1.1.2.2.1, E2.1 2 (by omega), show (zcs G A (u.1 3 4) ln yy sl k 0).2.1.1 2 = r from hr.symm]
  refine RQ_n (ZY_ok P) 3 rfl trivial ?_
  subst k2
  obtain ⟨D, hD⟩ : ∃ D, D = zmd G (zN A) (u.1 3 4) (ln k) (fun i => zsno sl (zgT G) (yy k i)) (r + 1) 0 := ⟨_, rfl⟩
  rw [← hD]
  refine loopU (r + 1) (fun i (_ : Unit) => [some (.ref 0), some (.int (nI kd)), some (.int (nI k)), some (.int (nI r)), some (.int (nI i)), none]) (fun i _ w => XK P G (some A) w ∧ w.1 36 3 = 0 ∧ frK u w ∧ zmd G (zN A) (u.1 3 4) (ln k) (fun i => zsno sl (zgT G) (yy k i)) (r + 1 - i) i = D) ?_ 0 () v2 (by omega) ⟨q1, q2, hf, hD.symm⟩
  intro i _ w hi hJ ih
  obtain ⟨g1, g2, g3, g4⟩ := hJ
  refine RQ_n (ZY_ok P) 2 rfl trivial ?_
  refine RQ_b rfl (fun z => ?_) (fun z => ?_)
  · have z := (zq_lt (a := r) (b := i) rfl rfl (by omega) (by omega)).mp z
    rw [show r + 1 - i = 0 by omega] at g4
    refine RQ_n (ZY_ok P) 1 rfl trivial ?_
    exact RQ_to (Rn_iret rfl rfl) ⟨by rw [← g4]; rfl, g1, g3⟩
  have z := (not_congr (zq_lt (a := r) (b := i) rfl rfl (by omega) (by omega))).mp z
  rw [show r + 1 - i = (r + 1 - (i + 1)) + 1 by omega, zmd_s] at g4
  refine RQ_n (ZY_ok P) 3 rfl trivial ?_
  refine RQ_V vX11_actionsOf (y_actionsOf hP2 hk3 hZ g1 g2) rfl k11_282 rfl rfl rfl (zy0 _ rfl) (fun _ s1 q => by show 3 * s1.2.2.2.2.1 + 99 = 3 * w.2.2.2.2.1 + 99; rw [q.2.2.2.2.2.1.2.2]) ?_
  rintro r3 v3 ⟨rfl, a1, a2, a3, a4, a5, a6⟩
  have e34 : v3.1 3 4 = u.1 3 4 := a4.trans (g3.1 3 4 (by omega))
  rw [e34] at a3
  have f3 := g3.tr a6
  refine RQ_n (ZY_ok P) 2 rfl trivial ?_
  refine RQ_V vX11_mendAt (y_mendAt (pl := i) hZ a1 a2 a3 (hS.k f3) (hTX.k f3) k1 (by omega)) rfl k11_371 rfl rfl rfl (zy0 _ rfl) (fun _ s1 q => by show 3 * s1.2.2.2.2.1 + 99 = 3 * v3.2.2.2.2.1 + 99; rw [q.2.2.2.2.2]) ?_
  rintro r5 v5 ⟨rfl, b1, b2, b3, b4, b5⟩
  have f5 := f3.tr b4
  refine RQ_n (ZY_ok P) 3 rfl trivial ?_
  cases ez : zft (zdm G (zN A) (u.1 3 4) (ln k) (fun i => zsno sl (zgT G) (yy k i)) i) (20 + zgT G) 0 with
  | none =>
    rw [ez] at g4
    refine RQ_b rfl (fun _ => ?_) (fun q => absurd rfl q)
    refine RQ_n (ZY_ok P) 2 rfl trivial ?_
    exact ih (by omega) () _ _ ⟨rfl, rfl, rfl, rfl, nIs i, trivial⟩ ⟨b1, b2, f5, g4⟩
  | some c =>
    rw [ez] at g4
    have hc := zft_lt _ _ _ ez
    refine RQ_b rfl (fun q => absurd (show nI c = -1 from q) (nI_m1 (by omega))) (fun _ => ?_)
    refine RQ_n (ZY_ok P) 5 rfl trivial ?_
    refine RQ_to (Rn_iret rfl rfl) ⟨?_, b1, f5⟩
    rw [← g4]
    show some (Value.int (nI i * 100 + nI c)) = some (Value.int (nI (100 * i + c)))
    rw [show (100 : Int32) = nI 100 from rfl, nI_mul, nI_add, Nat.mul_comm]
end XMend3
