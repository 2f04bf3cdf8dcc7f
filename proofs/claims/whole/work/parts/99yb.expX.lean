/-! What is expected: the class. -/
section XExp
variable {P : YP} {G : ZGT} {N : ZNM} {p : Int32} {X : ZRS} {kd m t : Nat} {o : Option ZAS} {u : SX} {K : Nat × (Nat → Int32)} {ln : Nat → Nat} {yy : Nat → Nat → Nat} {nb : Nat → Int32} {sl : Nat → Nat}
theorem XKp.fr {v : SX} {ks : List (Nat × Nat)} {as : List Nat} (h : XKp K u) (f : frX ks as u v) (h1 : (87, 9) ∉ ks) (h2 : 92 ∉ as) : XKp K v := ⟨(f.1 87 9 h1).trans h.1, fun i hi => by rw [f.2.1 92 h2]; exact h.2 i hi⟩
set_option maxHeartbeats 1000000 in
theorem y_isTaken (hG : ZGX G u) (hF : ZNF G N) (hV : XV G N u) (hT : XT G N p u) (htab : u.2.2.2.1 87 1 = .ref 47) (hmd : u.1 87 2 = nI 0) (h : XRd X u) (hK : XKp K u) (hW : ZRW N (zkx K)) (ht : t ≤ zgT G) :
    EvQ (ZY P) mX8_isTaken [.ref 87, .int (nI t)] u (fun x v => x = some (.int (bI (zxv G N p K t))) ∧ (∃ Y, XRd Y v) ∧ frX [(87, 5), (87, 12), (87, 14)] [89, 90, 91, 93, 94, 95, 96] u v) := by
  have hb := hG.b
  have hd : 1 ≤ K.1 ∧ K.1 ≤ 100 := hW.1
  have h9 := hK.1
  refine EQ_V vX8_isTaken rfl ?_
  refine RQ_n (ZY_ok P) 4 rfl trivial ?_
  rw [h9]
  obtain ⟨v1, hv1⟩ : ∃ x : SX, x = (updI u.1 87 5 (nI K.1), u.2) := ⟨_, rfl⟩
  show RnQ (ZY P) mX8_isTaken (8, _, _, ((updI u.1 87 5 (nI K.1), u.2) : SX)) _
  rw [← hv1]
  have f1 : frX [(87, 5)] [] u v1 := by rw [hv1]; exact frX.i 87 5 (by decide)
  have e5 : v1.1 87 5 = nI K.1 := by rw [hv1]; rfl
  have e9 : v1.1 87 9 = nI K.1 := (f1.1 87 9 (by decide)).trans h9
  refine RQ_n (ZY_ok P) 8 rfl trivial ?_
  refine RQ_copy (s' := (v1.1, setA v1.2.1 89 (va_cpy (v1.2.1 92) (v1.2.1 89) 0 0 K.1), v1.2.2)) (i := 0) (j := 0) (n := K.1) (n0 := 100) (n1 := 100) (f := v1.2.1 92) (g := v1.2.1 89) rfl k8_88 rfl rfl rfl e9 rfl rfl (by show 92 < 3 * v1.2.2.2.2.1 + 99; omega) (by show 89 < 3 * v1.2.2.2.2.1 + 99; omega) (by omega) (by omega) ⟨by omega, by omega⟩ (y_cps rfl) ?_
  obtain ⟨v2, hv2⟩ : ∃ x : SX, x = (v1.1, setA v1.2.1 89 (va_cpy (v1.2.1 92) (v1.2.1 89) 0 0 K.1), v1.2.2) := ⟨_, rfl⟩
  rw [← hv2]
  have f2 : frX [] [89] v1 v2 := by rw [hv2]; exact frX.s 89 (by decide)
  have e89 : v2.2.1 89 = va_cpy (v1.2.1 92) (v1.2.1 89) 0 0 K.1 := by rw [hv2]; show setA v1.2.1 89 (va_cpy (v1.2.1 92) (v1.2.1 89) 0 0 K.1) 89 = _; rw [setA_at]
  refine RQ_n (ZY_ok P) 10 rfl trivial ?_
  obtain ⟨v3, hv3⟩ : ∃ x : SX, x = (updI (updI v2.1 87 12 0) 87 14 0, v2.2) := ⟨_, rfl⟩
  show RnQ (ZY P) mX8_isTaken (39, _, _, ((updI (updI v2.1 87 12 0) 87 14 0, v2.2) : SX)) _
  rw [← hv3]
  have f3 : frX [(87, 12), (87, 14)] [] v2 v3 := by rw [hv3]; exact (frX.i (s := v2) 87 12 (by decide)).tr (frX.i (s := (updI v2.1 87 12 0, v2.2)) 87 14 (by decide))
  have F3 : frX [(87, 5), (87, 12), (87, 14)] [89, 90, 91, 93, 94, 95, 96] u v3 := ((f1.up (by decide) (by decide)).tr (f2.up (by decide) (by decide))).tr (f3.up (by decide) (by decide))
  obtain ⟨X3, hX3⟩ : ∃ X3 : ZRS, X3 = (updN (updN (updN X.1 0 K.1) 1 0) 3 0, fun a => match a with | 0 => v3.2.1 89 | a + 1 => X.2 (a + 1)) := ⟨_, rfl⟩
  obtain ⟨⟨i1, i2, i3, i4⟩, a0, a1, a3, a4, a5, a6, a8⟩ := h
  have R3 : XRd X3 v3 := by
    rw [hX3]
    refine ⟨⟨?_, by rw [hv3]; rfl, (F3.1 87 13 (by decide)).trans i3, by rw [hv3]; rfl⟩, rfl, ?_, ?_, ?_, ?_, ?_, ?_⟩
    · show v3.1 87 5 = nI K.1
      rw [f3.1 87 5 (by decide), f2.1 87 5 (by decide)]; exact e5
    all_goals (rw [f3.2.1 _ (by decide), f2.2.1 _ (by decide), f1.2.1 _ (by decide)]; assumption)
  have E3 : EqR (zkx K) X3 := by
    rw [hX3]
    refine ⟨rfl, rfl, fun i hi => ?_⟩
    have hi : i < K.1 := hi
    show K.2 i = v3.2.1 89 i
    rw [f3.2.1 89 (by decide), e89]
    unfold va_cpy
    rw [if_pos ⟨by omega, by omega⟩, Nat.zero_add, Nat.sub_zero, f1.2.1 92 (by decide), hK.2 i hi]
  have s3 : X3.1 1 = 0 := by rw [hX3]; rfl
  have W3 : ZRW N X3 := by
    obtain ⟨w1, w2, w3, w4, -, -⟩ := hW
    obtain ⟨q0, q1, q2⟩ := E3
    have hz : ∀ i, i < K.1 → zrw X3 i = zrw (zkx K) i := fun i hi => by unfold zrw; rw [q2 i hi]
    have q0' : X3.1 0 = K.1 := q0.symm
    refine ⟨by rw [q0']; exact hd, (hz 0 (by omega)).trans w2, fun i hi => ?_, fun i hi => ?_, by rw [hX3]; exact Nat.le_refl _, by rw [s3]; omega⟩
    · rw [q0'] at hi
      rw [hz i hi, ← q2 i hi]; exact w3 i hi
    · rw [q0'] at hi
      rw [hz i (by omega), hz (i + 1) hi]; exact w4 i hi
  have hT3 : zxt G N p t 301 (3, X3) = zxt G N p t 301 (3, zkx K) := (zxt_eq hG.1 hF (Or.inl ht) 301 (3, zkx K) (3, X3) hW rfl E3).symm
  have key : ∀ n i (Z : Nat × ZRS) v, i + n = 301 → Z.1 ≤ 4 → (Z.1 = 3 → Z.2.1 1 + n = 301) → ZRW N Z.2 → zxt G N p t n Z = zxt G N p t 301 (3, zkx K) → XRd Z.2 v → frX [(87, 5), (87, 12), (87, 14)] [89, 90, 91, 93, 94, 95, 96] u v → RnQ (ZY P) mX8_isTaken (39, [some (.ref 87), some (.int (nI t)), some (.int (nI Z.1)), some (.int (nI i))], [], v) (fun x v => x = some (.int (bI (zxv G N p K t))) ∧ (∃ Y, XRd Y v) ∧ frX [(87, 5), (87, 12), (87, 14)] [89, 90, 91, 93, 94, 95, 96] u v) := by
    have fin : ∀ i (Z : Nat × ZRS) v, Z.1 ≤ 4 → Z.1 = zxt G N p t 301 (3, zkx K) → XRd Z.2 v → frX [(87, 5), (87, 12), (87, 14)] [89, 90, 91, 93, 94, 95, 96] u v → RnQ (ZY P) mX8_isTaken (63, [some (.ref 87), some (.int (nI t)), some (.int (nI Z.1)), some (.int (nI i))], [], v) (fun x v => x = some (.int (bI (zxv G N p K t))) ∧ (∃ Y, XRd Y v) ∧ frX [(87, 5), (87, 12), (87, 14)] [89, 90, 91, 93, 94, 95, 96] u v) := by
      intro i Z v h4 he hX hf
      unfold zxv
      rw [← he]
      refine RQ_n (ZY_ok P) 2 rfl trivial ?_
      by_cases y : Z.1 = 1
      · refine RQ_b rfl (fun _ => ?_) (fun z => absurd ((zq_eq (a := Z.1) (b := 1) rfl rfl (by omega) (by omega)).mpr y) z)
        refine RQ_n (ZY_ok P) 2 rfl trivial ?_
        refine RQ_to (Rn_zret rfl rfl (Or.inr rfl)) ⟨?_, ⟨_, hX⟩, hf⟩
        rw [decide_eq_true y]; rfl
      refine RQ_b rfl (fun z => absurd ((zq_eq (a := Z.1) (b := 1) rfl rfl (by omega) (by omega)).mp z) y) (fun _ => ?_)
      refine RQ_n (ZY_ok P) 2 rfl trivial ?_
      rw [decide_eq_false y, Bool.false_or]
      by_cases z : Z.1 = 4
      · refine RQ_b rfl (fun q => absurd ((zq_eq (a := Z.1) (b := 4) rfl rfl (by omega) (by omega)).mpr z) q) (fun _ => ?_)
        refine RQ_n (ZY_ok P) 2 rfl trivial ?_
        refine RQ_to (Rn_zret rfl rfl (Or.inr rfl)) ⟨?_, ⟨_, hX⟩, hf⟩
        rw [decide_eq_true z]; rfl
      refine RQ_b rfl (fun _ => ?_) (fun q => absurd ((zq_eq (a := Z.1) (b := 4) rfl rfl (by omega) (by omega)).mp (Classical.not_not.mp q)) z)
      refine RQ_n (ZY_ok P) 1 rfl trivial ?_
      refine RQ_to (Rn_zret rfl rfl (Or.inl rfl)) ⟨?_, ⟨_, hX⟩, hf⟩
      rw [decide_eq_false z]; rfl
    intro n
    induction n with
    | zero =>
      intro i Z v hin h4 hst hZW he hX hf
      have hne : Z.1 ≠ 3 := zxt_end hG.1 hF (p := p) (Or.inl ht) 0 Z hZW hst
      refine RQ_n (ZY_ok P) 2 rfl trivial ?_
      exact RQ_b rfl (fun _ => fin i Z v h4 he hX hf) (fun q => absurd ((zq_eq (a := Z.1) (b := 3) rfl rfl (by omega) (by omega)).mp (Classical.not_not.mp q)) hne)
    | succ n ih =>
      intro i Z v hin h4 hst hZW he hX hf
      refine RQ_n (ZY_ok P) 2 rfl trivial ?_
      by_cases y : Z.1 = 3
      · rw [zxt, if_pos y] at he
        refine RQ_b rfl (fun q => absurd ((zq_eq (a := Z.1) (b := 3) rfl rfl (by omega) (by omega)).mpr y) q) (fun _ => ?_)
        refine RQ_n (ZY_ok P) 2 rfl trivial ?_
        refine RQ_b rfl (fun z => ?_) (fun _ => ?_)
        · have := (zq_lt (a := 300) (b := i) rfl rfl (by omega) (by omega)).mp z
          omega
        refine RQ_n (ZY_ok P) 2 rfl trivial ?_
        refine RQ_V vX8_step (y_step (p := p) (md := 0) (hG.fr hf rfl) hF (hV.fr hf (by decide) (by decide)) (hT.fr hf (by decide)) (by rw [hf.2.2]; exact htab) ((hf.1 87 2 (by decide)).trans hmd) (by omega) hX hZW (Or.inl ht)) rfl k8_81 rfl rfl rfl (zy87 _ rfl) (fun _ s1 q => by show 3 * s1.2.2.2.2.1 + 99 = 3 * v.2.2.2.2.1 + 99; rw [q.2.2.2.2]) ?_
        rintro r5 v5 ⟨rfl, R5, f5⟩
        refine RQ_n (ZY_ok P) 3 rfl trivial ?_
        rw [show nI i + 1 = nI (i + 1) from nI_add i 1]
        obtain ⟨b1, b2⟩ := hZW.ao (p := p) (md := 0) hG.1 hF (Or.inl ht)
        exact ih (i + 1) _ v5 (by omega) zao_le (fun z => by rw [b2 (by omega)]; have := hst y; omega) b1 he R5 (hf.tr f5)
      · rw [zxt_no y] at he
        exact RQ_b rfl (fun _ => fin i Z v h4 he hX hf) (fun q => absurd ((zq_eq (a := Z.1) (b := 3) rfl rfl (by omega) (by omega)).mp (Classical.not_not.mp q)) y)
  exact key 301 0 (3, X3) v3 (by omega) (show 3 ≤ 4 by omega) (fun _ => by show X3.1 1 + 301 = 301; rw [s3]) W3 hT3 R3 F3
set_option maxHeartbeats 1000000 in
theorem y_expected (hG : ZGX G u) (hF : ZNF G N) (hV : XV G N u) (hT : XT G N p u) (htab : u.2.2.2.1 87 1 = .ref 47) (hmd : u.1 87 2 = nI 0) (h : XRd X u) (hK : XKp K u) (hW : ZRW N (zkx K)) :
    EvQ (ZY P) mX8_expected [.ref 87] u (fun x v => x = some (.int (zxb (zxv G N p K) (zgT G + 1))) ∧ frX [(87, 5), (87, 12), (87, 14)] [89, 90, 91, 93, 94, 95, 96] u v) := by
  have hb := hG.b
  refine EQ_V vX8_expected rfl ?_
  refine RQ_n (ZY_ok P) 4 rfl trivial ?_
  refine loopU (zgT G + 1) (fun i (_ : Unit) => [some (.ref 87), some (.int (zxb (zxv G N p K) i)), some (.int (nI i))]) (fun i _ w => (∃ Y, XRd Y w) ∧ frX [(87, 5), (87, 12), (87, 14)] [89, 90, 91, 93, 94, 95, 96] u w) ?_ 0 () u (by omega) ⟨⟨X, h⟩, frX.rf⟩
  intro i _ w hi hJ ih
  obtain ⟨⟨Y, g1⟩, g2⟩ := hJ
  have Gw := hG.fr g2 rfl
  refine RQ_n (ZY_ok P) 4 rfl trivial ?_
  rw [Gw.2.1.2.2]
  refine RQ_b rfl (fun z => ?_) (fun z => ?_)
  · have z := (zq_lt (a := zgT G) (b := i) rfl rfl (by omega) (by omega)).mp z
    refine RQ_n (ZY_ok P) 1 rfl trivial ?_
    have hie : i = zgT G + 1 := by omega
    refine RQ_to (Rn_iret rfl rfl) ⟨by rw [hie], g2⟩
  have z := (not_congr (zq_lt (a := zgT G) (b := i) rfl rfl (by omega) (by omega))).mp z
  refine RQ_n (ZY_ok P) 2 rfl trivial ?_
  refine RQ_V vX8_isTaken (y_isTaken (p := p) (t := i) Gw hF (hV.fr g2 (by decide) (by decide)) (hT.fr g2 (by decide)) (by rw [g2.2.2]; exact htab) ((g2.1 87 2 (by decide)).trans hmd) g1 (hK.fr g2 (by decide) (by decide)) hW (by omega)) rfl k8_133 rfl rfl rfl (zy87 _ rfl) (fun _ s1 q => by show 3 * s1.2.2.2.2.1 + 99 = 3 * w.2.2.2.2.1 + 99; rw [q.2.2.2.2]) ?_
  rintro r5 v5 ⟨rfl, R5, f5⟩
  cases e : zxv G N p K i with
  | false =>
    refine RQ_b rfl (fun _ => ?_) (fun q => absurd rfl q)
    refine RQ_n (ZY_ok P) 2 rfl trivial ?_
    refine ih (by omega) () _ _ ⟨rfl, ?_, nIs i, trivial⟩ ⟨R5, g2.tr f5⟩
    rw [zxb, e]; rfl
  | true =>
    refine RQ_b rfl (fun q => absurd (show (1 : Int32) = 0 from q) (by decide)) (fun _ => ?_)
    refine RQ_n (ZY_ok P) 8 rfl trivial ?_
    refine ih (by omega) () _ _ ⟨rfl, ?_, nIs i, trivial⟩ ⟨R5, g2.tr f5⟩
    rw [zxb, e]; rfl
set_option maxHeartbeats 1000000 in
theorem y_expects (hP : P.2.1 kd = some 36) (hP2 : P.2.2 kd = some 47) (hk : P.1 0 = nI kd) (hk3 : kd < 3) (hZ : ZAt G kd o) (h : XK P G o u) (hS : SnX m ln yy u) (hTX : TXc G nb sl u) (x1 : Int32) : EvQ (ZY P) mX11_expects [.ref 0, .int (nI kd), .int x1] u (kdQ P G o u (zvX G o (u.1 3 4) m ln yy sl x1)) := by
  refine EQ_V vX11_expects rfl ?_
  refine RQ_n (ZY_ok P) 2 rfl trivial ?_
  refine RQ_VN vX11_isThere (y_isThere hP hk hk3 hZ h) rfl k11_251 rfl rfl rfl (zy0 _ rfl) ?_ ?_
  · show (((Nat.blt 0 (3 * u.2.2.2.2.1 + 99)) && true) && true) = true
    rw [zblt (show 0 < 3 * u.2.2.2.2.1 + 99 by omega)]; rfl
  rintro r1 v1 ⟨rfl, h1, h3, h4, h5⟩
  cases o with
  | none =>
    refine RQ_b rfl (fun _ => ?_) (fun z => absurd rfl z)
    refine RQ_n (ZY_ok P) 1 rfl trivial ?_
    exact RQ_to (Rn_iret rfl rfl) ⟨rfl, h1, h5⟩
  | some A =>
  obtain ⟨w1, w2, w3, w4⟩ := h1.v hZ h3
  have hGW := h1.2.1.1.1
  refine RQ_b rfl (fun z => absurd (show (1 : Int32) = 0 from z) (by decide)) (fun _ => ?_)
  refine RQ_n (ZY_ok P) 4 rfl trivial ?_
  refine RQ_V vX11_readsSentence (y_readsSentence hP2 hk3 hZ h1 h3 (hS.k h5) (hTX.k h5) x1 0) rfl k11_344 rfl rfl rfl (zy0 _ rfl) (fun _ s1 q => by show 3 * s1.2.2.2.2.1 + 99 = 3 * v1.2.2.2.2.1 + 99; rw [q.2.2.2.2.1]) ?_
  rintro r2 v2 ⟨rfl, q1, q2, q3, q4, q5⟩
  have hf := h5.tr q3
  unfold zvX
  dsimp only
  have no : RnQ (ZY P) mX11_expects (28, [some (.ref 0), some (.int (nI kd)), some (.int x1)], [], v2) (kdQ P G (some A) u (-1)) := by
    refine RQ_n (ZY_ok P) 1 rfl trivial ?_
    exact RQ_to (Rn_iret rfl rfl) ⟨rfl, q1, hf⟩
  cases e : zrqs m x1 0 with
  | none => exact RQ_b rfl (fun _ => no) (fun z => absurd rfl z)
  | some km =>
  obtain ⟨k, md⟩ := km
  obtain ⟨w, t1, t2, t3, t4⟩ := q5 k md e
  have hmd : md = 0 := by
    unfold zrqs at e
    cases e1 : zix x1 m with
    | none => rw [e1] at e; cases e
    | some k' =>
      rw [e1, show zix 0 3 = some 0 from rfl] at e
      exact (congrArg Prod.snd (Option.some.inj e)).symm
  subst hmd
  have hT := xrt_can (ln := ln) (yy := yy) (sl := sl) hGW (p := v1.1 3 4) w2 w k 0
  have hI := (zrt_end (p := u.1 3 4) (md := 0) (len := ln k) hGW w2 (fun i _ => zsno_ok sl (zgT G) (yy k i)) 301 (3, xr0 w, (xr0 w).1 0, (xr0 w).2 0) ⟨zph0_W w2.1.1 _, (zph0_W w2.1.1 _).k, Nat.zero_le _⟩ (fun _ => rfl)).2
  rw [h4] at t1 t2 hT
  obtain ⟨E1, E2, -, E4, E5⟩ := hT
  have E6 := (zcs_ok (ln := ln) (yy := yy) (sl := sl) hGW (p := u.1 3 4) w2 k 0).1
  dsimp only
  refine RQ_b rfl (fun z => absurd (show (1 : Int32) = 0 from z) (by decide)) (fun _ => ?_)
  refine RQ_n (ZY_ok P) 3 rfl trivial ?_
  rw [t1.1, E1]
  by_cases y : (zcs G A (u.1 3 4) ln yy sl k 0).1 = 0
  · rw [if_pos y]
    refine RQ_b rfl (fun _ => ?_) (fun z => absurd (show nI (zcs G A (u.1 3 4) ln yy sl k 0).1 = 0 by rw [y]; rfl) z)
    refine RQ_n (ZY_ok P) 2 rfl trivial ?_
    obtain ⟨-, -, x3, -⟩ := q1.v hZ q2
    refine RQ_V vX8_expected (y_expected (p := u.1 3 4) q1.2.1.1 w2 x3 t2 t3 t4 t1.2.1 t1.2.2 hI.2.1) rfl k11_368 rfl rfl rfl (zy87 _ rfl) (fun _ s1 q => by show 3 * s1.2.2.2.2.1 + 99 = 3 * v2.2.2.2.2.1 + 99; rw [q.2.2.2]) ?_
    rintro r5 v5 ⟨rfl, f5⟩
    refine RQ_to (Rn_iret rfl rfl) ⟨?_, q1.fr f5 (by decide) (by decide), hf.tr (f5.k (Classical.choose_spec q1.1.2.1).1 (by decide) (by decide))⟩
    exact congrArg (fun r => some (Value.int r)) (zxb_cg _ (fun i hi => zxv_cg hGW w2 (Or.inl (by omega)) hI.2.1 E4 E5))
  · rw [if_neg y]
    refine RQ_b rfl (fun z => absurd ((zq_eq (a := (zcs G A (u.1 3 4) ln yy sl k 0).1) (b := 0) rfl rfl (by omega) (by omega)).mp z) y) (fun _ => no)
end XExp
