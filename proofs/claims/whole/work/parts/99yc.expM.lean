/-! What is expected: the reference. -/
section MExp
variable {G : ZGT} {N : ZNM} {p : Int32} {X : ZRS} {kd m t : Nat} {os : Nat → Option ZAS} {u s : SM} {K : Nat × (Nat → Int32)} {ln : Nat → Nat} {yy : Nat → Nat → Nat} {nb : Nat → Int32} {sl : Nat → Nat}
theorem RKp.fr {v : SM} {ks as : List Nat} (h : RKp K u) (f : frM ks as u v) (h1 : 71 ∉ ks) (h2 : 70 ∉ as) : RKp K v := ⟨(f.1 71 h1).trans h.1, fun i hi => by rw [f.2.1 70 h2]; exact h.2 i hi⟩
theorem RAu.fr {E : Int32} {F : Nat → Int32} {v : SM} {ks as : List Nat} (h : RAu G E F kd p N u) (f : frM ks as u v) (h2 : ∀ a ∈ [38, 39, 40, 41, 42, 43, 44], a ∉ as) : RAu G E F kd p N v := by
  unfold RAu RMn RSt mK mC at h ⊢
  rw [f.2.1 38 (h2 _ (by decide)), f.2.1 39 (h2 _ (by decide)), f.2.1 40 (h2 _ (by decide)), f.2.1 41 (h2 _ (by decide)), f.2.1 42 (h2 _ (by decide)), f.2.1 43 (h2 _ (by decide)), f.2.1 44 (h2 _ (by decide))]
  exact h
set_option maxHeartbeats 1000000 in
theorem m_doesExpect (hG : ZGM G u) (hF : ZNF G N) (hk3 : kd < 3) (hA : RAu G (zE0 G) (zF0 G) kd p N u) (h : RRd X u) (hK : RKp K u) (hW : ZRW N (zkx K)) (ht : t ≤ zgT G) :
    EvQ ZR mX12_doesExpect [.ref 0, .int (nI kd), .int (nI t)] u (fun x v => x = some (.int (bI (zxv G N p K t))) ∧ (∃ Y, RRd Y v) ∧ frM [62, 63, 64, 65] [58, 59, 60, 61, 66, 67, 68, 69] u v) := by
  have hb := hG.b
  have hd : 1 ≤ K.1 ∧ K.1 ≤ 100 := hW.1
  have h71 := hK.1
  refine EQ_V vX12_doesExpect rfl ?_
  refine RQ_n ZR_ok 6 rfl trivial ?_
  rw [h71]
  obtain ⟨v1, hv1⟩ : ∃ x : SM, x = (updS u.1 62 (nI K.1), u.2) := ⟨_, rfl⟩
  show RnQ ZR mX12_doesExpect (10, _, _, ((updS u.1 62 (nI K.1), u.2) : SM)) _
  rw [← hv1]
  have f1 : frM [62] [] u v1 := by rw [hv1]; exact frM.i 62 (by decide)
  have e62 : v1.1 62 = nI K.1 := by rw [hv1]; rfl
  refine loopU K.1 (fun i (_ : Unit) => [some (.ref 0), some (.int (nI kd)), some (.int (nI t)), some (.int (nI i))]) (fun i _ w => (∀ j, j < i → w.2.1 58 j = K.2 j) ∧ frM [] [58] v1 w) ?_ 0 () v1 (by omega) ⟨fun j hj => by omega, frM.rf⟩
  intro i _ w hi hJ ih
  obtain ⟨g1, g2⟩ := hJ
  have Fw : frM [62] [58] u w := (f1.up (by decide) (by decide)).tr (g2.up (by decide) (by decide))
  refine RQ_n ZR_ok 3 rfl trivial ?_
  rw [(Fw.1 71 (by decide)).trans h71]
  refine RQ_b rfl (fun z => ?_) (fun z => ?_)
  rotate_left
  · have z := (not_congr (zq_le (a := K.1) (b := i) rfl rfl (by omega) (by omega))).mp z
    have hin : vp_in (nI i) 101 := nI_in (by omega) (by omega)
    have hic : (nI i).toNatClampNeg = i := nI_clamp (by omega)
    refine RQ_n ZR_ok 6 rfl trivial ?_
    refine RQ_n ZR_ok 1 rfl ⟨hin, trivial⟩ ?_
    rw [hic, Fw.2.1 70 (by decide), hK.2 i (by omega)]
    refine RQ_n ZR_ok 1 rfl ⟨hin, trivial⟩ ?_
    rw [hic]
    obtain ⟨w2, hw2⟩ : ∃ x : SM, x = (w.1, updA w.2.1 58 i (K.2 i), w.2.2) := ⟨_, rfl⟩
    rw [← hw2]
    have f2 : frM [] [58] w w2 := by rw [hw2]; exact frM.a 58 (by decide)
    have h58 : w2.2.1 58 = upd (w.2.1 58) i (K.2 i) := by rw [hw2]; rfl
    refine RQ_n ZR_ok 2 rfl trivial ?_
    refine ih (by omega) () _ _ ⟨rfl, rfl, rfl, nIs i, trivial⟩ ⟨fun j hj => ?_, g2.tr f2⟩
    rw [h58]
    by_cases y : j = i
    · rw [y, upd_at]
    · rw [upd_ne y]; exact g1 j (by omega)
  have z := (zq_le (a := K.1) (b := i) rfl rfl (by omega) (by omega)).mp z
  have hie : i = K.1 := by omega
  subst hie
  clear ih
  refine RQ_n ZR_ok 8 rfl trivial ?_
  obtain ⟨v3, hv3⟩ : ∃ x : SM, x = (updS (updS w.1 63 0) 65 0, w.2) := ⟨_, rfl⟩
  show RnQ ZR mX12_doesExpect (48, _, _, ((updS (updS w.1 63 0) 65 0, w.2) : SM)) _
  rw [← hv3]
  have f3 : frM [63, 65] [] w v3 := by rw [hv3]; exact (frM.i (s := w) 63 (by decide)).tr (frM.i (s := (updS w.1 63 0, w.2)) 65 (by decide))
  have F3 : frM [62, 63, 64, 65] [58, 59, 60, 61, 66, 67, 68, 69] u v3 := (Fw.up (by decide) (by decide)).tr (f3.up (by decide) (by decide))
  obtain ⟨X3, hX3⟩ : ∃ X3 : ZRS, X3 = (updN (updN (updN X.1 0 K.1) 1 0) 3 0, fun a => match a with | 0 => v3.2.1 58 | a + 1 => X.2 (a + 1)) := ⟨_, rfl⟩
  obtain ⟨⟨i1, i2, i3, i4⟩, a0, a1, a2, a3, a4, a5, a7, a8⟩ := h
  have R3 : RRd X3 v3 := by
    rw [hX3]
    refine ⟨⟨?_, by rw [hv3]; rfl, ((f3.1 64 (by decide)).trans (Fw.1 64 (by decide))).trans i3, by rw [hv3]; rfl⟩, rfl, ?_, ?_, ?_, ?_, ?_, ?_, ?_⟩
    · show v3.1 62 = nI K.1
      rw [f3.1 62 (by decide), g2.1 62 (by decide)]; exact e62
    all_goals (rw [f3.2.1 _ (by decide), Fw.2.1 _ (by decide)]; assumption)
  have E3 : EqR (zkx K) X3 := by
    rw [hX3]
    refine ⟨rfl, rfl, fun i hi => ?_⟩
    have hi : i < K.1 := hi
    show K.2 i = v3.2.1 58 i
    rw [f3.2.1 58 (by decide), g1 i hi]
  have s3 : X3.1 1 = 0 := by rw [hX3]; rfl
  have W3 : ZRW N X3 := by
    obtain ⟨w1, w2, w3, w4, -, -⟩ := hW
    obtain ⟨q0, q1, q2⟩ := E3
    have hz : ∀ i, i < K.1 → zrw X3 i = zrw (zkx K) i := fun i hi => by unfold zrw; rw [q2 i hi]
    have q0' : X3.1 0 = K.1 := q0.symm
    refine ⟨by rw [q0']; exact hd, (hz 0 (by omega)).trans w2, fun i hi => ?_, fun i hi => ?_, by rw [hX3]; exact Nat.le_refl _, by rw [s3]; omega⟩
    · rw [q0'] at hi
      rw [hz i hi, ← q2 i hi]; exact w3 i hi
    · rw [q0'] at hi
      rw [hz i (by omega), hz (i + 1) hi]; exact w4 i hi
  have hT3 : zxt G N p t 301 (3, X3) = zxt G N p t 301 (3, zkx K) := (zxt_eq hG.1 hF (Or.inl ht) 301 (3, zkx K) (3, X3) hW rfl E3).symm
  have key : ∀ n (Z : Nat × ZRS) v, Z.1 ≤ 4 → (Z.1 = 3 → Z.2.1 1 + n = 301) → (Z.1 = 3 → ZRW N Z.2) → zxt G N p t n Z = zxt G N p t 301 (3, zkx K) → RRd Z.2 v → frM [62, 63, 64, 65] [58, 59, 60, 61, 66, 67, 68, 69] u v → RnQ ZR mX12_doesExpect (48, [some (.ref 0), some (.int (nI kd)), some (.int (nI t)), some (.int (nI Z.1))], [], v) (fun x v => x = some (.int (bI (zxv G N p K t))) ∧ (∃ Y, RRd Y v) ∧ frM [62, 63, 64, 65] [58, 59, 60, 61, 66, 67, 68, 69] u v) := by
    have fin : ∀ (Z : Nat × ZRS) v, Z.1 ≤ 4 → Z.1 = zxt G N p t 301 (3, zkx K) → RRd Z.2 v → frM [62, 63, 64, 65] [58, 59, 60, 61, 66, 67, 68, 69] u v → RnQ ZR mX12_doesExpect (64, [some (.ref 0), some (.int (nI kd)), some (.int (nI t)), some (.int (nI Z.1))], [], v) (fun x v => x = some (.int (bI (zxv G N p K t))) ∧ (∃ Y, RRd Y v) ∧ frM [62, 63, 64, 65] [58, 59, 60, 61, 66, 67, 68, 69] u v) := by
      intro Z v h4 he hX hf
      unfold zxv
      rw [← he]
      refine RQ_n ZR_ok 2 rfl trivial ?_
      by_cases y : Z.1 = 4
      · refine RQ_b rfl (fun _ => ?_) (fun z => absurd ((zq_eq (a := Z.1) (b := 4) rfl rfl (by omega) (by omega)).mpr y) z)
        refine RQ_n ZR_ok 2 rfl trivial ?_
        refine RQ_to (Rn_zret rfl rfl (Or.inr rfl)) ⟨?_, ⟨_, hX⟩, hf⟩
        rw [decide_eq_true y, Bool.or_true]; rfl
      refine RQ_b rfl (fun z => absurd ((zq_eq (a := Z.1) (b := 4) rfl rfl (by omega) (by omega)).mp z) y) (fun _ => ?_)
      refine RQ_n ZR_ok 2 rfl trivial ?_
      rw [decide_eq_false y, Bool.or_false]
      by_cases z : Z.1 = 1
      · refine RQ_b rfl (fun q => absurd ((zq_eq (a := Z.1) (b := 1) rfl rfl (by omega) (by omega)).mpr z) q) (fun _ => ?_)
        refine RQ_n ZR_ok 2 rfl trivial ?_
        refine RQ_to (Rn_zret rfl rfl (Or.inr rfl)) ⟨?_, ⟨_, hX⟩, hf⟩
        rw [decide_eq_true z]; rfl
      refine RQ_b rfl (fun _ => ?_) (fun q => absurd ((zq_eq (a := Z.1) (b := 1) rfl rfl (by omega) (by omega)).mp (Classical.not_not.mp q)) z)
      refine RQ_n ZR_ok 1 rfl trivial ?_
      refine RQ_to (Rn_zret rfl rfl (Or.inl rfl)) ⟨?_, ⟨_, hX⟩, hf⟩
      rw [decide_eq_false z]; rfl
    intro n
    induction n with
    | zero =>
      intro Z v h4 hst hZW he hX hf
      have hne : Z.1 ≠ 3 := fun y => zxt_end hG.1 hF (p := p) (Or.inl ht) 0 Z (hZW y) hst y
      refine RQ_n ZR_ok 2 rfl trivial ?_
      exact RQ_b rfl (fun _ => fin Z v h4 he hX hf) (fun q => absurd ((zq_eq (a := Z.1) (b := 3) rfl rfl (by omega) (by omega)).mp (Classical.not_not.mp q)) hne)
    | succ n ih =>
      intro Z v h4 hst hZW he hX hf
      refine RQ_n ZR_ok 2 rfl trivial ?_
      by_cases y : Z.1 = 3
      · rw [zxt, if_pos y] at he
        refine RQ_b rfl (fun q => absurd ((zq_eq (a := Z.1) (b := 3) rfl rfl (by omega) (by omega)).mpr y) q) (fun _ => ?_)
        refine RQ_n ZR_ok 4 rfl trivial ?_
        refine RQ_V vX12_actOnce (m_actOnce (p := p) (md := 0) (hG.fr hf rfl) hF hk3 (hA.fr hf (by decide)) (by omega) hX (hZW y) (Or.inl ht)) rfl k12_494 rfl rfl rfl rfl (fun _ _ _ => rfl) (fun r5 v5 h5 => ?_)
        obtain ⟨rfl, R5, f5⟩ := h5
        refine RQ_n ZR_ok 2 rfl trivial ?_
        obtain ⟨b1, b2⟩ := (hZW y).ao (p := p) (md := 0) hG.1 hF (Or.inl ht)
        rw [← zr1_1 (zao G N p 0 t Z.2)]
        refine ih (zr1 (zao G N p 0 t Z.2)) v5 (by rw [zr1_1]; exact zao_le) (fun z => ?_) (fun z => ?_) ?_ R5 (hf.tr f5)
        · rw [zr1_1] at z
          rw [b1.r1.2, b2 (by omega)]; have := hst y; omega
        · exact b1.r1.1
        · rw [← he]
          by_cases z : (zao G N p 0 t Z.2).1 = 4
          · rw [zxt_no (by rw [zr1_1]; omega), zxt_no (by omega), zr1_1]
          · rw [show zr1 (zao G N p 0 t Z.2) = zao G N p 0 t Z.2 by unfold zr1; rw [if_neg z]]
      · rw [zxt_no y] at he
        exact RQ_b rfl (fun _ => fin Z v h4 he hX hf) (fun q => absurd ((zq_eq (a := Z.1) (b := 3) rfl rfl (by omega) (by omega)).mp (Classical.not_not.mp q)) y)
  exact key 301 (3, X3) v3 (show 3 ≤ 4 by omega) (fun _ => by show X3.1 1 + 301 = 301; rw [s3]) (fun _ => W3) hT3 R3 F3
/-- a sentence is laid and read; what was kept -/
theorem m_layKeep {A : ZAS} {md : Nat} (hk3 : kd < 3) (hZ : ∀ kd, kd < 3 → ZAt G kd (os kd)) (h : RGr G os s) (h30 : s.2.1 30 kd = 1) (ho : os kd = some A) (hS : SnM m ln yy s) (hT : TMc G nb sl s) {k : Nat} (hk : k < m) (hmd : md < 3) :
    EvQ ZR mX12_laySentence [.ref 0, .int (nI k)] s (fun x v => x = none ∧ RGr G os v ∧ frR s v ∧ EvQ ZR mX12_readAll [.ref 0, .int (nI kd), .int (nI md)] v (fun x w => x = some (.int (nI (zcs G A (s.1 24) ln yy sl k md).1)) ∧ RGr G os w ∧ frR s w ∧ (∃ Y, RRd Y w) ∧ RKp (zcs G A (s.1 24) ln yy sl k md).2.2 w ∧ RAu G (zE0 G) (zF0 G) kd (s.1 24) (zN A) w ∧ ZNF G (zN A) ∧ w.2.1 30 kd = 1)) := by
  refine EQ_mono (m_laySentence h.1 hS hT hk) (fun x v hq => ?_)
  obtain ⟨rfl, q1, q2, q3⟩ := hq
  have g1 : RGr G os v := h.fr q3 (by decide) (by decide)
  have g2 : frR s v := q3.up (by decide) (by decide)
  have s2 := (hS.2.2 k hk).2.1
  obtain ⟨b1, b2⟩ := g1.a hk3 (by rw [q3.2.1 30 (by decide)]; exact h30) ho
  have hF := zN_F (ZAt_all h.1.1 b2 (ho ▸ hZ kd hk3)) (show ZAt G kd (some A) from ho ▸ hZ kd hk3).2
  rw [q3.1 24 (by decide)] at b1
  refine ⟨rfl, g1, g2, EQ_mono (m_readAll (len := ln k) (inp := fun i => zsno sl (zgT G) (yy k i)) g1.1 hF hk3 b1 hmd q1 (by omega) q2 (fun i _ => zsno_ok sl (zgT G) (yy k i))) (fun x w hw => ?_)⟩
  obtain ⟨rfl, r1, r2, r3⟩ := hw
  obtain ⟨a1, -, -, a4, a5⟩ := xr_rr (p := s.1 24) (md := md) h.1.1 hF (fun i _ => zsno_ok sl (zgT G) (yy k i)) sX0 v (len := ln k)
  obtain ⟨c1, -, -, c4, c5⟩ := xrt_can (ln := ln) (yy := yy) (sl := sl) h.1.1 (p := s.1 24) hF sX0 k md
  refine ⟨by rw [← a1, c1], g1.fr r3 (by decide) (by decide), g2.tr (r3.up (by decide) (by decide)), ⟨_, r1⟩, ⟨r2.1.trans (congrArg nI (a4.symm.trans c4)), fun i hi => ?_⟩, b1.fr r3 (by decide), hF, by rw [r3.2.1 30 (by decide), q3.2.1 30 (by decide)]; exact h30⟩
  rw [← c4] at hi
  rw [r2.2 i (by rw [← a4]; exact hi), ← a5 i hi, c5 i hi]
set_option maxHeartbeats 1000000 in
theorem m_expects (hk3 : kd < 3) (hZ : ∀ kd, kd < 3 → ZAt G kd (os kd)) (h : RGr G os s) (hS : SnM m ln yy s) (hT : TMc G nb sl s) (x1 : Int32) : EvQ ZR mX12_expects [.ref 0, .int (nI kd), .int x1] s (rfQ G os s (zvX G (os kd) (s.1 24) m ln yy sl x1)) := by
  refine EQ_V vX12_expects rfl ?_
  refine RQ_n ZR_ok 3 rfl trivial ?_
  refine RQ_V vX12_canRead (m_canRead hk3 hZ h hS x1) rfl k12_497 rfl rfl rfl rfl (fun _ _ _ => rfl) (fun r1 v h1 => ?_)
  obtain ⟨rfl, a1, a2, a3⟩ := h1
  have no : ∀ l3 l4 : Option Value, zvX G (os kd) (s.1 24) m ln yy sl x1 = -1 → RnQ ZR mX12_expects (9, [some (.ref 0), some (.int (nI kd)), some (.int x1), l3, l4], [], v) (rfQ G os s (zvX G (os kd) (s.1 24) m ln yy sl x1)) := by
    intro l3 l4 e
    refine RQ_n ZR_ok 1 rfl trivial ?_
    exact RQ_to (Rn_iret rfl rfl) ⟨by rw [e], a1, a3⟩
  cases ho : os kd with
  | none =>
    rw [ho] at no
    exact RQ_b rfl (fun z => absurd rfl z) (fun _ => no _ _ rfl)
  | some A =>
  rw [ho] at no
  cases e1 : zix x1 m with
  | none =>
    refine RQ_b rfl (fun z => absurd rfl z) (fun _ => no _ _ ?_)
    unfold zvX zrqs; dsimp only; rw [e1]
  | some k =>
  obtain ⟨k1, k2⟩ := zix_s e1
  refine RQ_b rfl (fun _ => ?_) (fun z => absurd (Classical.not_not.mp z) (show ¬ (1 : Int32) = 0 by decide))
  have hv : zvX G (some A) (s.1 24) m ln yy sl x1 = if (zcs G A (s.1 24) ln yy sl k 0).1 = 0 then zxb (zxv G (zN A) (s.1 24) (zcs G A (s.1 24) ln yy sl k 0).2.2) (zgT G + 1) else -1 := by
    unfold zvX; dsimp only; rw [zrqs_e (x2 := 0) (md := 0) e1 rfl]
  clear no
  rw [hv]
  clear hv
  subst k2
  have e24 : v.1 24 = s.1 24 := a3.1 24 (by decide)
  refine RQ_n ZR_ok 2 rfl trivial ?_
  refine RQ_V vX12_laySentence (m_layKeep (md := 0) hk3 hZ a1 a2 ho (hS.r a3) (hT.r a3) k1 (by omega)) rfl k12_500 rfl rfl rfl rfl (fun _ _ _ => rfl) (fun r2 v2 h2 => ?_)
  obtain ⟨rfl, b1, b2, b3⟩ := h2
  rw [e24] at b3
  refine RQ_n ZR_ok 3 rfl trivial ?_
  refine RQ_V vX12_readAll b3 rfl k12_503 rfl rfl rfl rfl (fun _ _ _ => rfl) (fun r4 v4 h4 => ?_)
  obtain ⟨rfl, c1, c2, ⟨Y, c3⟩, c4, c5, c6, -⟩ := h4
  have F4 : frR s v4 := a3.tr c2
  have hb := c1.1.b
  obtain ⟨E6, hI⟩ := zcs_ok (ln := ln) (yy := yy) (sl := sl) c1.1.1 (p := s.1 24) c6 k 0
  by_cases y : (zcs G A (s.1 24) ln yy sl k 0).1 = 0
  rotate_left
  · rw [if_neg y]
    refine RQ_b rfl (fun z => absurd ((zq_eq (a := (zcs G A (s.1 24) ln yy sl k 0).1) (b := 0) rfl rfl (by omega) (by omega)).mp z) y) (fun _ => ?_)
    refine RQ_n ZR_ok 1 rfl trivial ?_
    exact RQ_to (Rn_iret rfl rfl) ⟨rfl, c1, F4⟩
  rw [if_pos y]
  refine RQ_b rfl (fun _ => ?_) (fun z => absurd (show nI (zcs G A (s.1 24) ln yy sl k 0).1 = 0 by rw [y]; rfl) z)
  refine RQ_n ZR_ok 4 rfl trivial ?_
  obtain ⟨K, hKe⟩ : ∃ K, K = (zcs G A (s.1 24) ln yy sl k 0).2.2 := ⟨_, rfl⟩
  rw [← hKe] at c4 ⊢
  have hW : ZRW (zN A) (zkx K) := by rw [hKe]; exact hI.2.1
  refine loopU (zgT G + 1) (fun i (_ : Unit) => [some (.ref 0), some (.int (nI kd)), some (.int (nI k)), some (.int (zxb (zxv G (zN A) (s.1 24) K) i)), some (.int (nI i))]) (fun i _ w => (∃ Y, RRd Y w) ∧ frM [62, 63, 64, 65] [58, 59, 60, 61, 66, 67, 68, 69] v4 w) ?_ 0 () v4 (by omega) ⟨⟨Y, c3⟩, frM.rf⟩
  intro i _ w hi hJ ih
  obtain ⟨⟨Y, g1⟩, g2⟩ := hJ
  have Gw := c1.1.fr g2 rfl
  refine RQ_n ZR_ok 3 rfl trivial ?_
  rw [Gw.2.1.2.2]
  refine RQ_b rfl (fun z => ?_) (fun z => ?_)
  · have z := (zq_lt (a := zgT G) (b := i) rfl rfl (by omega) (by omega)).mp z
    refine RQ_n ZR_ok 1 rfl trivial ?_
    have hie : i = zgT G + 1 := by omega
    refine RQ_to (Rn_iret rfl rfl) ⟨by rw [hie], c1.fr g2 (by decide) (by decide), F4.tr (g2.up (by decide) (by decide))⟩
  have z := (not_congr (zq_lt (a := zgT G) (b := i) rfl rfl (by omega) (by omega))).mp z
  refine RQ_n ZR_ok 4 rfl trivial ?_
  refine RQ_V vX12_doesExpect (m_doesExpect (p := s.1 24) (t := i) Gw c6 hk3 (c5.fr g2 (by decide)) g1 (c4.fr g2 (by decide) (by decide)) hW (by omega)) rfl k12_506 rfl rfl rfl rfl (fun _ _ _ => rfl) (fun r5 v5 h5 => ?_)
  obtain ⟨rfl, R5, f5⟩ := h5
  cases e : zxv G (zN A) (s.1 24) K i with
  | false =>
    refine RQ_b rfl (fun _ => ?_) (fun q => absurd rfl q)
    refine RQ_n ZR_ok 5 rfl trivial ?_
    refine ih (by omega) () _ _ ⟨rfl, rfl, rfl, ?_, nIs i, trivial⟩ ⟨R5, g2.tr f5⟩
    rw [zxb, e, Int32.or_zero]; rfl
  | true =>
    refine RQ_b rfl (fun q => absurd (show (1 : Int32) = 0 from q) (by decide)) (fun _ => ?_)
    refine RQ_n ZR_ok 8 rfl trivial ?_
    refine ih (by omega) () _ _ ⟨rfl, rfl, rfl, ?_, nIs i, trivial⟩ ⟨R5, g2.tr f5⟩
    rw [zxb, e]; rfl
end MExp
