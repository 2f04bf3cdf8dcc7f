/-! reads, reduced, tree: the reference. -/
theorem fnd_cgr {B C : Nat → Int32} {x : Int32} : ∀ c, (∀ k, k < c → B k = C k) → fnd B x c = fnd C x c
  | 0, _ => rfl
  | c + 1, h => by
    have ih := fnd_cgr (x := x) c (fun k hk => h k (by omega))
    unfold fnd
    rw [ih, h c (by omega)]
section MReads
variable {G : ZGT} {kd m : Nat} {os : Nat → Option ZAS} {s : SM} {ln : Nat → Nat} {yy : Nat → Nat → Nat} {nb : Nat → Int32} {sl : Nat → Nat}
theorem SnM.r {v : SM} (h : SnM m ln yy s) (f : frR s v) : SnM m ln yy v := by
  unfold SnM at h ⊢
  rw [f.1 14 (by decide), f.2.1 12 (by decide), f.2.1 13 (by decide)]
  exact h
theorem TMc.r {v : SM} (h : TMc G nb sl s) (f : frR s v) : TMc G nb sl v := by
  unfold TMc at h ⊢
  rw [f.2.1 21 (by decide), f.2.1 22 (by decide)]
  exact h
theorem m_laySentence (hG : ZGM G s) (hS : SnM m ln yy s) (hT : TMc G nb sl s) {k : Nat} (hk : k < m) : EvQ ZR mX12_laySentence [.ref 0, .int (nI k)] s (fun x v => x = none ∧ v.1 57 = nI (ln k) ∧ (∀ i, i < ln k → v.2.1 56 i = nI (zsno sl (zgT G) (yy k i))) ∧ frM [57] [56] s v) := by
  have hb := hG.b
  have h4 := hS.2.1
  obtain ⟨s1, s2, s3⟩ := hS.2.2 k hk
  refine EQ_V vX12_laySentence rfl ?_
  refine RQ_n ZR_ok 4 rfl trivial ?_
  refine RQ_n ZR_ok 1 rfl ⟨nI_in (by omega) (by omega), trivial⟩ ?_
  rw [nI_clamp (show k < 2 ^ 31 by omega), s1]
  refine RQ_n ZR_ok 3 rfl trivial ?_
  obtain ⟨v1, hv1⟩ : ∃ x : SM, x = (updS s.1 57 (nI (ln k)), s.2) := ⟨_, rfl⟩
  show RnQ ZR mX12_laySentence (12, _, _, ((updS s.1 57 (nI (ln k)), s.2) : SM)) _
  rw [← hv1]
  have f1 : frM [57] [56] s v1 := by rw [hv1]; exact frM.i 57 (by decide)
  have e57 : v1.1 57 = nI (ln k) := by rw [hv1]; rfl
  refine loopU (ln k) (fun i (_ : Unit) => [some (.ref 0), some (.int (nI k)), some (.int (nI i))]) (fun i _ w => w.1 57 = nI (ln k) ∧ (∀ j, j < i → w.2.1 56 j = nI (zsno sl (zgT G) (yy k j))) ∧ frM [57] [56] s w) ?_ 0 () v1 (by omega) ⟨e57, fun j hj => by omega, f1⟩
  intro i _ w hi hJ ih
  obtain ⟨g1, g2, g3⟩ := hJ
  refine RQ_n ZR_ok 3 rfl trivial ?_
  rw [g1]
  refine RQ_b rfl (fun z => ?_) (fun z => ?_)
  · have z := (zq_le (a := ln k) (b := i) rfl rfl (by omega) (by omega)).mp z
    have hie : i = ln k := by omega
    subst hie
    exact RQ_to (Rn_vret rfl rfl) ⟨rfl, g1, g2, g3⟩
  have z := (not_congr (zq_le (a := ln k) (b := i) rfl rfl (by omega) (by omega))).mp z
  obtain ⟨t1, t2⟩ := s3 i (by omega)
  refine RQ_n ZR_ok 11 rfl trivial ?_
  rw [show (24 : Int32) * nI k + nI i = nI (24 * k + i) by rw [show (24 : Int32) = nI 24 from rfl, nI_mul, nI_add]]
  refine RQ_n ZR_ok 1 rfl ⟨nI_in (by omega) (by omega), trivial⟩ ?_
  rw [nI_clamp (show 24 * k + i < 2 ^ 31 by omega), g3.2.1 12 (by decide), t1]
  have hso := m_signOf w (zgT G) (nI (97 + yy k i)) ((g3.1 17 (by decide)).trans hG.2.1.2.2) (by omega)
  rw [fnd_cgr (C := fun k => nI (97 + sl k)) (zgT G) (fun j hj => by rw [g3.2.1 22 (by decide)]; exact hT.2 j hj)] at hso
  rw [show sI (fnd (fun k => nI (97 + sl k)) (nI (97 + yy k i)) (zgT G)) = nI (zsno sl (zgT G) (yy k i)) from zsno_g sl (zgT G) (yy k i)] at hso
  refine RQ_v vX12_signOf hso rfl k12_241 rfl rfl rfl rfl rfl ?_
  refine RQ_n ZR_ok 1 rfl ⟨nI_in (by omega) (by omega), trivial⟩ ?_
  rw [nI_clamp (show i < 2 ^ 31 by omega)]
  obtain ⟨w2, hw2⟩ : ∃ x : SM, x = (w.1, updA w.2.1 56 i (nI (zsno sl (zgT G) (yy k i))), w.2.2) := ⟨_, rfl⟩
  rw [← hw2]
  have f2 : frM [57] [56] w w2 := by rw [hw2]; exact frM.a 56 (by decide)
  have h56 : w2.2.1 56 = upd (w.2.1 56) i (nI (zsno sl (zgT G) (yy k i))) := by rw [hw2]; rfl
  refine RQ_n ZR_ok 2 rfl trivial ?_
  refine ih (by omega) () _ _ ⟨rfl, rfl, nIs i, trivial⟩ ⟨by rw [hw2]; exact g1, fun j hj => ?_, g3.tr f2⟩
  rw [h56]
  by_cases y : j = i
  · rw [y, upd_at]
  · rw [upd_ne y]; exact g2 j (by omega)
theorem m_canRead (hk3 : kd < 3) (hZ : ∀ kd, kd < 3 → ZAt G kd (os kd)) (h : RGr G os s) (hS : SnM m ln yy s) (x : Int32) : EvQ ZR mX12_canRead [.ref 0, .int (nI kd), .int x] s (fun y v => y = some (.int (bI ((os kd).isSome && (zix x m).isSome))) ∧ RGr G os v ∧ v.2.1 30 kd = 1 ∧ frR s v) := by
  have h4 := hS.2.1
  refine EQ_V vX12_canRead rfl ?_
  refine RQ_n ZR_ok 2 rfl trivial ?_
  refine RQ_V vX12_isThere (m_isThere hk3 hZ h) rfl k12_424 rfl rfl rfl rfl (fun _ _ _ => rfl) (fun r1 v h1 => ?_)
  obtain ⟨rfl, a1, a2, a3⟩ := h1
  have a3 := frR.th a3
  cases (os kd).isSome with
  | false =>
    refine RQ_b rfl (fun _ => ?_) (fun z => absurd rfl z)
    refine RQ_n ZR_ok 1 rfl trivial ?_
    exact RQ_to (Rn_zret rfl rfl (Or.inl rfl)) ⟨rfl, a1, a2, a3⟩
  | true =>
    refine RQ_b rfl (fun z => absurd (show (1 : Int32) = 0 from z) (by decide)) (fun _ => ?_)
    refine RQ_n ZR_ok 6 rfl trivial ?_
    rw [(hS.r a3).1]
    refine RQ_s vX12_in (e_in v x 0 (nI m - 1)) rfl k12_170 rfl rfl rfl rfl ?_
    rw [zix_in (by omega), Bool.true_and]
    cases (zix x m).isSome with
    | false =>
      refine RQ_b rfl (fun _ => ?_) (fun z => absurd rfl z)
      refine RQ_n ZR_ok 1 rfl trivial ?_
      exact RQ_to (Rn_zret rfl rfl (Or.inl rfl)) ⟨rfl, a1, a2, a3⟩
    | true =>
      refine RQ_b rfl (fun z => absurd (show (1 : Int32) = 0 from z) (by decide)) (fun _ => ?_)
      refine RQ_n ZR_ok 2 rfl trivial ?_
      exact RQ_to (Rn_zret rfl rfl (Or.inr rfl)) ⟨rfl, a1, a2, a3⟩
/-- two runs of the reference -/
theorem rrt_can (hG : GW G) {A : ZAS} {p : Int32} (hF : ZNF G (zN A)) (t : SM) (k md : Nat) : (rrt G (zN A) p md (ln k) (fun i => zsno sl (zgT G) (yy k i)) t).1 = (zcs G A p ln yy sl k md).1 ∧ (∀ c, c < 4 → (rrt G (zN A) p md (ln k) (fun i => zsno sl (zgT G) (yy k i)) t).2.1.1 c = (zcs G A p ln yy sl k md).2.1.1 c) ∧ (∀ i, i < (zcs G A p ln yy sl k md).2.1.1 3 → (rrt G (zN A) p md (ln k) (fun i => zsno sl (zgT G) (yy k i)) t).2.1.2 4 i = (zcs G A p ln yy sl k md).2.1.2 4 i ∧ (rrt G (zN A) p md (ln k) (fun i => zsno sl (zgT G) (yy k i)) t).2.1.2 5 i = (zcs G A p ln yy sl k md).2.1.2 5 i ∧ (rrt G (zN A) p md (ln k) (fun i => zsno sl (zgT G) (yy k i)) t).2.1.2 7 i = (zcs G A p ln yy sl k md).2.1.2 7 i ∧ (rrt G (zN A) p md (ln k) (fun i => zsno sl (zgT G) (yy k i)) t).2.1.2 8 i = (zcs G A p ln yy sl k md).2.1.2 8 i) := by
  obtain ⟨a1, a2, -⟩ := xr_rr (p := p) (md := md) hG hF (fun i _ => zsno_ok sl (zgT G) (yy k i)) sX0 t (len := ln k)
  obtain ⟨b1, b2, -⟩ := xrt_can (ln := ln) (yy := yy) (sl := sl) hG (p := p) hF sX0 k md
  refine ⟨a1.symm.trans b1, fun c hc => (a2.1 c hc).symm.trans (b2.1 c hc), fun i hi => ?_⟩
  obtain ⟨c4, c5, c6, c8⟩ := a2.2.2.2 i (by rw [b2.1 3 (by omega)]; exact hi)
  obtain ⟨d4, d5, d6, d8⟩ := b2.2.2.2 i (by rw [b2.1 3 (by omega)]; exact hi)
  exact ⟨c4.symm.trans d4, c5.symm.trans d5, c6.symm.trans d6, c8.symm.trans d8⟩
/-- a sentence is laid and read -/
theorem m_layRead {A : ZAS} {md : Nat} (hk3 : kd < 3) (hZ : ∀ kd, kd < 3 → ZAt G kd (os kd)) (h : RGr G os s) (h30 : s.2.1 30 kd = 1) (ho : os kd = some A) (hS : SnM m ln yy s) (hT : TMc G nb sl s) {k : Nat} (hk : k < m) (hmd : md < 3) :
    EvQ ZR mX12_laySentence [.ref 0, .int (nI k)] s (fun x v => x = none ∧ RGr G os v ∧ frR s v ∧ EvQ ZR mX12_readAll [.ref 0, .int (nI kd), .int (nI md)] v (fun x w => x = some (.int (nI (zcs G A (s.1 24) ln yy sl k md).1)) ∧ RGr G os w ∧ frR s w ∧ (w.1 63 = nI ((zcs G A (s.1 24) ln yy sl k md).2.1.1 1) ∧ w.1 64 = nI ((zcs G A (s.1 24) ln yy sl k md).2.1.1 2) ∧ w.1 65 = nI ((zcs G A (s.1 24) ln yy sl k md).2.1.1 3)) ∧ (zcs G A (s.1 24) ln yy sl k md).2.1.1 3 ≤ 300 ∧ ∀ i, i < (zcs G A (s.1 24) ln yy sl k md).2.1.1 3 → w.2.1 66 i = (zcs G A (s.1 24) ln yy sl k md).2.1.2 4 i ∧ w.2.1 67 i = (zcs G A (s.1 24) ln yy sl k md).2.1.2 5 i ∧ w.2.1 68 i = (zcs G A (s.1 24) ln yy sl k md).2.1.2 7 i ∧ w.2.1 69 i = (zcs G A (s.1 24) ln yy sl k md).2.1.2 8 i)) := by
  refine EQ_mono (m_laySentence h.1 hS hT hk) (fun x v hq => ?_)
  obtain ⟨rfl, q1, q2, q3⟩ := hq
  have g1 : RGr G os v := h.fr q3 (by decide) (by decide)
  have g2 : frR s v := q3.up (by decide) (by decide)
  have s2 := (hS.2.2 k hk).2.1
  obtain ⟨b1, b2⟩ := g1.a hk3 (by rw [q3.2.1 30 (by decide)]; exact h30) ho
  have hF := zN_F (ZAt_all h.1.1 b2 (ho ▸ hZ kd hk3)) (show ZAt G kd (some A) from ho ▸ hZ kd hk3).2
  rw [q3.1 24 (by decide)] at b1
  refine ⟨rfl, g1, g2, EQ_mono (m_readAll (len := ln k) (inp := fun i => zsno sl (zgT G) (yy k i)) g1.1 hF hk3 b1 hmd q1 (by omega) q2 (fun i _ => zsno_ok sl (zgT G) (yy k i))) (fun x w hw => ?_)⟩
  obtain ⟨rfl, r1, r2, r3⟩ := hw
  obtain ⟨c1, c2, c3⟩ := rrt_can (ln := ln) (yy := yy) (sl := sl) h.1.1 (p := s.1 24) hF v k md
  have hZI := (zcs_ok (ln := ln) (yy := yy) (sl := sl) h.1.1 (p := s.1 24) hF k md).2
  refine ⟨by rw [c1], g1.fr r3 (by decide) (by decide), g2.tr (r3.up (by decide) (by decide)), ⟨by rw [r1.1.2.1, c2 1 (by omega)], by rw [r1.1.2.2.1, c2 2 (by omega)], by rw [r1.1.2.2.2, c2 3 (by omega)]⟩, Nat.le_trans hZI.1.2.2.2.2.1 hZI.1.2.2.2.2.2, fun i hi => ?_⟩
  obtain ⟨d4, d5, d6, d8⟩ := c3 i hi
  obtain ⟨-, -, -, -, -, e4, e5, e7, e8⟩ := r1
  rw [e4, e5, e7, e8]
  exact ⟨d4, d5, d6, d8⟩
theorem zrqs_e {x1 x2 : Int32} {k md : Nat} (h1 : zix x1 m = some k) (h2 : zix x2 3 = some md) : zrqs m x1 x2 = some (k, md) := by unfold zrqs; rw [h1, h2]
set_option maxHeartbeats 1000000 in
theorem m_reads (hk3 : kd < 3) (hZ : ∀ kd, kd < 3 → ZAt G kd (os kd)) (h : RGr G os s) (hS : SnM m ln yy s) (hT : TMc G nb sl s) (x1 x2 x3 : Int32) : EvQ ZR mX12_reads [.ref 0, .int (nI kd), .int x1, .int x2, .int x3] s (rfQ G os s (zvR G (os kd) (s.1 24) m ln yy sl x1 x2 x3)) := by
  refine EQ_V vX12_reads rfl ?_
  refine RQ_n ZR_ok 3 rfl trivial ?_
  refine RQ_V vX12_canRead (m_canRead hk3 hZ h hS x1) rfl k12_497 rfl rfl rfl rfl (fun _ _ _ => rfl) (fun r1 v h1 => ?_)
  obtain ⟨rfl, a1, a2, a3⟩ := h1
  have no : ∀ l5 : Option Value, zvR G (os kd) (s.1 24) m ln yy sl x1 x2 x3 = -1 → RnQ ZR mX12_reads (28, [some (.ref 0), some (.int (nI kd)), some (.int x1), some (.int x2), some (.int x3), l5], [], v) (rfQ G os s (zvR G (os kd) (s.1 24) m ln yy sl x1 x2 x3)) := by
    intro l5 e
    refine RQ_n ZR_ok 1 rfl trivial ?_
    exact RQ_to (Rn_iret rfl rfl) ⟨by rw [e], a1, a3⟩
  cases ho : os kd with
  | none =>
    rw [ho] at no
    exact RQ_b rfl (fun _ => no _ rfl) (fun z => absurd rfl z)
  | some A =>
  rw [ho] at no
  cases e1 : zix x1 m with
  | none =>
    refine RQ_b rfl (fun _ => no _ ?_) (fun z => absurd rfl z)
    unfold zvR zrqs; dsimp only; rw [e1]
  | some k =>
  obtain ⟨k1, k2⟩ := zix_s e1
  refine RQ_b rfl (fun z => absurd (show (1 : Int32) = 0 from z) (by decide)) (fun _ => ?_)
  refine RQ_n ZR_ok 3 rfl trivial ?_
  refine RQ_s vX12_in (e_in v x2 0 2) rfl k12_170 rfl rfl rfl rfl ?_
  rw [show inB x2 0 2 = (zix x2 3).isSome from zix_in1 (n := 2) (by omega)]
  cases e2 : zix x2 3 with
  | none =>
    refine RQ_b rfl (fun _ => no _ ?_) (fun z => absurd rfl z)
    unfold zvR zrqs; dsimp only; rw [e1]; dsimp only; rw [e2]
  | some md =>
  obtain ⟨m1, m2⟩ := zix_s e2
  refine RQ_b rfl (fun z => absurd (show (1 : Int32) = 0 from z) (by decide)) (fun _ => ?_)
  refine RQ_n ZR_ok 3 rfl trivial ?_
  refine RQ_s vX12_in (e_in v x3 0 3) rfl k12_170 rfl rfl rfl rfl ?_
  rw [show inB x3 0 3 = (zix x3 4).isSome from zix_in1 (n := 3) (by omega)]
  have hv : zvR G (some A) (s.1 24) m ln yy sl x1 x2 x3 = match zix x3 4 with
      | none => -1
      | some 0 => nI (zcs G A (s.1 24) ln yy sl k md).1
      | some 1 => nI ((zcs G A (s.1 24) ln yy sl k md).2.1.1 1)
      | some 2 => nI ((zcs G A (s.1 24) ln yy sl k md).2.1.1 2)
      | some _ => nI ((zcs G A (s.1 24) ln yy sl k md).2.1.1 3) := by
    unfold zvR; dsimp only; rw [zrqs_e e1 e2]; rfl
  cases e3 : zix x3 4 with
  | none =>
    rw [e3] at hv
    exact RQ_b rfl (fun z => absurd rfl z) (fun _ => no _ hv)
  | some j =>
  rw [e3] at hv
  obtain ⟨j1, j2⟩ := zix_s e3
  refine RQ_b rfl (fun _ => ?_) (fun z => absurd (Classical.not_not.mp z) (show ¬ (1 : Int32) = 0 by decide))
  clear no
  rw [hv]
  clear hv
  subst k2
  subst m2
  have e24 : v.1 24 = s.1 24 := a3.1 24 (by decide)
  refine RQ_n ZR_ok 2 rfl trivial ?_
  refine RQ_V vX12_laySentence (m_layRead hk3 hZ a1 a2 ho (hS.r a3) (hT.r a3) k1 m1) rfl k12_500 rfl rfl rfl rfl (fun _ _ _ => rfl) (fun r2 v2 h2 => ?_)
  obtain ⟨rfl, b1, b2, b3⟩ := h2
  rw [e24] at b3
  refine RQ_n ZR_ok 3 rfl trivial ?_
  refine RQ_V vX12_readAll b3 rfl k12_503 rfl rfl rfl rfl (fun _ _ _ => rfl) (fun r4 v4 h4 => ?_)
  obtain ⟨rfl, c1, c2, ⟨c3, c4, c5⟩, -, -⟩ := h4
  have F4 : frR s v4 := a3.tr c2
  refine RQ_n ZR_ok 2 rfl trivial ?_
  rcases (show j = 0 ∨ j = 1 ∨ j = 2 ∨ j = 3 by omega) with y | y | y | y <;> subst y <;> subst j2
  · refine RQ_b rfl (fun z => absurd rfl z) (fun _ => ?_)
    refine RQ_n ZR_ok 2 rfl trivial ?_
    exact RQ_to (Rn_iret rfl rfl) ⟨rfl, c1, F4⟩
  · refine RQ_b rfl (fun _ => ?_) (fun z => absurd (Classical.not_not.mp z) (show ¬ nI 1 = 0 by decide))
    refine RQ_n ZR_ok 2 rfl trivial ?_
    refine RQ_b rfl (fun z => absurd rfl z) (fun _ => ?_)
    refine RQ_n ZR_ok 3 rfl trivial ?_
    rw [c3]
    exact RQ_to (Rn_iret rfl rfl) ⟨rfl, c1, F4⟩
  · refine RQ_b rfl (fun _ => ?_) (fun z => absurd (Classical.not_not.mp z) (show ¬ nI 2 = 0 by decide))
    refine RQ_n ZR_ok 2 rfl trivial ?_
    refine RQ_b rfl (fun _ => ?_) (fun z => absurd (Classical.not_not.mp z) (show ¬ nI 2 = 1 by decide))
    refine RQ_n ZR_ok 2 rfl trivial ?_
    refine RQ_b rfl (fun z => absurd rfl z) (fun _ => ?_)
    refine RQ_n ZR_ok 3 rfl trivial ?_
    rw [c4]
    exact RQ_to (Rn_iret rfl rfl) ⟨rfl, c1, F4⟩
  · refine RQ_b rfl (fun _ => ?_) (fun z => absurd (Classical.not_not.mp z) (show ¬ nI 3 = 0 by decide))
    refine RQ_n ZR_ok 2 rfl trivial ?_
    refine RQ_b rfl (fun _ => ?_) (fun z => absurd (Classical.not_not.mp z) (show ¬ nI 3 = 1 by decide))
    refine RQ_n ZR_ok 2 rfl trivial ?_
    refine RQ_b rfl (fun _ => ?_) (fun z => absurd (Classical.not_not.mp z) (show ¬ nI 3 = 2 by decide))
    refine RQ_n ZR_ok 2 rfl trivial ?_
    rw [c5]
    exact RQ_to (Rn_iret rfl rfl) ⟨rfl, c1, F4⟩
set_option maxHeartbeats 1000000 in
theorem m_reduced (hk3 : kd < 3) (hZ : ∀ kd, kd < 3 → ZAt G kd (os kd)) (h : RGr G os s) (hS : SnM m ln yy s) (hT : TMc G nb sl s) (x1 x2 x3 : Int32) : EvQ ZR mX12_reduced [.ref 0, .int (nI kd), .int x1, .int x2, .int x3] s (rfQ G os s (zvD G (os kd) (s.1 24) m ln yy sl x1 x2 x3)) := by
  refine EQ_V vX12_reduced rfl ?_
  refine RQ_n ZR_ok 3 rfl trivial ?_
  refine RQ_V vX12_canRead (m_canRead hk3 hZ h hS x1) rfl k12_497 rfl rfl rfl rfl (fun _ _ _ => rfl) (fun r1 v h1 => ?_)
  obtain ⟨rfl, a1, a2, a3⟩ := h1
  have no : zvD G (os kd) (s.1 24) m ln yy sl x1 x2 x3 = -1 → RnQ ZR mX12_reduced (18, [some (.ref 0), some (.int (nI kd)), some (.int x1), some (.int x2), some (.int x3)], [], v) (rfQ G os s (zvD G (os kd) (s.1 24) m ln yy sl x1 x2 x3)) := by
    intro e
    refine RQ_n ZR_ok 1 rfl trivial ?_
    exact RQ_to (Rn_iret rfl rfl) ⟨by rw [e], a1, a3⟩
  cases ho : os kd with
  | none =>
    rw [ho] at no
    exact RQ_b rfl (fun _ => no rfl) (fun z => absurd rfl z)
  | some A =>
  rw [ho] at no
  cases e1 : zix x1 m with
  | none =>
    refine RQ_b rfl (fun _ => no ?_) (fun z => absurd rfl z)
    unfold zvD zrqs; dsimp only; rw [e1]
  | some k =>
  obtain ⟨k1, k2⟩ := zix_s e1
  refine RQ_b rfl (fun z => absurd (show (1 : Int32) = 0 from z) (by decide)) (fun _ => ?_)
  refine RQ_n ZR_ok 3 rfl trivial ?_
  refine RQ_s vX12_in (e_in v x2 0 2) rfl k12_170 rfl rfl rfl rfl ?_
  rw [show inB x2 0 2 = (zix x2 3).isSome from zix_in1 (n := 2) (by omega)]
  cases e2 : zix x2 3 with
  | none =>
    refine RQ_b rfl (fun z => absurd rfl z) (fun _ => no ?_)
    unfold zvD zrqs; dsimp only; rw [e1]; dsimp only; rw [e2]
  | some md =>
  obtain ⟨m1, m2⟩ := zix_s e2
  refine RQ_b rfl (fun _ => ?_) (fun z => absurd (Classical.not_not.mp z) (show ¬ (1 : Int32) = 0 by decide))
  have hv : zvD G (some A) (s.1 24) m ln yy sl x1 x2 x3 = match zix x3 ((zcs G A (s.1 24) ln yy sl k md).2.1.1 3) with
      | none => -1
      | some i => (zcs G A (s.1 24) ln yy sl k md).2.1.2 4 i := by
    unfold zvD; dsimp only; rw [zrqs_e e1 e2]; rfl
  rw [hv]
  clear hv no
  subst k2
  subst m2
  have e24 : v.1 24 = s.1 24 := a3.1 24 (by decide)
  refine RQ_n ZR_ok 2 rfl trivial ?_
  refine RQ_V vX12_laySentence (m_layRead hk3 hZ a1 a2 ho (hS.r a3) (hT.r a3) k1 m1) rfl k12_500 rfl rfl rfl rfl (fun _ _ _ => rfl) (fun r2 v2 h2 => ?_)
  obtain ⟨rfl, b1, b2, b3⟩ := h2
  rw [e24] at b3
  refine RQ_n ZR_ok 3 rfl trivial ?_
  refine RQ_V vX12_readAll b3 rfl k12_503 rfl rfl rfl rfl (fun _ _ _ => rfl) (fun r4 v4 h4 => ?_)
  obtain ⟨rfl, c1, c2, ⟨c3, c4, c5⟩, c6, c7⟩ := h4
  have F4 : frR s v4 := a3.tr c2
  refine RQ_n ZR_ok 7 rfl trivial ?_
  rw [c5]
  refine RQ_s vX12_in (e_in v4 x3 0 _) rfl k12_170 rfl rfl rfl rfl ?_
  rw [zix_in (by omega)]
  cases e3 : zix x3 ((zcs G A (s.1 24) ln yy sl k md).2.1.1 3) with
  | none =>
    refine RQ_b rfl (fun _ => ?_) (fun z => absurd rfl z)
    refine RQ_n ZR_ok 1 rfl trivial ?_
    exact RQ_to (Rn_iret rfl rfl) ⟨rfl, c1, F4⟩
  | some i =>
    obtain ⟨i1, i2⟩ := zix_s e3
    subst i2
    refine RQ_b rfl (fun z => absurd (show (1 : Int32) = 0 from z) (by decide)) (fun _ => ?_)
    refine RQ_n ZR_ok 4 rfl ⟨nI_in (by omega) (by omega), trivial⟩ ?_
    rw [nI_clamp (show i < 2 ^ 31 by omega), (c7 i i1).1]
    refine RQ_n ZR_ok 1 rfl trivial ?_
    exact RQ_to (Rn_iret rfl rfl) ⟨rfl, c1, F4⟩
set_option maxHeartbeats 1000000 in
theorem m_tree (hk3 : kd < 3) (hZ : ∀ kd, kd < 3 → ZAt G kd (os kd)) (h : RGr G os s) (hS : SnM m ln yy s) (hT : TMc G nb sl s) (x1 x2 x3 : Int32) : EvQ ZR mX12_tree [.ref 0, .int (nI kd), .int x1, .int x2, .int x3] s (rfQ G os s (zvE G (os kd) (s.1 24) m ln yy sl x1 x2 x3)) := by
  refine EQ_V vX12_tree rfl ?_
  refine RQ_n ZR_ok 3 rfl trivial ?_
  refine RQ_V vX12_canRead (m_canRead hk3 hZ h hS x1) rfl k12_497 rfl rfl rfl rfl (fun _ _ _ => rfl) (fun r1 v h1 => ?_)
  obtain ⟨rfl, a1, a2, a3⟩ := h1
  have no : zvE G (os kd) (s.1 24) m ln yy sl x1 x2 x3 = -1 → RnQ ZR mX12_tree (19, [some (.ref 0), some (.int (nI kd)), some (.int x1), some (.int x2), some (.int x3)], [], v) (rfQ G os s (zvE G (os kd) (s.1 24) m ln yy sl x1 x2 x3)) := by
    intro e
    refine RQ_n ZR_ok 1 rfl trivial ?_
    exact RQ_to (Rn_iret rfl rfl) ⟨by rw [e], a1, a3⟩
  cases ho : os kd with
  | none =>
    rw [ho] at no
    exact RQ_b rfl (fun _ => no rfl) (fun z => absurd rfl z)
  | some A =>
  rw [ho] at no
  cases e1 : zix x1 m with
  | none =>
    refine RQ_b rfl (fun _ => no ?_) (fun z => absurd rfl z)
    unfold zvE zrqs; dsimp only; rw [e1]
  | some k =>
  obtain ⟨k1, k2⟩ := zix_s e1
  have e2 : zix (0 : Int32) 3 = some 0 := zix_i (n := 3) (k := 0) (by omega) (by omega)
  refine RQ_b rfl (fun z => absurd (show (1 : Int32) = 0 from z) (by decide)) (fun _ => ?_)
  refine RQ_n ZR_ok 3 rfl trivial ?_
  refine RQ_s vX12_in (e_in v x3 0 2) rfl k12_170 rfl rfl rfl rfl ?_
  rw [show inB x3 0 2 = (zix x3 3).isSome from zix_in1 (n := 2) (by omega)]
  have hv : zvE G (some A) (s.1 24) m ln yy sl x1 x2 x3 = match zix x2 ((zcs G A (s.1 24) ln yy sl k 0).2.1.1 3) with
      | none => -1
      | some i => match zix x3 3 with
        | none => -1
        | some 0 => (zcs G A (s.1 24) ln yy sl k 0).2.1.2 5 i
        | some 1 => (zcs G A (s.1 24) ln yy sl k 0).2.1.2 7 i
        | some _ => (zcs G A (s.1 24) ln yy sl k 0).2.1.2 8 i := by
    unfold zvE; dsimp only; rw [zrqs_e e1 e2]; rfl
  cases e4 : zix x3 3 with
  | none =>
    refine RQ_b rfl (fun z => absurd rfl z) (fun _ => no ?_)
    rw [hv, e4]
    cases zix x2 ((zcs G A (s.1 24) ln yy sl k 0).2.1.1 3) with
    | none => rfl
    | some i => rfl
  | some j =>
  obtain ⟨l1, l2⟩ := zix_s e4
  refine RQ_b rfl (fun _ => ?_) (fun z => absurd (Classical.not_not.mp z) (show ¬ (1 : Int32) = 0 by decide))
  rw [hv, e4]
  clear hv no
  subst k2
  have e24 : v.1 24 = s.1 24 := a3.1 24 (by decide)
  refine RQ_n ZR_ok 2 rfl trivial ?_
  refine RQ_V vX12_laySentence (m_layRead (md := 0) hk3 hZ a1 a2 ho (hS.r a3) (hT.r a3) k1 (by omega)) rfl k12_500 rfl rfl rfl rfl (fun _ _ _ => rfl) (fun r2 v2 h2 => ?_)
  obtain ⟨rfl, b1, b2, b3⟩ := h2
  rw [e24] at b3
  refine RQ_n ZR_ok 3 rfl trivial ?_
  refine RQ_V vX12_readAll b3 rfl k12_503 rfl rfl rfl rfl (fun _ _ _ => rfl) (fun r4 v4 h4 => ?_)
  obtain ⟨rfl, c1, c2, ⟨c3, c4, c5⟩, c6, c7⟩ := h4
  have F4 : frR s v4 := a3.tr c2
  refine RQ_n ZR_ok 7 rfl trivial ?_
  rw [c5]
  refine RQ_s vX12_in (e_in v4 x2 0 _) rfl k12_170 rfl rfl rfl rfl ?_
  rw [zix_in (by omega)]
  cases e3 : zix x2 ((zcs G A (s.1 24) ln yy sl k 0).2.1.1 3) with
  | none =>
    refine RQ_b rfl (fun z => absurd rfl z) (fun _ => ?_)
    refine RQ_n ZR_ok 1 rfl trivial ?_
    exact RQ_to (Rn_iret rfl rfl) ⟨rfl, c1, F4⟩
  | some i =>
    obtain ⟨i1, i2⟩ := zix_s e3
    subst i2
    obtain ⟨d4, d5, d7, d8⟩ := c7 i i1
    have hin : vp_in (nI i) 301 := nI_in (by omega) (by omega)
    have hic : (nI i).toNatClampNeg = i := nI_clamp (by omega)
    refine RQ_b rfl (fun _ => ?_) (fun z => absurd (Classical.not_not.mp z) (show ¬ (1 : Int32) = 0 by decide))
    refine RQ_n ZR_ok 1 rfl trivial ?_
    rcases (show j = 0 ∨ j = 1 ∨ j = 2 by omega) with y | y | y <;> subst y <;> subst l2
    · refine RQ_b rfl (fun z => absurd rfl z) (fun _ => ?_)
      refine RQ_n ZR_ok 4 rfl ⟨hin, trivial⟩ ?_
      rw [hic, d5]
      refine RQ_n ZR_ok 1 rfl trivial ?_
      exact RQ_to (Rn_iret rfl rfl) ⟨rfl, c1, F4⟩
    · refine RQ_b rfl (fun _ => ?_) (fun z => absurd (Classical.not_not.mp z) (show ¬ nI 1 = 0 by decide))
      refine RQ_n ZR_ok 2 rfl trivial ?_
      refine RQ_b rfl (fun z => absurd rfl z) (fun _ => ?_)
      refine RQ_n ZR_ok 4 rfl ⟨hin, trivial⟩ ?_
      rw [hic, d7]
      refine RQ_n ZR_ok 1 rfl trivial ?_
      exact RQ_to (Rn_iret rfl rfl) ⟨rfl, c1, F4⟩
    · refine RQ_b rfl (fun _ => ?_) (fun z => absurd (Classical.not_not.mp z) (show ¬ nI 2 = 0 by decide))
      refine RQ_n ZR_ok 2 rfl trivial ?_
      refine RQ_b rfl (fun _ => ?_) (fun z => absurd (Classical.not_not.mp z) (show ¬ nI 2 = 1 by decide))
      refine RQ_n ZR_ok 4 rfl ⟨hin, trivial⟩ ?_
      rw [hic, d8]
      exact RQ_to (Rn_iret rfl rfl) ⟨rfl, c1, F4⟩
end MReads
