/-! mends: the reference. -/
section MMend3
variable {G : ZGT} {kd m : Nat} {os : Nat → Option ZAS} {s : SM} {ln : Nat → Nat} {yy : Nat → Nat → Nat} {nb : Nat → Int32} {sl : Nat → Nat}
set_option maxHeartbeats 1000000 in
theorem m_mends (hk3 : kd < 3) (hZ : ∀ kd, kd < 3 → ZAt G kd (os kd)) (h : RGr G os s) (hS : SnM m ln yy s) (hT : TMc G nb sl s) (x1 : Int32) : EvQ ZR mX12_mends [.ref 0, .int (nI kd), .int x1] s (rfQ G os s (zvM G (os kd) (s.1 24) m ln yy sl x1)) := by
  refine EQ_V vX12_mends rfl ?_
  refine RQ_n ZR_ok 3 rfl trivial ?_
  refine RQ_V vX12_canRead (m_canRead hk3 hZ h hS x1) rfl k12_497 rfl rfl rfl rfl (fun _ _ _ => rfl) (fun r1 v h1 => ?_)
  obtain ⟨rfl, a1, a2, a3⟩ := h1
  have no : ∀ l3 l4 : Option Value, zvM G (os kd) (s.1 24) m ln yy sl x1 = -1 → RnQ ZR mX12_mends (9, [some (.ref 0), some (.int (nI kd)), some (.int x1), l3, l4], [], v) (rfQ G os s (zvM G (os kd) (s.1 24) m ln yy sl x1)) := by
    intro l3 l4 e
    refine RQ_n ZR_ok 1 rfl trivial ?_
    exact RQ_to (Rn_iret rfl rfl) ⟨by rw [e], a1, a3⟩
  cases ho : os kd with
  | none =>
    rw [ho] at no
    exact RQ_b rfl (fun z => absurd rfl z) (fun _ => no _ _ rfl)
  | some A =>
  rw [ho] at no
  cases e1 : zix x1 m with
  | none =>
    refine RQ_b rfl (fun z => absurd rfl z) (fun _ => no _ _ ?_)
    unfold zvM zrqs; dsimp only; rw [e1]
  | some k =>
  obtain ⟨k1, k2⟩ := zix_s e1
  refine RQ_b rfl (fun _ => ?_) (fun z => absurd (Classical.not_not.mp z) (show ¬ (1 : Int32) = 0 by decide))
  have hv : zvM G (some A) (s.1 24) m ln yy sl x1 = if (zcs G A (s.1 24) ln yy sl k 0).1 = 1 then -1000000 else zmd G (zN A) (s.1 24) (ln k) (fun i => zsno sl (zgT G) (yy k i)) (ln k + 1) 0 := by
    unfold zvM; dsimp only; rw [zrqs_e (x2 := 0) (md := 0) e1 rfl]
  clear no
  rw [hv]
  clear hv
  subst k2
  have hm4 := hS.2.1
  have e24 : v.1 24 = s.1 24 := a3.1 24 (by decide)
  refine RQ_n ZR_ok 2 rfl trivial ?_
  refine RQ_V vX12_laySentence (m_layKeep (md := 0) hk3 hZ a1 a2 ho (hS.r a3) (hT.r a3) k1 (by omega)) rfl k12_500 rfl rfl rfl rfl (fun _ _ _ => rfl) (fun r2 v2 h2 => ?_)
  obtain ⟨rfl, b1, b2, b3⟩ := h2
  rw [e24] at b3
  refine RQ_n ZR_ok 3 rfl trivial ?_
  refine RQ_V vX12_readAll b3 rfl k12_503 rfl rfl rfl rfl (fun _ _ _ => rfl) (fun r4 v4 h4 => ?_)
  obtain ⟨rfl, c1, c2, -, -, c5, c6, c30⟩ := h4
  have F4 : frR s v4 := a3.tr c2
  have hb := c1.1.b
  obtain ⟨E6, -⟩ := zcs_ok (ln := ln) (yy := yy) (sl := sl) c1.1.1 (p := s.1 24) c6 k 0
  obtain ⟨s1, s24, -⟩ := hS.2.2 k k1
  refine RQ_n ZR_ok 1 rfl trivial ?_
  by_cases y : (zcs G A (s.1 24) ln yy sl k 0).1 = 1
  · rw [if_pos y]
    refine RQ_b rfl (fun q => absurd ((zq_eq (a := (zcs G A (s.1 24) ln yy sl k 0).1) (b := 1) rfl rfl (by omega) (by omega)).mpr y) q) (fun _ => ?_)
    refine RQ_n ZR_ok 1 rfl trivial ?_
    exact RQ_to (Rn_iret rfl rfl) ⟨rfl, c1, F4⟩
  rw [if_neg y]
  refine RQ_b rfl (fun _ => ?_) (fun q => absurd ((zq_eq (a := (zcs G A (s.1 24) ln yy sl k 0).1) (b := 1) rfl rfl (by omega) (by omega)).mp (Classical.not_not.mp q)) y)
  obtain ⟨D, hD⟩ : ∃ D, D = zmd G (zN A) (s.1 24) (ln k) (fun i => zsno sl (zgT G) (yy k i)) (ln k + 1) 0 := ⟨_, rfl⟩
  rw [← hD]
  have h30 : v4.2.1 30 kd = 1 := c30
  refine RQ_n ZR_ok 2 rfl trivial ?_
  refine loopU (ln k + 1) (fun i (_ : Unit) => [some (.ref 0), some (.int (nI kd)), some (.int (nI k)), some (.int (nI i)), none]) (fun i _ w => RGr G os w ∧ w.2.1 30 kd = 1 ∧ frR s w ∧ zmd G (zN A) (s.1 24) (ln k) (fun i => zsno sl (zgT G) (yy k i)) (ln k + 1 - i) i = D) ?_ 0 () v4 (by omega) ⟨c1, h30, F4, hD.symm⟩
  intro i _ w hi hJ ih
  obtain ⟨g1, g2, g3, g4⟩ := hJ
  refine RQ_n ZR_ok 4 rfl trivial ?_
  refine RQ_n ZR_ok 1 rfl ⟨nI_in (by omega) (by omega), trivial⟩ ?_
  rw [nI_clamp (show k < 2 ^ 31 by omega), ((hS.r g3).2.2 k k1).1]
  refine RQ_b rfl (fun z => ?_) (fun z => ?_)
  · have z := (zq_lt (a := ln k) (b := i) rfl rfl (by omega) (by omega)).mp z
    rw [show ln k + 1 - i = 0 by omega] at g4
    refine RQ_n ZR_ok 1 rfl trivial ?_
    exact RQ_to (Rn_iret rfl rfl) ⟨by rw [← g4]; rfl, g1, g3⟩
  have z := (not_congr (zq_lt (a := ln k) (b := i) rfl rfl (by omega) (by omega))).mp z
  rw [show ln k + 1 - i = (ln k + 1 - (i + 1)) + 1 by omega, zmd_s] at g4
  obtain ⟨q, hq⟩ : ∃ q, q = zdm G (zN A) (s.1 24) (ln k) (fun i => zsno sl (zgT G) (yy k i)) i := ⟨_, rfl⟩
  rw [← hq] at g4
  refine RQ_n ZR_ok 2 rfl trivial ?_
  refine loopU (20 + zgT G) (fun c (_ : Unit) => [some (.ref 0), some (.int (nI kd)), some (.int (nI k)), some (.int (nI i)), some (.int (nI c))]) (fun c _ w => RGr G os w ∧ w.2.1 30 kd = 1 ∧ frR s w ∧ zft q (20 + zgT G - c) c = zft q (20 + zgT G) 0) ?_ 0 () w (by omega) ⟨g1, g2, g3, rfl⟩
  clear g1 g2 g3 w
  intro c _ w hc hJ ih2
  obtain ⟨g1, g2, g3, g5⟩ := hJ
  have eT : w.1 17 = nI (zgT G) := g1.1.2.1.2.2
  refine RQ_n ZR_ok 5 rfl trivial ?_
  rw [eT, show (20 : Int32) + nI (zgT G) = nI (20 + zgT G) from nI_add 20 _]
  refine RQ_b rfl (fun x => ?_) (fun x => ?_)
  · have x := (zq_le (a := 20 + zgT G) (b := c) rfl rfl (by omega) (by omega)).mp x
    rw [show 20 + zgT G - c = 0 by omega] at g5
    rw [← g5] at g4
    refine RQ_n ZR_ok 2 rfl trivial ?_
    exact ih (by omega) () _ _ ⟨rfl, rfl, rfl, nIs i, trivial⟩ ⟨g1, g2, g3, g4⟩
  have x := (not_congr (zq_le (a := 20 + zgT G) (b := c) rfl rfl (by omega) (by omega))).mp x
  rw [show 20 + zgT G - c = (20 + zgT G - (c + 1)) + 1 by omega, zft_s] at g5
  have p93 : ∀ v, RGr G os v → v.2.1 30 kd = 1 → frR s v → q c = false → RnQ ZR mX12_mends (93, [some (.ref 0), some (.int (nI kd)), some (.int (nI k)), some (.int (nI i)), some (.int (nI c))], [], v) (rfQ G os s D) := by
    intro v j1 j2 j3 e
    rw [e] at g5
    refine RQ_n ZR_ok 2 rfl trivial ?_
    exact ih2 (by omega) () _ _ ⟨rfl, rfl, rfl, rfl, nIs c, trivial⟩ ⟨j1, j2, j3, g5⟩
  have e24w : w.1 24 = s.1 24 := g3.1 24 (by decide)
  have p73 : RnQ ZR mX12_mends (73, [some (.ref 0), some (.int (nI kd)), some (.int (nI k)), some (.int (nI i)), some (.int (nI c))], [], w) (rfQ G os s D) := by
    refine RQ_n ZR_ok 5 rfl trivial ?_
    have hdm := m_doesMend (pl := i) (c := c) hk3 hZ g1 g2 ho (hS.r g3) (hT.r g3) k1 (by omega) (by omega)
    rw [e24w, ← hq] at hdm
    refine RQ_V vX12_doesMend hdm rfl k12_512 rfl rfl rfl rfl (fun _ _ _ => rfl) (fun r5 v5 h5 => ?_)
    obtain ⟨rfl, j1, j2⟩ := h5
    have j3 : frR s v5 := g3.tr (j2.up (by decide) (by decide))
    cases e : q c with
    | false => exact RQ_b rfl (fun _ => p93 v5 j1 (by rw [j2.2.1 30 (by decide)]; exact g2) j3 e) (fun r => absurd rfl r)
    | true =>
      rw [e] at g5
      rw [← g5] at g4
      refine RQ_b rfl (fun r => absurd (show (1 : Int32) = 0 from r) (by decide)) (fun _ => ?_)
      refine RQ_n ZR_ok 5 rfl trivial ?_
      refine RQ_to (Rn_iret rfl rfl) ⟨?_, j1, j3⟩
      rw [← g4]
      show some (Value.int (100 * nI i + nI c)) = some (Value.int (nI (100 * i + c)))
      rw [show (100 : Int32) = nI 100 from rfl, nI_mul, nI_add]
  refine RQ_n ZR_ok 3 rfl trivial ?_
  rw [eT]
  refine RQ_b rfl (fun _ => p73) (fun x2 => ?_)
  have x2 := (not_congr (zq_le (a := c) (b := zgT G) rfl rfl (by omega) (by omega))).mp x2
  refine RQ_n ZR_ok 2 rfl trivial ?_
  refine RQ_b rfl (fun x3 => ?_) (fun _ => p73)
  have x3 := (zq_lt (a := c) (b := 20) rfl rfl (by omega) (by omega)).mp x3
  exact p93 w g1 g2 g3 (by rw [hq]; exact zdm_f2 x3 (by omega))
end MMend3
