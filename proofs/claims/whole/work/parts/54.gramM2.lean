/-! readRule and readGrammar of the reference. -/
theorem nI_m1 {a : Nat} (h : a < 2 ^ 31) : ¬ nI a = -1 := fun z => by
  have h1 := nI_toInt h
  rw [z] at h1
  have h2 : (-1 : Int32).toInt = -1 := by decide
  rw [h2] at h1
  omega
theorem gF_e {f : Nat → Int32} {i : Nat} {q : gS} (h : q.1 ≠ 2) : gF f 0 i q = some i := by rw [gF, if_neg (fun z => h z.1)]
/-- what readRule comes to -/
def rrQ (s : SM) (f : Nat → Int32) (n R : Nat) (F : Option Nat) (P : pD) (O : Int32) (r : Option Value) (u : SM) : Prop :=
  r = none ∧ ((∃ p, p ≤ n ∧ F = some p ∧ gW s p u) ∨ (∃ i' l' nm' lf' sg' D', (i' ≤ n ∧ F = gF f (n - i') i' (2, R + 1, l', nm', lf', sg') ∧ l' ≤ 5 ∧ mny nm' sg' = false) ∧ (P = pr f (n - i') i' true D' ∧ O = so f (n - i') i' sg' ∧ D'.1 = R + 1) ∧ (i' < n → f i' ≠ 32 ∧ isNm (f i') = false ∧ isSg (f i') = false) ∧ gU s f n i' nm' lf' sg' D' u))
theorem aht_lt {f : Nat → Int32} {n i : Nat} (h : i < n) : aht f n i = f i := by unfold aht; rw [if_pos h]
theorem aht_ge {f : Nat → Int32} {n i : Nat} (h : ¬ i < n) : aht f n i = -1 := by unfold aht; rw [if_neg h]
theorem skp_in {f : Nat → Int32} {n i : Nat} (hi : i ≤ n) : i ≤ skp f (n - i) i ∧ skp f (n - i) i ≤ n ∧ (skp f (n - i) i < n → f (skp f (n - i) i) ≠ 32) := by
  have h := skp_le f (n - i) i
  exact ⟨h.1, by omega, fun z => skp_ne f (n - i) i (by omega)⟩
set_option maxHeartbeats 4000000 in
theorem m_rrLoop {s : SM} {f : Nat → Int32} {n R : Nat} {lf : Int32} (h2 : n ≤ 240) (hR : R < 16) : ∀ d i D nm sg u, i + d = n → D.1 = R + 1 → mny nm sg = false → gU s f n i nm lf sg D u →
    RnQ ZR mX12_readRule (129, [some (.ref 0), some (.int (nI R)), none], [], u) (rrQ s f n R (gF f d i (2, R + 1, D.2.2.1 R, nm, lf, sg)) (pr f d i true D) (so f d i sg)) := by
  intro d
  induction d using Nat.strongRecOn with
  | ind d ih =>
    intro i D nm sg u hd hD hm h
    have hl5 : D.2.2.1 R ≤ 5 := (h.2.1.2 R (by omega)).2.2.1
    obtain ⟨i1, hi1⟩ : ∃ i1, i1 = skp f (n - i) i := ⟨_, rfl⟩
    have hsk := skp_in (f := f) (show i ≤ n by omega)
    rw [← hi1] at hsk
    have hdn : n - i = d := by omega
    have ev := g_ahead h h2 (by omega)
    rw [← hi1] at ev
    have h1 : gU s f n i1 nm lf sg D (atS u i1) := gU_at h
    have hF : gF f d i (2, R + 1, D.2.2.1 R, nm, lf, sg) = gF f (n - i1) i1 (2, R + 1, D.2.2.1 R, nm, lf, sg) := by rw [gF_skp f 2 (R + 1) _ nm lf sg hl5 hm d i, ← hdn, ← hi1, show i + (n - i) = n by omega]
    have hP : pr f d i true D = pr f (n - i1) i1 true D := by rw [pr_skp f true D d i, ← hdn, ← hi1, show i + (n - i) = n by omega]
    have hO : so f d i sg = so f (n - i1) i1 sg := by rw [so_skp f sg d i, ← hdn, ← hi1, show i + (n - i) = n by omega]
    refine RQ_n ZR_ok 3 rfl trivial ?_
    refine RQ_b rfl (fun q => absurd h.1.2.2.1 q) (fun _ => ?_)
    refine RQ_n ZR_ok 1 rfl trivial ?_
    refine RQ_v vX12_ahead ev rfl k12_180 rfl rfl rfl rfl rfl ?_
    refine RQ_s vX12_isName (e_isName (atS u i1) (aht f n i1)) rfl k12_184 rfl rfl rfl rfl ?_
    have take : i1 < n → (isNm (f i1) = true ∨ isSg (f i1) = true) → RnQ ZR mX12_readRule (157, [some (.ref 0), some (.int (nI R)), none], [], atS u i1) (rrQ s f n R (gF f d i (2, R + 1, D.2.2.1 R, nm, lf, sg)) (pr f d i true D) (so f d i sg)) := by
      intro hlt hlet
      obtain ⟨e, he⟩ : ∃ e, n - i1 = e + 1 := ⟨n - i1 - 1, by omega⟩
      refine RQ_n ZR_ok 2 rfl trivial ?_
      refine RQ_V vX12_takeLetter (m_takeLetter h1 h2 hlt hD hR hlet) rfl k12_212 rfl rfl rfl rfl (fun _ _ _ => rfl) (fun r1 u1 hq => ?_)
      obtain ⟨rfl, hq⟩ := hq
      refine RQ_n ZR_ok 1 rfl trivial ?_
      rcases hq with ⟨hc, hw⟩ | ⟨⟨hc1, hc2⟩, hu⟩
      · refine RQ_n ZR_ok 3 rfl trivial ?_
        refine RQ_b rfl (fun _ => ?_) (fun q => absurd (show ¬ u1.1 4 = -1 by rw [hw.1]; exact nI_m1 (by omega)) q)
        refine RQ_to (Rn_vret rfl rfl) ⟨rfl, Or.inl ⟨i1, by omega, ?_, hw⟩⟩
        rw [hF, he, gF_s, gnx_let hlet]
        rcases hc with hc | hc
        · rw [gck, if_pos (by dsimp only; omega)]; rfl
        · by_cases z : 5 < D.2.2.1 R + 1
          · rw [gck, if_pos z]; rfl
          · rw [gck, if_neg z, if_pos hc]; rfl
      · have h0 := ih e (by omega) (i1 + 1) (pT (f i1) D) (nm1 (f i1) nm) (sg1 (f i1) sg) u1 (by omega) hD hc2 hu
        have hN : (pT (f i1) D).2.2.1 R = D.2.2.1 R + 1 := by
          show (if R + 1 = D.1 then D.2.2.1 R + 1 else D.2.2.1 R) = _
          rw [if_pos hD.symm]
        rw [hN] at h0
        have e1 : gF f d i (2, R + 1, D.2.2.1 R, nm, lf, sg) = gF f e (i1 + 1) (2, R + 1, D.2.2.1 R + 1, nm1 (f i1) nm, lf, sg1 (f i1) sg) := by
          rw [hF, he, gF_s, gnx_let hlet, gck, if_neg (by dsimp only; omega), if_neg (by dsimp only; rw [hc2]; decide)]; rfl
        have e2 : pr f d i true D = pr f e (i1 + 1) true (pT (f i1) D) := by rw [hP, he, pr_let hlet]
        have e3 : so f d i sg = so f e (i1 + 1) (sg1 (f i1) sg) := by rw [hO, he, so]; rfl
        rw [e1, e2, e3]
        exact h0
    refine RQ_b rfl (fun q => ?_) (fun q => ?_)
    · have q := bI_t q
      have hlt : i1 < n := by
        apply Classical.byContradiction
        intro z
        rw [aht_ge z] at q
        exact absurd q (by decide)
      rw [aht_lt hlt] at q
      exact take hlt (Or.inl q)
    · have q : isNm (aht f n i1) = false := bI_0.mp (Classical.not_not.mp q)
      refine RQ_n ZR_ok 1 rfl trivial ?_
      refine RQ_v vX12_ahead (g_ahead0 h1 h2 hsk.2.1 hsk.2.2) rfl k12_180 rfl rfl rfl rfl rfl ?_
      refine RQ_s vX12_isSign (e_isSign (atS u i1) (aht f n i1)) rfl k12_191 rfl rfl rfl rfl ?_
      refine RQ_b rfl (fun q2 => ?_) (fun q2 => ?_)
      · have q2 := bI_0.mp q2
        refine RQ_to (Rn_vret rfl rfl) ⟨rfl, Or.inr ⟨i1, D.2.2.1 R, nm, lf, sg, D, ⟨hsk.2.1, hF, hl5, hm⟩, ⟨hP, hO, hD⟩, fun z => ?_, h1⟩⟩
        rw [aht_lt z] at q q2
        exact ⟨hsk.2.2 z, q, q2⟩
      · have q2 := bI_t q2
        have hlt : i1 < n := by
          apply Classical.byContradiction
          intro z
          rw [aht_ge z] at q2
          exact absurd q2 (by decide)
        rw [aht_lt hlt] at q2
        exact take hlt (Or.inr q2)
set_option maxHeartbeats 4000000 in
theorem m_readRule {s u : SM} {f : Nat → Int32} {n i R l : Nat} {nm lf sg : Int32} {D : pD} (h : gU s f n i nm lf sg D u) (h2 : n ≤ 240) (hi : i ≤ n) (hD : D.1 = R) (hR : R < 16) (hl : l ≤ 5) (hm : mny nm sg = false) :
    EvQ ZR mX12_readRule [.ref 0] u (rrQ s f n R (gF f (n - i) i (0, R, l, nm, lf, sg)) (pr f (n - i) i false D) (so f (n - i) i sg)) := by
  obtain ⟨i1, hi1⟩ : ∃ i1, i1 = skp f (n - i) i := ⟨_, rfl⟩
  have hsk := skp_in (f := f) hi
  rw [← hi1] at hsk
  have ev := g_ahead h h2 hi
  rw [← hi1] at ev
  have h1 : gU s f n i1 nm lf sg D (atS u i1) := gU_at h
  have hF : gF f (n - i) i (0, R, l, nm, lf, sg) = gF f (n - i1) i1 (0, R, l, nm, lf, sg) := by rw [gF_skp f 0 R l nm lf sg hl hm (n - i) i, ← hi1, show i + (n - i) = n by omega]
  have hP : pr f (n - i) i false D = pr f (n - i1) i1 false D := by rw [pr_skp f false D (n - i) i, ← hi1, show i + (n - i) = n by omega]
  have hO : so f (n - i) i sg = so f (n - i1) i1 sg := by rw [so_skp f sg (n - i) i, ← hi1, show i + (n - i) = n by omega]
  rw [hF, hP, hO]
  have hRc : (nI R).toNatClampNeg = R := nI_clamp (by omega)
  have h8 : (atS u i1).1 8 = nI R := by rw [← hD]; exact h1.2.1.1
  have hu8 : u.1 8 = nI R := h8
  refine EQ_V vX12_readRule rfl ?_
  refine RQ_n ZR_ok 4 rfl trivial ?_
  refine RQ_v vX12_ahead ev rfl k12_180 rfl rfl rfl rfl rfl ?_
  refine RQ_n ZR_ok 2 rfl trivial ?_
  refine RQ_s vX12_isName (e_isName (atS u i1) (aht f n i1)) rfl k12_184 rfl rfl rfl rfl ?_
  have bad1 : gF f (n - i1) i1 (0, R, l, nm, lf, sg) = some i1 → RnQ ZR mX12_readRule (36, [some (.ref 0), some (.int (u.1 8)), some (.int (aht f n i1))], [], atS u i1) (rrQ s f n R (gF f (n - i1) i1 (0, R, l, nm, lf, sg)) (pr f (n - i1) i1 false D) (so f (n - i1) i1 sg)) := by
    intro hf
    refine RQ_n ZR_ok 1 rfl trivial ?_
    refine RQ_v vX12_bad (m_bad (atS u i1) h1.1.2.2.1) rfl k12_203 rfl rfl rfl rfl rfl ?_
    exact RQ_to (Rn_vret rfl rfl) ⟨rfl, Or.inl ⟨i1, hsk.2.1, hf, gU_bad h1⟩⟩
  refine RQ_b rfl (fun q => ?_) (fun q => ?_)
  · have q := bI_0.mp q
    refine bad1 ?_
    by_cases z : i1 < n
    · rw [aht_lt z] at q
      obtain ⟨e, he⟩ : ∃ e, n - i1 = e + 1 := ⟨n - i1 - 1, by omega⟩
      rw [he, gF_s, gnx, if_neg (fun y => by rw [q] at y; exact absurd y.1 (by decide)), if_neg (fun y => absurd y.2 (by decide)), if_neg (fun y => absurd y.2.1 (by decide)), if_neg (fun y => absurd y.2 (by decide)), if_neg (fun y => absurd y.2 (by decide)), if_neg (hsk.2.2 z)]
      rfl
    · rw [show n - i1 = 0 by omega]
      exact gF_e (by show ¬ (0 = 2); decide)
  · have q := bI_t q
    have hlt : i1 < n := by
      apply Classical.byContradiction
      intro z
      rw [aht_ge z] at q
      exact absurd q (by decide)
    rw [aht_lt hlt] at q ⊢
    rw [aht_lt hlt] at bad1
    generalize hx : f i1 = x at *
    obtain ⟨e, he⟩ : ∃ e, n - i1 = e + 1 := ⟨n - i1 - 1, by omega⟩
    have hnx : gnx x (0, R, l, nm, lf, sg) = gck (1, R, l, nm ||| nB x, lf ||| nB x, sg) := by rw [gnx, if_pos ⟨q, rfl⟩]
    have hsg8 : ¬ 8 < bitC sg := fun z => by rw [mny, decide_eq_true z, Bool.or_true] at hm; cases hm
    have h9 : (atS u i1).1 9 = nm := h1.1.2.2.2.1
    have h10 : (atS u i1).1 10 = lf := h1.1.2.2.2.2.1
    refine RQ_n ZR_ok 8 rfl trivial ?_
    refine RQ_s vJ6_bitCount_0f7a4 (e_bitCount ZR_ok (atS u i1) ((atS u i1).1 9 ||| nB x)) rfl k12_197 rfl rfl rfl rfl ?_
    refine RQ_n ZR_ok 1 rfl trivial ?_
    refine RQ_b rfl (fun q2 => ?_) (fun q2 => ?_)
    · have q2 : ¬ 6 < bitC (nm ||| nB x) := by
        have q2 : bitC ((atS u i1).1 9 ||| nB x) ≤ 6 := q2
        rw [h9] at q2
        exact Int32.not_lt.mpr q2
      have hm2 : mny (nm ||| nB x) sg = false := by rw [mny, decide_eq_false q2, decide_eq_false hsg8]; rfl
      have hF1 : gF f (n - i1) i1 (0, R, l, nm, lf, sg) = gF f (n - (i1 + 1)) (i1 + 1) (1, R, l, nm ||| nB x, lf ||| nB x, sg) := by
        rw [he, gF_s, hx, hnx, gck, if_neg (by dsimp only; omega), if_neg (by dsimp only; rw [hm2]; decide), show n - (i1 + 1) = e by omega]; rfl
      have hP1 : pr f (n - i1) i1 false D = pr f (n - (i1 + 1)) (i1 + 1) false (pR x D) := by
        have a := isNm_ne q
        rw [he, pr, hx, if_neg a.2.1, if_neg a.2.2.1, if_neg (by rw [a.2.2.2.2]; decide), if_neg (fun y => absurd y.2 (by decide)), if_pos q, show n - (i1 + 1) = e by omega]
      have hO1 : so f (n - i1) i1 sg = so f (n - (i1 + 1)) (i1 + 1) sg := by
        have a := isNm_ne q
        rw [he, so, hx, if_neg (by rw [a.2.2.2.2]; decide), show n - (i1 + 1) = e by omega]
      have hRin : vp_in (u.1 8) 16 := by rw [hu8]; exact nI_in (by omega) (by omega)
      refine RQ_n ZR_ok 43 rfl ⟨hRin, hRin, trivial⟩ ?_
      -- the state behind the left name
      obtain ⟨u2, hu2⟩ : ∃ u2 : SM, u2 = (updS (updS (updS (updS (atS u i1).1 9 ((atS u i1).1 9 ||| nB x)) 10 ((atS u i1).1 10 ||| nB x)) 8 ((atS u i1).1 8 + 1)) 3 ((atS u i1).1 3 + 1), updA (updA (atS u i1).2.1 5 (u.1 8).toNatClampNeg x) 6 (u.1 8).toNatClampNeg 0, (atS u i1).2.2) := ⟨_, rfl⟩
      have hg2 : gU s f n (i1 + 1) (nm ||| nB x) (lf ||| nB x) sg (pR x D) u2 := by
        rw [hu2]
        refine ⟨⟨h1.1.1, ?_, h1.1.2.2.1, ?_, ?_, h1.1.2.2.2.2.2.1, h1.1.2.2.2.2.2.2⟩, ⟨?_, fun j hj => ?_⟩, ?_⟩
        · show nI i1 + 1 = _
          exact nI_1 i1
        · show (atS u i1).1 9 ||| nB x = _
          rw [h9]
        · show (atS u i1).1 10 ||| nB x = _
          rw [h10]
        · show (atS u i1).1 8 + 1 = nI (D.1 + 1)
          rw [h8, nI_1, hD]
        · have hj : j < D.1 + 1 := hj
          rw [hu8, hRc]
          show upd (u.2.1 5) R x j = (if j = D.1 then x else D.2.1 j) ∧ upd (u.2.1 6) R 0 j = nI (if j = D.1 then 0 else D.2.2.1 j) ∧ (if j = D.1 then 0 else D.2.2.1 j) ≤ 5 ∧ ∀ k, k < (if j = D.1 then 0 else D.2.2.1 j) → u.2.1 7 (5 * j + k) = D.2.2.2 j k
          by_cases z : j = R
          · subst z
            rw [upd_at, upd_at, if_pos hD.symm, if_pos hD.symm]
            exact ⟨rfl, rfl, by omega, fun k hk => absurd hk (Nat.not_lt_zero _)⟩
          · rw [upd_ne z, upd_ne z, if_neg (by omega), if_neg (by omega)]
            exact h.2.1.2 j (by omega)
        · exact (((((h1.2.2.tr (frM.i 9 (by decide))).tr (frM.i 10 (by decide))).tr (frM.a 5 (by decide))).tr (frM.a 6 (by decide))).tr (frM.i 8 (by decide))).tr (frM.i 3 (by decide))
      show RnQ ZR mX12_readRule (106, [some (.ref 0), some (.int (u.1 8)), some (.int x)], [.ref 0], (updS (updS (updS (updS (atS u i1).1 9 ((atS u i1).1 9 ||| nB x)) 10 ((atS u i1).1 10 ||| nB x)) 8 ((atS u i1).1 8 + 1)) 3 ((atS u i1).1 3 + 1), updA (updA (atS u i1).2.1 5 (u.1 8).toNatClampNeg x) 6 (u.1 8).toNatClampNeg 0, (atS u i1).2.2)) _
      rw [← hu2, hF1, hP1, hO1]
      obtain ⟨i2, hi2⟩ : ∃ i2, i2 = skp f (n - (i1 + 1)) (i1 + 1) := ⟨_, rfl⟩
      have hsk2 := skp_in (f := f) (show i1 + 1 ≤ n by omega)
      rw [← hi2] at hsk2
      have ev2 := g_ahead hg2 h2 (by omega)
      rw [← hi2] at ev2
      have h3 : gU s f n i2 (nm ||| nB x) (lf ||| nB x) sg (pR x D) (atS u2 i2) := gU_at hg2
      have hF2 : gF f (n - (i1 + 1)) (i1 + 1) (1, R, l, nm ||| nB x, lf ||| nB x, sg) = gF f (n - i2) i2 (1, R, l, nm ||| nB x, lf ||| nB x, sg) := by rw [gF_skp f 1 R l _ _ sg hl hm2 (n - (i1 + 1)) (i1 + 1), ← hi2, show i1 + 1 + (n - (i1 + 1)) = n by omega]
      have hP2 : pr f (n - (i1 + 1)) (i1 + 1) false (pR x D) = pr f (n - i2) i2 false (pR x D) := by rw [pr_skp f false _ (n - (i1 + 1)) (i1 + 1), ← hi2, show i1 + 1 + (n - (i1 + 1)) = n by omega]
      have hO2 : so f (n - (i1 + 1)) (i1 + 1) sg = so f (n - i2) i2 sg := by rw [so_skp f sg (n - (i1 + 1)) (i1 + 1), ← hi2, show i1 + 1 + (n - (i1 + 1)) = n by omega]
      rw [hF2, hP2, hO2]
      refine RQ_v vX12_ahead ev2 rfl k12_180 rfl rfl rfl rfl rfl ?_
      refine RQ_n ZR_ok 1 rfl trivial ?_
      refine RQ_b rfl (fun q3 => ?_) (fun q3 => ?_)
      · have q3 : aht f n i2 = 61 := q3
        have hlt2 : i2 < n := by
          apply Classical.byContradiction
          intro z
          rw [aht_ge z] at q3
          exact absurd q3 (by decide)
        rw [aht_lt hlt2] at q3
        obtain ⟨e2, he2⟩ : ∃ e2, n - i2 = e2 + 1 := ⟨n - i2 - 1, by omega⟩
        have hF3 : gF f (n - i2) i2 (1, R, l, nm ||| nB x, lf ||| nB x, sg) = gF f e2 (i2 + 1) (2, R + 1, (pR x D).2.2.1 R, nm ||| nB x, lf ||| nB x, sg) := by
          rw [he2, gF_s, q3, gnx, if_neg (fun y => absurd y.2 (by decide)), if_pos ⟨rfl, rfl⟩, gck, if_neg (by dsimp only; omega), if_neg (by dsimp only; rw [hm2]; decide)]
          show gF f e2 (i2 + 1) (2, R + 1, 0, nm ||| nB x, lf ||| nB x, sg) = gF f e2 (i2 + 1) (2, R + 1, (if R = D.1 then 0 else D.2.2.1 R), nm ||| nB x, lf ||| nB x, sg)
          rw [if_pos hD.symm]
        have hP3 : pr f (n - i2) i2 false (pR x D) = pr f e2 (i2 + 1) true (pR x D) := by rw [he2, pr, if_pos q3]
        have hO3 : so f (n - i2) i2 sg = so f e2 (i2 + 1) sg := by rw [he2, so, q3, if_neg (by decide)]
        rw [hF3, hP3, hO3, hu8]
        refine RQ_n ZR_ok 6 rfl trivial ?_
        refine RQ_le (l' := [some (.ref 0), some (.int (nI R)), none]) (zle_s (zle_s (zle_n zle_0))) ?_
        refine m_rrLoop h2 hR e2 (i2 + 1) (pR x D) (nm ||| nB x) sg _ (by omega) (by show D.1 + 1 = R + 1; omega) hm2 ?_
        refine ⟨⟨h3.1.1, ?_, h3.1.2.2⟩, h3.2.1, h3.2.2.tr (frM.i 3 (by decide))⟩
        show nI i2 + 1 = _
        exact nI_1 i2
      · have q3 : ¬ aht f n i2 = 61 := q3
        refine RQ_n ZR_ok 1 rfl trivial ?_
        refine RQ_v vX12_bad (m_bad (atS u2 i2) h3.1.2.2.1) rfl k12_203 rfl rfl rfl rfl rfl ?_
        refine RQ_to (Rn_vret rfl rfl) ⟨rfl, Or.inl ⟨i2, hsk2.2.1, ?_, gU_bad h3⟩⟩
        by_cases z : i2 < n
        · rw [aht_lt z] at q3
          obtain ⟨e2, he2⟩ : ∃ e2, n - i2 = e2 + 1 := ⟨n - i2 - 1, by omega⟩
          rw [he2, gF_s, gnx, if_neg (fun y => absurd y.2 (by decide)), if_neg (fun y => q3 y.1), if_neg (fun y => absurd y.2.1 (by decide)), if_neg (fun y => absurd y.2 (by decide)), if_neg (fun y => absurd y.2 (by decide)), if_neg (hsk2.2.2 z)]
          rfl
        · rw [show n - i2 = 0 by omega]
          exact gF_e (by show ¬ (1 = 2); decide)
    · have q2 : 6 < bitC (nm ||| nB x) := by
        have q2 : ¬ bitC ((atS u i1).1 9 ||| nB x) ≤ 6 := q2
        rw [h9] at q2
        exact Int32.not_le.mp q2
      refine bad1 ?_
      rw [he, gF_s, hx, hnx, gck, if_neg (by dsimp only; omega), if_pos (by dsimp only; rw [mny, decide_eq_true q2, Bool.true_or])]
      rfl
