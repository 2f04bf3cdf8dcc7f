/-! A tape without a fault: what it tells. -/
/-- the automaton and what is noted go together -/
def gC (q : gS) (D : pD) : Prop :=
  (q.1 ≤ 2 ∧ (q.1 = 1 → D.1 = q.2.1 + 1) ∧ (q.1 ≠ 1 → D.1 = q.2.1) ∧ D.1 ≤ 16 ∧ (q.1 = 0 → D.1 < 16) ∧ (q.1 = 2 → 1 ≤ D.1 ∧ D.2.2.1 (D.1 - 1) = q.2.2.1) ∧ (q.1 = 1 → 1 ≤ D.1 ∧ D.2.2.1 (D.1 - 1) = 0)) ∧
  (q.2.2.1 ≤ 5 ∧ mny q.2.2.2.1 q.2.2.2.2.2 = false) ∧
  (∀ j, j < D.1 → isNm (D.2.1 j) = true ∧ D.2.2.1 j ≤ 5 ∧ (∀ i, bt (nB (D.2.1 j)) i = true → bt q.2.2.2.2.1 i = true) ∧ ∀ k, k < D.2.2.1 j → (isNm (D.2.2.2 j k) = true ∧ ∀ i, bt (nB (D.2.2.2 j k)) i = true → bt q.2.2.2.1 i = true) ∨ (isSg (D.2.2.2 j k) = true ∧ ∀ i, bt (sB (D.2.2.2 j k)) i = true → bt q.2.2.2.2.2 i = true)) ∧
  (∀ i, bt q.2.2.2.2.1 i = true → ∃ j, j < D.1 ∧ bt (nB (D.2.1 j)) i = true)
theorem gck_some {q q' : gS} (h : gck q = some q') : q = q' ∧ q.2.2.1 ≤ 5 ∧ mny q.2.2.2.1 q.2.2.2.2.2 = false := by
  unfold gck at h
  by_cases z : 5 < q.2.2.1
  · rw [if_pos z] at h; cases h
  · rw [if_neg z] at h
    cases hm : mny q.2.2.2.1 q.2.2.2.2.2 with
    | true => rw [hm, if_pos rfl] at h; cases h
    | false =>
      rw [hm, if_neg (by decide)] at h
      exact ⟨Option.some.inj h, by omega, rfl⟩
theorem or_l {x y : Int32} {i : Nat} (h : bt x i = true) : bt (x ||| y) i = true := by rw [b_or, h, Bool.true_or]
theorem or_r {x y : Int32} {i : Nat} (h : bt y i = true) : bt (x ||| y) i = true := by rw [b_or, h, Bool.or_true]
/-- a letter more -/
theorem gC_T {r l : Nat} {nm lf sg x : Int32} {D : pD} (h : gC (2, r, l, nm, lf, sg) D) (hx : isNm x = true ∨ isSg x = true) (h5 : l + 1 ≤ 5) (hm : mny (nm1 x nm) (sg1 x sg) = false) : gC (2, r, l + 1, nm1 x nm, lf, sg1 x sg) (pT x D) := by
  obtain ⟨⟨a1, a2, a3, a4, a5, a6, a7⟩, ⟨b1, b2⟩, c1, c2⟩ := h
  dsimp only at a1 a2 a3 a4 a5 a6 a7 b1 b2 c1 c2
  obtain ⟨a8, a9⟩ := a6 rfl
  have e0 : (pT x D).2.2.1 (D.1 - 1) = l + 1 := by
    show (if D.1 - 1 + 1 = D.1 then D.2.2.1 (D.1 - 1) + 1 else D.2.2.1 (D.1 - 1)) = _
    rw [if_pos (by omega), a9]
  refine ⟨⟨a1, fun z => absurd z (by show ¬ (2 = 1); decide), a3, a4, fun z => absurd z (by show ¬ (2 = 0); decide), fun _ => ⟨a8, e0⟩, fun z => absurd z (by show ¬ (2 = 1); decide)⟩, ⟨h5, hm⟩, fun j hj => ?_, c2⟩
  have hj : j < D.1 := hj
  obtain ⟨d1, d2, d3, d4⟩ := c1 j hj
  have lift : ∀ y : Int32, ((isNm y = true ∧ ∀ i, bt (nB y) i = true → bt nm i = true) ∨ (isSg y = true ∧ ∀ i, bt (sB y) i = true → bt sg i = true)) → ((isNm y = true ∧ ∀ i, bt (nB y) i = true → bt (nm1 x nm) i = true) ∨ (isSg y = true ∧ ∀ i, bt (sB y) i = true → bt (sg1 x sg) i = true)) := by
    intro y hy
    rcases hy with ⟨u, v⟩ | ⟨u, v⟩
    · refine Or.inl ⟨u, fun i hi => ?_⟩
      unfold nm1
      by_cases z : isNm x = true
      · rw [if_pos z]; exact or_l (v i hi)
      · rw [if_neg z]; exact v i hi
    · refine Or.inr ⟨u, fun i hi => ?_⟩
      unfold sg1
      by_cases z : isSg x = true
      · rw [if_pos z]; exact or_l (v i hi)
      · rw [if_neg z]; exact v i hi
  refine ⟨d1, ?_, d3, fun k hk => ?_⟩
  · show (if j + 1 = D.1 then D.2.2.1 j + 1 else D.2.2.1 j) ≤ 5
    by_cases z : j + 1 = D.1
    · rw [if_pos z, show j = D.1 - 1 by omega, a9]; exact h5
    · rw [if_neg z]; exact d2
  · have hk : k < (if j + 1 = D.1 then D.2.2.1 j + 1 else D.2.2.1 j) := hk
    show (isNm (if j + 1 = D.1 ∧ k = D.2.2.1 j then x else D.2.2.2 j k) = true ∧ ∀ i, bt (nB (if j + 1 = D.1 ∧ k = D.2.2.1 j then x else D.2.2.2 j k)) i = true → bt (nm1 x nm) i = true) ∨ (isSg (if j + 1 = D.1 ∧ k = D.2.2.1 j then x else D.2.2.2 j k) = true ∧ ∀ i, bt (sB (if j + 1 = D.1 ∧ k = D.2.2.1 j then x else D.2.2.2 j k)) i = true → bt (sg1 x sg) i = true)
    by_cases z : j + 1 = D.1 ∧ k = D.2.2.1 j
    · rw [if_pos z]
      rcases hx with hx | hx
      · refine Or.inl ⟨hx, fun i hi => ?_⟩
        unfold nm1
        rw [if_pos hx]; exact or_r hi
      · refine Or.inr ⟨hx, fun i hi => ?_⟩
        unfold sg1
        rw [if_pos hx]; exact or_r hi
    · rw [if_neg z]
      refine lift _ (d4 k ?_)
      by_cases w : j + 1 = D.1
      · rw [if_pos w] at hk
        have : k ≠ D.2.2.1 j := fun y => z ⟨w, y⟩
        omega
      · rw [if_neg w] at hk; exact hk
/-- a left name more -/
theorem gC_R {r l : Nat} {nm lf sg x : Int32} {D : pD} (h : gC (0, r, l, nm, lf, sg) D) (hx : isNm x = true) (hm : mny (nm ||| nB x) sg = false) : gC (1, r, l, nm ||| nB x, lf ||| nB x, sg) (pR x D) := by
  obtain ⟨⟨a1, a2, a3, a4, a5, a6, a7⟩, ⟨b1, b2⟩, c1, c2⟩ := h
  dsimp only at a1 a2 a3 a4 a5 a6 a7 b1 b2 c1 c2
  have e1 : D.1 = r := a3 (by decide)
  have e2 : D.1 < 16 := a5 rfl
  refine ⟨⟨by show 1 ≤ 2; omega, fun _ => by show D.1 + 1 = r + 1; omega, fun z => absurd rfl z, by show D.1 + 1 ≤ 16; omega, fun z => absurd z (by show ¬ (1 = 0); decide), fun z => absurd z (by show ¬ (1 = 2); decide), fun _ => ⟨by show 1 ≤ D.1 + 1; omega, ?_⟩⟩, ⟨b1, hm⟩, fun j hj => ?_, fun i hi => ?_⟩
  · show (if D.1 + 1 - 1 = D.1 then 0 else D.2.2.1 (D.1 + 1 - 1)) = 0
    rw [if_pos (by omega)]
  · have hj : j < D.1 + 1 := hj
    show isNm (if j = D.1 then x else D.2.1 j) = true ∧ (if j = D.1 then 0 else D.2.2.1 j) ≤ 5 ∧ (∀ i, bt (nB (if j = D.1 then x else D.2.1 j)) i = true → bt (lf ||| nB x) i = true) ∧ ∀ k, k < (if j = D.1 then 0 else D.2.2.1 j) → (isNm (D.2.2.2 j k) = true ∧ ∀ i, bt (nB (D.2.2.2 j k)) i = true → bt (nm ||| nB x) i = true) ∨ (isSg (D.2.2.2 j k) = true ∧ ∀ i, bt (sB (D.2.2.2 j k)) i = true → bt sg i = true)
    by_cases z : j = D.1
    · rw [if_pos z, if_pos z]
      exact ⟨hx, by omega, fun i hi => or_r hi, fun k hk => absurd hk (Nat.not_lt_zero _)⟩
    · rw [if_neg z, if_neg z]
      obtain ⟨d1, d2, d3, d4⟩ := c1 j (by omega)
      refine ⟨d1, d2, fun i hi => or_l (d3 i hi), fun k hk => ?_⟩
      rcases d4 k hk with ⟨u, v⟩ | ⟨u, v⟩
      · exact Or.inl ⟨u, fun i hi => or_l (v i hi)⟩
      · exact Or.inr ⟨u, v⟩
  · have hi : bt (lf ||| nB x) i = true := hi
    rw [b_or, Bool.or_eq_true] at hi
    rcases hi with hi | hi
    · obtain ⟨j, p1, p2⟩ := c2 i hi
      refine ⟨j, by show j < D.1 + 1; omega, ?_⟩
      show bt (nB (if j = D.1 then x else D.2.1 j)) i = true
      rw [if_neg (by omega)]
      exact p2
    · refine ⟨D.1, by show D.1 < D.1 + 1; omega, ?_⟩
      show bt (nB (if D.1 = D.1 then x else D.2.1 D.1)) i = true
      rw [if_pos rfl]
      exact hi
theorem gF_pr (f : Nat → Int32) : ∀ d i q D, gC q D → gF f d i q = none → ∃ r l nm, gC (2, r, l, nm, nm, so f d i q.2.2.2.2.2) (pr f d i (decide (q.1 = 2)) D) := by
  intro d
  induction d with
  | zero =>
    intro i q D h hF
    obtain ⟨st, r, l, nm, lf, sg⟩ := q
    rw [gF] at hF
    by_cases z : st = 2 ∧ nm = lf
    · obtain ⟨rfl, rfl⟩ := z
      exact ⟨r, l, nm, h⟩
    · rw [if_neg z] at hF; cases hF
  | succ d ih =>
    intro i q D h hF
    obtain ⟨st, r, l, nm, lf, sg⟩ := q
    rw [gF_s] at hF
    generalize hx : f i = x at hF
    have hF2 : ∃ q', gnx x (st, r, l, nm, lf, sg) = some q' ∧ gF f d (i + 1) q' = none := by
      cases hq : gnx x (st, r, l, nm, lf, sg) with
      | none => rw [hq] at hF; cases hF
      | some q' => rw [hq] at hF; exact ⟨q', rfl, hF⟩
    obtain ⟨q', hq, hF⟩ := hF2
    have hst : st ≤ 2 := h.1.1
    have hso : so f (d + 1) i sg = so f d (i + 1) (sg1 x sg) := by rw [so, hx]; rfl
    rw [gnx] at hq
    show ∃ r0 l0 nm0, gC (2, r0, l0, nm0, nm0, so f (d + 1) i sg) (pr f (d + 1) i (decide (st = 2)) D)
    rw [hso]
    by_cases c1 : isNm x = true ∧ st = 0
    · rw [if_pos c1] at hq
      obtain ⟨e, e5, em⟩ := gck_some hq
      obtain ⟨c1, rfl⟩ := c1
      have a := isNm_ne c1
      subst e
      have h0 := ih (i + 1) _ (pR x D) (gC_R h c1 em) hF
      rw [pr, hx, if_neg a.2.1, if_neg a.2.2.1, if_neg (by rw [a.2.2.2.2]; decide), if_neg (fun y => absurd y.2 (by decide)), if_pos c1, sg1, if_neg (by rw [a.2.2.2.2]; decide)]
      exact h0
    rw [if_neg c1] at hq
    by_cases c2 : x = 61 ∧ st = 1
    · rw [if_pos c2] at hq
      obtain ⟨e, e5, em⟩ := gck_some hq
      obtain ⟨c2, rfl⟩ := c2
      subst e
      have hg : gC (2, r + 1, 0, nm, lf, sg) D := by
        obtain ⟨⟨a1, a2, a3, a4, a5, a6, a7⟩, b, c1', c2'⟩ := h
        dsimp only at a1 a2 a3 a4 a5 a6 a7
        exact ⟨⟨by show 2 ≤ 2; omega, fun z => absurd z (by show ¬ (2 = 1); decide), fun _ => a2 rfl, a4, fun z => absurd z (by show ¬ (2 = 0); decide), fun _ => a7 rfl, fun z => absurd z (by show ¬ (2 = 1); decide)⟩, ⟨by show 0 ≤ 5; omega, em⟩, c1', c2'⟩
      have h0 := ih (i + 1) _ D hg hF
      rw [pr, hx, if_pos c2, sg1, if_neg (by rw [c2]; decide)]
      exact h0
    rw [if_neg c2] at hq
    by_cases c3 : x = 59 ∧ st = 2 ∧ r < 16
    · rw [if_pos c3] at hq
      obtain ⟨e, e5, em⟩ := gck_some hq
      obtain ⟨c3, rfl, c4⟩ := c3
      subst e
      have hg : gC (0, r, l, nm, lf, sg) D := by
        obtain ⟨⟨a1, a2, a3, a4, a5, a6, a7⟩, b, c1', c2'⟩ := h
        dsimp only at a1 a2 a3 a4 a5 a6 a7
        have e9 : D.1 = r := a3 (by decide)
        exact ⟨⟨by show 0 ≤ 2; omega, fun z => absurd z (by show ¬ (0 = 1); decide), fun _ => e9, a4, fun _ => by omega, fun z => absurd z (by show ¬ (0 = 2); decide), fun z => absurd z (by show ¬ (0 = 1); decide)⟩, b, c1', c2'⟩
      have h0 := ih (i + 1) _ D hg hF
      rw [pr, hx, if_neg (by rw [c3]; decide), if_pos c3, sg1, if_neg (by rw [c3]; decide)]
      exact h0
    rw [if_neg c3] at hq
    by_cases c4 : isNm x = true ∧ st = 2
    · rw [if_pos c4] at hq
      obtain ⟨e, e5, em⟩ := gck_some hq
      obtain ⟨c4, rfl⟩ := c4
      have a := isNm_ne c4
      subst e
      have e1 : nm1 x nm = nm ||| nB x := by rw [nm1, if_pos c4]
      have e2 : sg1 x sg = sg := by rw [sg1, if_neg (by rw [a.2.2.2.2]; decide)]
      have hg := gC_T h (Or.inl c4) e5 (by rw [e1, e2]; exact em)
      rw [e1, e2] at hg
      have h0 := ih (i + 1) _ (pT x D) hg hF
      rw [pr, hx, if_neg a.2.1, if_neg a.2.2.1, if_neg (by rw [a.2.2.2.2]; decide), if_pos ⟨c4, rfl⟩, e2]
      exact h0
    rw [if_neg c4] at hq
    by_cases c5 : isSg x = true ∧ st = 2
    · rw [if_pos c5] at hq
      obtain ⟨e, e5, em⟩ := gck_some hq
      obtain ⟨c5, rfl⟩ := c5
      have a := isSg_ne c5
      subst e
      have e1 : nm1 x nm = nm := by rw [nm1, if_neg (by rw [a.2.2.2.2]; decide)]
      have e2 : sg1 x sg = sg ||| sB x := by rw [sg1, if_pos c5]
      have hg := gC_T h (Or.inr c5) e5 (by rw [e1, e2]; exact em)
      rw [e1, e2] at hg
      have h0 := ih (i + 1) _ (pT x D) hg hF
      rw [pr, hx, if_neg a.2.1, if_neg a.2.2.1, if_pos c5, e2]
      exact h0
    rw [if_neg c5] at hq
    by_cases c6 : x = 32
    · rw [if_pos c6] at hq
      obtain ⟨e, e5, em⟩ := gck_some hq
      subst e
      have h0 := ih (i + 1) _ D h hF
      rw [pr_bl (by rw [hx, c6]), sg1, if_neg (by rw [c6]; decide)]
      exact h0
    · rw [if_neg c6] at hq; cases hq
theorem gC_0 : gC gq0 gD0 := by
  refine ⟨⟨by show 0 ≤ 2; omega, fun z => absurd z (by show ¬ (0 = 1); decide), fun _ => rfl, by show 0 ≤ 16; omega, fun _ => by show 0 < 16; omega, fun z => absurd z (by show ¬ (0 = 2); decide), fun z => absurd z (by show ¬ (0 = 1); decide)⟩, ⟨by show 0 ≤ 5; omega, by show mny 0 0 = false; decide +kernel⟩, fun j hj => absurd hj (Nat.not_lt_zero _), fun i hi => ?_⟩
  have hi : bt 0 i = true := hi
  rw [b_0] at hi; cases hi
/-- what a tape without a fault tells -/
theorem tape_ok {f : Nat → Int32} {n : Nat} (h : gF f n 0 gq0 = none) : ∃ r l nm, gC (2, r, l, nm, nm, so f n 0 0) (pr f n 0 false gD0) := gF_pr f n 0 gq0 gD0 gC_0 h
