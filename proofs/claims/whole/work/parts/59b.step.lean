/-! One byte: what it does to what is noted. -/
def pst (x : Int32) (rt : Bool) (D : pD) : Bool × pD := if x = 61 then (true, D) else if x = 59 then (false, D) else if isSg x = true then (rt, pT x D) else if isNm x = true ∧ rt = true then (rt, pT x D) else if isNm x = true then (rt, pR x D) else (rt, D)
theorem pr_s (f : Nat → Int32) (d i : Nat) (rt : Bool) (D : pD) : pr f (d + 1) i rt D = pr f d (i + 1) (pst (f i) rt D).1 (pst (f i) rt D).2 := by
  rw [pr, pst]
  by_cases c1 : f i = 61
  · rw [if_pos c1, if_pos c1]
  rw [if_neg c1, if_neg c1]
  by_cases c2 : f i = 59
  · rw [if_pos c2, if_pos c2]
  rw [if_neg c2, if_neg c2]
  by_cases c3 : isSg (f i) = true
  · rw [if_pos c3, if_pos c3]
  rw [if_neg c3, if_neg c3]
  by_cases c4 : isNm (f i) = true ∧ rt = true
  · rw [if_pos c4, if_pos c4]
  rw [if_neg c4, if_neg c4]
  by_cases c5 : isNm (f i) = true
  · rw [if_pos c5, if_pos c5]
  rw [if_neg c5, if_neg c5]
theorem gnx_sg {x : Int32} {q q' : gS} (h : isSg x = true) (hq : gnx x q = some q') : q.1 = 2 := by
  obtain ⟨st, r, l, nm, lf, sg⟩ := q
  have a := isSg_ne h
  rw [gnx, if_neg (fun z => by rw [a.2.2.2.2] at z; exact absurd z.1 (by decide)), if_neg (fun z => a.2.1 z.1), if_neg (fun z => a.2.2.1 z.1), if_neg (fun z => by rw [a.2.2.2.2] at z; exact absurd z.1 (by decide))] at hq
  by_cases z : isSg x = true ∧ st = 2
  · exact z.2
  · rw [if_neg z, if_neg a.1] at hq; cases hq
theorem gC_step {x : Int32} {q q' : gS} {D : pD} (h : gC q D) (hq : gnx x q = some q') : gC q' (pst x (decide (q.1 = 2)) D).2 ∧ (pst x (decide (q.1 = 2)) D).1 = decide (q'.1 = 2) := by
  obtain ⟨st, r, l, nm, lf, sg⟩ := q
  rw [gnx] at hq
  show gC q' (pst x (decide (st = 2)) D).2 ∧ (pst x (decide (st = 2)) D).1 = decide (q'.1 = 2)
  by_cases c1 : isNm x = true ∧ st = 0
  · rw [if_pos c1] at hq
    obtain ⟨e, e5, em⟩ := gck_some hq
    obtain ⟨c1, rfl⟩ := c1
    have a := isNm_ne c1
    subst e
    rw [pst, if_neg a.2.1, if_neg a.2.2.1, if_neg (by rw [a.2.2.2.2]; decide), if_neg (fun y => absurd y.2 (by decide)), if_pos c1]
    exact ⟨gC_R h c1 em, rfl⟩
  rw [if_neg c1] at hq
  by_cases c2 : x = 61 ∧ st = 1
  · rw [if_pos c2] at hq
    obtain ⟨e, e5, em⟩ := gck_some hq
    obtain ⟨c2, rfl⟩ := c2
    subst e
    rw [pst, if_pos c2]
    refine ⟨?_, rfl⟩
    obtain ⟨⟨a1, a2, a3, a4, a5, a6, a7⟩, b, c1', c2'⟩ := h
    dsimp only at a1 a2 a3 a4 a5 a6 a7
    exact ⟨⟨by show 2 ≤ 2; omega, fun z => absurd z (by show ¬ (2 = 1); decide), fun _ => a2 rfl, a4, fun z => absurd z (by show ¬ (2 = 0); decide), fun _ => a7 rfl, fun z => absurd z (by show ¬ (2 = 1); decide)⟩, ⟨by show 0 ≤ 5; omega, em⟩, c1', c2'⟩
  rw [if_neg c2] at hq
  by_cases c3 : x = 59 ∧ st = 2 ∧ r < 16
  · rw [if_pos c3] at hq
    obtain ⟨e, e5, em⟩ := gck_some hq
    obtain ⟨c3, rfl, c4⟩ := c3
    subst e
    rw [pst, if_neg (by rw [c3]; decide), if_pos c3]
    refine ⟨?_, rfl⟩
    obtain ⟨⟨a1, a2, a3, a4, a5, a6, a7⟩, b, c1', c2'⟩ := h
    dsimp only at a1 a2 a3 a4 a5 a6 a7
    have e9 : D.1 = r := a3 (by decide)
    exact ⟨⟨by show 0 ≤ 2; omega, fun z => absurd z (by show ¬ (0 = 1); decide), fun _ => e9, a4, fun _ => by show D.1 < 16; omega, fun z => absurd z (by show ¬ (0 = 2); decide), fun z => absurd z (by show ¬ (0 = 1); decide)⟩, b, c1', c2'⟩
  rw [if_neg c3] at hq
  by_cases c4 : isNm x = true ∧ st = 2
  · rw [if_pos c4] at hq
    obtain ⟨e, e5, em⟩ := gck_some hq
    obtain ⟨c4, rfl⟩ := c4
    have a := isNm_ne c4
    subst e
    have e1 : nm1 x nm = nm ||| nB x := by rw [nm1, if_pos c4]
    have e2 : sg1 x sg = sg := by rw [sg1, if_neg (by rw [a.2.2.2.2]; decide)]
    have hg := gC_T h (Or.inl c4) e5 (by rw [e1, e2]; exact em)
    rw [e1, e2] at hg
    rw [pst, if_neg a.2.1, if_neg a.2.2.1, if_neg (by rw [a.2.2.2.2]; decide), if_pos ⟨c4, rfl⟩]
    exact ⟨hg, rfl⟩
  rw [if_neg c4] at hq
  by_cases c5 : isSg x = true ∧ st = 2
  · rw [if_pos c5] at hq
    obtain ⟨e, e5, em⟩ := gck_some hq
    obtain ⟨c5, rfl⟩ := c5
    have a := isSg_ne c5
    subst e
    have e1 : nm1 x nm = nm := by rw [nm1, if_neg (by rw [a.2.2.2.2]; decide)]
    have e2 : sg1 x sg = sg ||| sB x := by rw [sg1, if_pos c5]
    have hg := gC_T h (Or.inr c5) e5 (by rw [e1, e2]; exact em)
    rw [e1, e2] at hg
    rw [pst, if_neg a.2.1, if_neg a.2.2.1, if_pos c5]
    exact ⟨hg, rfl⟩
  rw [if_neg c5] at hq
  by_cases c6 : x = 32
  · rw [if_pos c6] at hq
    obtain ⟨e, e5, em⟩ := gck_some hq
    subst e
    subst c6
    rw [pst, if_neg (by decide), if_neg (by decide), if_neg (by decide), if_neg (fun z => absurd z.1 (by decide)), if_neg (by decide)]
    exact ⟨h, rfl⟩
  · rw [if_neg c6] at hq; cases hq
theorem gF_some {f : Nat → Int32} {d i : Nat} {q : gS} (h : gF f (d + 1) i q = none) : ∃ q', gnx (f i) q = some q' ∧ gF f d (i + 1) q' = none := by
  rw [gF_s] at h
  cases hq : gnx (f i) q with
  | none => rw [hq] at h; cases h
  | some q' => rw [hq] at h; exact ⟨q', rfl, h⟩
