/-! Arrays.fill of rows of the class. -/
theorem x_fill_8 (s : SX) (v : Int32) : EvQ ZX mJ7_fill_53178 [.ref 8, .int v] s (fun r s' => r = none ∧ frX [] [8] s s' ∧ ∀ j, j < 26 → s'.2.1 8 j = v) := by
  refine EQ_T vJ7_fill_53178 rfl ?_
  have key : ∀ d i u, i + d = 26 → frX [] [8] s u → (∀ j, j < i → u.2.1 8 j = v) → RnQ ZX mJ7_fill_53178 (5, [some (.ref 8), some (.int v), some (.int (nI i)), some (.int (nI 26))], [], u) (fun r s' => r = none ∧ frX [] [8] s s' ∧ ∀ j, j < 26 → s'.2.1 8 j = v) := by
    intro d
    induction d with
    | zero =>
      intro i u hd h1 h2
      have hi : i = 26 := by omega
      subst hi
      refine RQ_n ZX_ok 2 rfl trivial ?_
      refine RQ_b rfl (fun _ => ?_) (fun q => absurd (Int32.le_refl _) q)
      exact RQ_to (Rn_vret rfl rfl) ⟨rfl, h1, h2⟩
    | succ d ih =>
      intro i u hd h1 h2
      have hic : (nI i).toNatClampNeg = i := nI_clamp (by omega)
      refine RQ_n ZX_ok 2 rfl trivial ?_
      refine RQ_b rfl (fun q => absurd (show nI 26 ≤ nI i from q) (nI_ge (by omega) (by omega))) (fun _ => ?_)
      refine RQ_n ZX_ok 6 rfl ⟨nI_in (by omega) (by omega), trivial⟩ ?_
      have h0 := ih (i + 1) (u.1, updA u.2.1 8 (nI i).toNatClampNeg v, u.2.2) (by omega) (h1.tr (frX.a 8 (by decide))) (fun j hj => by
        show upd (u.2.1 8) (nI i).toNatClampNeg v j = v
        rw [hic]
        by_cases z : j = i
        · rw [z, upd_at]
        · rw [upd_ne z]
          exact h2 j (by omega))
      rw [nI_succ] at h0
      exact h0
  refine RQ_n ZX_ok 5 rfl trivial ?_
  exact key 26 0 s (by omega) frX.rf (fun j hj => absurd hj (Nat.not_lt_zero _))
theorem x_fill_10 (s : SX) (v : Int32) : EvQ ZX mJ7_fill_53178 [.ref 10, .int v] s (fun r s' => r = none ∧ frX [] [10] s s' ∧ ∀ j, j < 26 → s'.2.1 10 j = v) := by
  refine EQ_T vJ7_fill_53178 rfl ?_
  have key : ∀ d i u, i + d = 26 → frX [] [10] s u → (∀ j, j < i → u.2.1 10 j = v) → RnQ ZX mJ7_fill_53178 (5, [some (.ref 10), some (.int v), some (.int (nI i)), some (.int (nI 26))], [], u) (fun r s' => r = none ∧ frX [] [10] s s' ∧ ∀ j, j < 26 → s'.2.1 10 j = v) := by
    intro d
    induction d with
    | zero =>
      intro i u hd h1 h2
      have hi : i = 26 := by omega
      subst hi
      refine RQ_n ZX_ok 2 rfl trivial ?_
      refine RQ_b rfl (fun _ => ?_) (fun q => absurd (Int32.le_refl _) q)
      exact RQ_to (Rn_vret rfl rfl) ⟨rfl, h1, h2⟩
    | succ d ih =>
      intro i u hd h1 h2
      have hic : (nI i).toNatClampNeg = i := nI_clamp (by omega)
      refine RQ_n ZX_ok 2 rfl trivial ?_
      refine RQ_b rfl (fun q => absurd (show nI 26 ≤ nI i from q) (nI_ge (by omega) (by omega))) (fun _ => ?_)
      refine RQ_n ZX_ok 6 rfl ⟨nI_in (by omega) (by omega), trivial⟩ ?_
      have h0 := ih (i + 1) (u.1, updA u.2.1 10 (nI i).toNatClampNeg v, u.2.2) (by omega) (h1.tr (frX.a 10 (by decide))) (fun j hj => by
        show upd (u.2.1 10) (nI i).toNatClampNeg v j = v
        rw [hic]
        by_cases z : j = i
        · rw [z, upd_at]
        · rw [upd_ne z]
          exact h2 j (by omega))
      rw [nI_succ] at h0
      exact h0
  refine RQ_n ZX_ok 5 rfl trivial ?_
  exact key 26 0 s (by omega) frX.rf (fun j hj => absurd hj (Nat.not_lt_zero _))
theorem x_fill_15 (s : SX) (v : Int32) : EvQ ZX mJ7_fill_53178 [.ref 15, .int v] s (fun r s' => r = none ∧ frX [] [15] s s' ∧ ∀ j, j < 6 → s'.2.1 15 j = v) := by
  refine EQ_T vJ7_fill_53178 rfl ?_
  have key : ∀ d i u, i + d = 6 → frX [] [15] s u → (∀ j, j < i → u.2.1 15 j = v) → RnQ ZX mJ7_fill_53178 (5, [some (.ref 15), some (.int v), some (.int (nI i)), some (.int (nI 6))], [], u) (fun r s' => r = none ∧ frX [] [15] s s' ∧ ∀ j, j < 6 → s'.2.1 15 j = v) := by
    intro d
    induction d with
    | zero =>
      intro i u hd h1 h2
      have hi : i = 6 := by omega
      subst hi
      refine RQ_n ZX_ok 2 rfl trivial ?_
      refine RQ_b rfl (fun _ => ?_) (fun q => absurd (Int32.le_refl _) q)
      exact RQ_to (Rn_vret rfl rfl) ⟨rfl, h1, h2⟩
    | succ d ih =>
      intro i u hd h1 h2
      have hic : (nI i).toNatClampNeg = i := nI_clamp (by omega)
      refine RQ_n ZX_ok 2 rfl trivial ?_
      refine RQ_b rfl (fun q => absurd (show nI 6 ≤ nI i from q) (nI_ge (by omega) (by omega))) (fun _ => ?_)
      refine RQ_n ZX_ok 6 rfl ⟨nI_in (by omega) (by omega), trivial⟩ ?_
      have h0 := ih (i + 1) (u.1, updA u.2.1 15 (nI i).toNatClampNeg v, u.2.2) (by omega) (h1.tr (frX.a 15 (by decide))) (fun j hj => by
        show upd (u.2.1 15) (nI i).toNatClampNeg v j = v
        rw [hic]
        by_cases z : j = i
        · rw [z, upd_at]
        · rw [upd_ne z]
          exact h2 j (by omega))
      rw [nI_succ] at h0
      exact h0
  refine RQ_n ZX_ok 5 rfl trivial ?_
  exact key 6 0 s (by omega) frX.rf (fun j hj => absurd hj (Nat.not_lt_zero _))
theorem x_fill_16 (s : SX) (v : Int32) : EvQ ZX mJ7_fill_53178 [.ref 16, .int v] s (fun r s' => r = none ∧ frX [] [16] s s' ∧ ∀ j, j < 6 → s'.2.1 16 j = v) := by
  refine EQ_T vJ7_fill_53178 rfl ?_
  have key : ∀ d i u, i + d = 6 → frX [] [16] s u → (∀ j, j < i → u.2.1 16 j = v) → RnQ ZX mJ7_fill_53178 (5, [some (.ref 16), some (.int v), some (.int (nI i)), some (.int (nI 6))], [], u) (fun r s' => r = none ∧ frX [] [16] s s' ∧ ∀ j, j < 6 → s'.2.1 16 j = v) := by
    intro d
    induction d with
    | zero =>
      intro i u hd h1 h2
      have hi : i = 6 := by omega
      subst hi
      refine RQ_n ZX_ok 2 rfl trivial ?_
      refine RQ_b rfl (fun _ => ?_) (fun q => absurd (Int32.le_refl _) q)
      exact RQ_to (Rn_vret rfl rfl) ⟨rfl, h1, h2⟩
    | succ d ih =>
      intro i u hd h1 h2
      have hic : (nI i).toNatClampNeg = i := nI_clamp (by omega)
      refine RQ_n ZX_ok 2 rfl trivial ?_
      refine RQ_b rfl (fun q => absurd (show nI 6 ≤ nI i from q) (nI_ge (by omega) (by omega))) (fun _ => ?_)
      refine RQ_n ZX_ok 6 rfl ⟨nI_in (by omega) (by omega), trivial⟩ ?_
      have h0 := ih (i + 1) (u.1, updA u.2.1 16 (nI i).toNatClampNeg v, u.2.2) (by omega) (h1.tr (frX.a 16 (by decide))) (fun j hj => by
        show upd (u.2.1 16) (nI i).toNatClampNeg v j = v
        rw [hic]
        by_cases z : j = i
        · rw [z, upd_at]
        · rw [upd_ne z]
          exact h2 j (by omega))
      rw [nI_succ] at h0
      exact h0
  refine RQ_n ZX_ok 5 rfl trivial ?_
  exact key 6 0 s (by omega) frX.rf (fun j hj => absurd hj (Nat.not_lt_zero _))
theorem x_fill_17 (s : SX) (v : Int32) : EvQ ZX mJ7_fill_53178 [.ref 17, .int v] s (fun r s' => r = none ∧ frX [] [17] s s' ∧ ∀ j, j < 6 → s'.2.1 17 j = v) := by
  refine EQ_T vJ7_fill_53178 rfl ?_
  have key : ∀ d i u, i + d = 6 → frX [] [17] s u → (∀ j, j < i → u.2.1 17 j = v) → RnQ ZX mJ7_fill_53178 (5, [some (.ref 17), some (.int v), some (.int (nI i)), some (.int (nI 6))], [], u) (fun r s' => r = none ∧ frX [] [17] s s' ∧ ∀ j, j < 6 → s'.2.1 17 j = v) := by
    intro d
    induction d with
    | zero =>
      intro i u hd h1 h2
      have hi : i = 6 := by omega
      subst hi
      refine RQ_n ZX_ok 2 rfl trivial ?_
      refine RQ_b rfl (fun _ => ?_) (fun q => absurd (Int32.le_refl _) q)
      exact RQ_to (Rn_vret rfl rfl) ⟨rfl, h1, h2⟩
    | succ d ih =>
      intro i u hd h1 h2
      have hic : (nI i).toNatClampNeg = i := nI_clamp (by omega)
      refine RQ_n ZX_ok 2 rfl trivial ?_
      refine RQ_b rfl (fun q => absurd (show nI 6 ≤ nI i from q) (nI_ge (by omega) (by omega))) (fun _ => ?_)
      refine RQ_n ZX_ok 6 rfl ⟨nI_in (by omega) (by omega), trivial⟩ ?_
      have h0 := ih (i + 1) (u.1, updA u.2.1 17 (nI i).toNatClampNeg v, u.2.2) (by omega) (h1.tr (frX.a 17 (by decide))) (fun j hj => by
        show upd (u.2.1 17) (nI i).toNatClampNeg v j = v
        rw [hic]
        by_cases z : j = i
        · rw [z, upd_at]
        · rw [upd_ne z]
          exact h2 j (by omega))
      rw [nI_succ] at h0
      exact h0
  refine RQ_n ZX_ok 5 rfl trivial ?_
  exact key 6 0 s (by omega) frX.rf (fun j hj => absurd hj (Nat.not_lt_zero _))
theorem x_fill_19 (s : SX) (v : Int32) : EvQ ZX mJ7_fill_53178 [.ref 19, .int v] s (fun r s' => r = none ∧ frX [] [19] s s' ∧ ∀ j, j < 6 → s'.2.1 19 j = v) := by
  refine EQ_T vJ7_fill_53178 rfl ?_
  have key : ∀ d i u, i + d = 6 → frX [] [19] s u → (∀ j, j < i → u.2.1 19 j = v) → RnQ ZX mJ7_fill_53178 (5, [some (.ref 19), some (.int v), some (.int (nI i)), some (.int (nI 6))], [], u) (fun r s' => r = none ∧ frX [] [19] s s' ∧ ∀ j, j < 6 → s'.2.1 19 j = v) := by
    intro d
    induction d with
    | zero =>
      intro i u hd h1 h2
      have hi : i = 6 := by omega
      subst hi
      refine RQ_n ZX_ok 2 rfl trivial ?_
      refine RQ_b rfl (fun _ => ?_) (fun q => absurd (Int32.le_refl _) q)
      exact RQ_to (Rn_vret rfl rfl) ⟨rfl, h1, h2⟩
    | succ d ih =>
      intro i u hd h1 h2
      have hic : (nI i).toNatClampNeg = i := nI_clamp (by omega)
      refine RQ_n ZX_ok 2 rfl trivial ?_
      refine RQ_b rfl (fun q => absurd (show nI 6 ≤ nI i from q) (nI_ge (by omega) (by omega))) (fun _ => ?_)
      refine RQ_n ZX_ok 6 rfl ⟨nI_in (by omega) (by omega), trivial⟩ ?_
      have h0 := ih (i + 1) (u.1, updA u.2.1 19 (nI i).toNatClampNeg v, u.2.2) (by omega) (h1.tr (frX.a 19 (by decide))) (fun j hj => by
        show upd (u.2.1 19) (nI i).toNatClampNeg v j = v
        rw [hic]
        by_cases z : j = i
        · rw [z, upd_at]
        · rw [upd_ne z]
          exact h2 j (by omega))
      rw [nI_succ] at h0
      exact h0
  refine RQ_n ZX_ok 5 rfl trivial ?_
  exact key 6 0 s (by omega) frX.rf (fun j hj => absurd hj (Nat.not_lt_zero _))
theorem x_fill_20 (s : SX) (v : Int32) : EvQ ZX mJ7_fill_53178 [.ref 20, .int v] s (fun r s' => r = none ∧ frX [] [20] s s' ∧ ∀ j, j < 378 → s'.2.1 20 j = v) := by
  refine EQ_T vJ7_fill_53178 rfl ?_
  have key : ∀ d i u, i + d = 378 → frX [] [20] s u → (∀ j, j < i → u.2.1 20 j = v) → RnQ ZX mJ7_fill_53178 (5, [some (.ref 20), some (.int v), some (.int (nI i)), some (.int (nI 378))], [], u) (fun r s' => r = none ∧ frX [] [20] s s' ∧ ∀ j, j < 378 → s'.2.1 20 j = v) := by
    intro d
    induction d with
    | zero =>
      intro i u hd h1 h2
      have hi : i = 378 := by omega
      subst hi
      refine RQ_n ZX_ok 2 rfl trivial ?_
      refine RQ_b rfl (fun _ => ?_) (fun q => absurd (Int32.le_refl _) q)
      exact RQ_to (Rn_vret rfl rfl) ⟨rfl, h1, h2⟩
    | succ d ih =>
      intro i u hd h1 h2
      have hic : (nI i).toNatClampNeg = i := nI_clamp (by omega)
      refine RQ_n ZX_ok 2 rfl trivial ?_
      refine RQ_b rfl (fun q => absurd (show nI 378 ≤ nI i from q) (nI_ge (by omega) (by omega))) (fun _ => ?_)
      refine RQ_n ZX_ok 6 rfl ⟨nI_in (by omega) (by omega), trivial⟩ ?_
      have h0 := ih (i + 1) (u.1, updA u.2.1 20 (nI i).toNatClampNeg v, u.2.2) (by omega) (h1.tr (frX.a 20 (by decide))) (fun j hj => by
        show upd (u.2.1 20) (nI i).toNatClampNeg v j = v
        rw [hic]
        by_cases z : j = i
        · rw [z, upd_at]
        · rw [upd_ne z]
          exact h2 j (by omega))
      rw [nI_succ] at h0
      exact h0
  refine RQ_n ZX_ok 5 rfl trivial ?_
  exact key 378 0 s (by omega) frX.rf (fun j hj => absurd hj (Nat.not_lt_zero _))
theorem x_fill_27 (s : SX) (v : Int32) : EvQ ZX mJ7_fill_53178 [.ref 27, .int v] s (fun r s' => r = none ∧ frX [] [27] s s' ∧ ∀ j, j < 200 → s'.2.1 27 j = v) := by
  refine EQ_T vJ7_fill_53178 rfl ?_
  have key : ∀ d i u, i + d = 200 → frX [] [27] s u → (∀ j, j < i → u.2.1 27 j = v) → RnQ ZX mJ7_fill_53178 (5, [some (.ref 27), some (.int v), some (.int (nI i)), some (.int (nI 200))], [], u) (fun r s' => r = none ∧ frX [] [27] s s' ∧ ∀ j, j < 200 → s'.2.1 27 j = v) := by
    intro d
    induction d with
    | zero =>
      intro i u hd h1 h2
      have hi : i = 200 := by omega
      subst hi
      refine RQ_n ZX_ok 2 rfl trivial ?_
      refine RQ_b rfl (fun _ => ?_) (fun q => absurd (Int32.le_refl _) q)
      exact RQ_to (Rn_vret rfl rfl) ⟨rfl, h1, h2⟩
    | succ d ih =>
      intro i u hd h1 h2
      have hic : (nI i).toNatClampNeg = i := nI_clamp (by omega)
      refine RQ_n ZX_ok 2 rfl trivial ?_
      refine RQ_b rfl (fun q => absurd (show nI 200 ≤ nI i from q) (nI_ge (by omega) (by omega))) (fun _ => ?_)
      refine RQ_n ZX_ok 6 rfl ⟨nI_in (by omega) (by omega), trivial⟩ ?_
      have h0 := ih (i + 1) (u.1, updA u.2.1 27 (nI i).toNatClampNeg v, u.2.2) (by omega) (h1.tr (frX.a 27 (by decide))) (fun j hj => by
        show upd (u.2.1 27) (nI i).toNatClampNeg v j = v
        rw [hic]
        by_cases z : j = i
        · rw [z, upd_at]
        · rw [upd_ne z]
          exact h2 j (by omega))
      rw [nI_succ] at h0
      exact h0
  refine RQ_n ZX_ok 5 rfl trivial ?_
  exact key 200 0 s (by omega) frX.rf (fun j hj => absurd hj (Nat.not_lt_zero _))
theorem x_fill_43 (s : SX) (v : Int32) : EvQ ZX mJ7_fill_53178 [.ref 43, .int v] s (fun r s' => r = none ∧ frX [] [43] s s' ∧ ∀ j, j < 200 → s'.2.1 43 j = v) := by
  refine EQ_T vJ7_fill_53178 rfl ?_
  have key : ∀ d i u, i + d = 200 → frX [] [43] s u → (∀ j, j < i → u.2.1 43 j = v) → RnQ ZX mJ7_fill_53178 (5, [some (.ref 43), some (.int v), some (.int (nI i)), some (.int (nI 200))], [], u) (fun r s' => r = none ∧ frX [] [43] s s' ∧ ∀ j, j < 200 → s'.2.1 43 j = v) := by
    intro d
    induction d with
    | zero =>
      intro i u hd h1 h2
      have hi : i = 200 := by omega
      subst hi
      refine RQ_n ZX_ok 2 rfl trivial ?_
      refine RQ_b rfl (fun _ => ?_) (fun q => absurd (Int32.le_refl _) q)
      exact RQ_to (Rn_vret rfl rfl) ⟨rfl, h1, h2⟩
    | succ d ih =>
      intro i u hd h1 h2
      have hic : (nI i).toNatClampNeg = i := nI_clamp (by omega)
      refine RQ_n ZX_ok 2 rfl trivial ?_
      refine RQ_b rfl (fun q => absurd (show nI 200 ≤ nI i from q) (nI_ge (by omega) (by omega))) (fun _ => ?_)
      refine RQ_n ZX_ok 6 rfl ⟨nI_in (by omega) (by omega), trivial⟩ ?_
      have h0 := ih (i + 1) (u.1, updA u.2.1 43 (nI i).toNatClampNeg v, u.2.2) (by omega) (h1.tr (frX.a 43 (by decide))) (fun j hj => by
        show upd (u.2.1 43) (nI i).toNatClampNeg v j = v
        rw [hic]
        by_cases z : j = i
        · rw [z, upd_at]
        · rw [upd_ne z]
          exact h2 j (by omega))
      rw [nI_succ] at h0
      exact h0
  refine RQ_n ZX_ok 5 rfl trivial ?_
  exact key 200 0 s (by omega) frX.rf (fun j hj => absurd hj (Nat.not_lt_zero _))
theorem x_fill_60 (s : SX) (v : Int32) : EvQ ZX mJ7_fill_53178 [.ref 60, .int v] s (fun r s' => r = none ∧ frX [] [60] s s' ∧ ∀ j, j < 200 → s'.2.1 60 j = v) := by
  refine EQ_T vJ7_fill_53178 rfl ?_
  have key : ∀ d i u, i + d = 200 → frX [] [60] s u → (∀ j, j < i → u.2.1 60 j = v) → RnQ ZX mJ7_fill_53178 (5, [some (.ref 60), some (.int v), some (.int (nI i)), some (.int (nI 200))], [], u) (fun r s' => r = none ∧ frX [] [60] s s' ∧ ∀ j, j < 200 → s'.2.1 60 j = v) := by
    intro d
    induction d with
    | zero =>
      intro i u hd h1 h2
      have hi : i = 200 := by omega
      subst hi
      refine RQ_n ZX_ok 2 rfl trivial ?_
      refine RQ_b rfl (fun _ => ?_) (fun q => absurd (Int32.le_refl _) q)
      exact RQ_to (Rn_vret rfl rfl) ⟨rfl, h1, h2⟩
    | succ d ih =>
      intro i u hd h1 h2
      have hic : (nI i).toNatClampNeg = i := nI_clamp (by omega)
      refine RQ_n ZX_ok 2 rfl trivial ?_
      refine RQ_b rfl (fun q => absurd (show nI 200 ≤ nI i from q) (nI_ge (by omega) (by omega))) (fun _ => ?_)
      refine RQ_n ZX_ok 6 rfl ⟨nI_in (by omega) (by omega), trivial⟩ ?_
      have h0 := ih (i + 1) (u.1, updA u.2.1 60 (nI i).toNatClampNeg v, u.2.2) (by omega) (h1.tr (frX.a 60 (by decide))) (fun j hj => by
        show upd (u.2.1 60) (nI i).toNatClampNeg v j = v
        rw [hic]
        by_cases z : j = i
        · rw [z, upd_at]
        · rw [upd_ne z]
          exact h2 j (by omega))
      rw [nI_succ] at h0
      exact h0
  refine RQ_n ZX_ok 5 rfl trivial ?_
  exact key 200 0 s (by omega) frX.rf (fun j hj => absurd hj (Nat.not_lt_zero _))
theorem x_fill_77 (s : SX) (v : Int32) : EvQ ZX mJ7_fill_53178 [.ref 77, .int v] s (fun r s' => r = none ∧ frX [] [77] s s' ∧ ∀ j, j < 200 → s'.2.1 77 j = v) := by
  refine EQ_T vJ7_fill_53178 rfl ?_
  have key : ∀ d i u, i + d = 200 → frX [] [77] s u → (∀ j, j < i → u.2.1 77 j = v) → RnQ ZX mJ7_fill_53178 (5, [some (.ref 77), some (.int v), some (.int (nI i)), some (.int (nI 200))], [], u) (fun r s' => r = none ∧ frX [] [77] s s' ∧ ∀ j, j < 200 → s'.2.1 77 j = v) := by
    intro d
    induction d with
    | zero =>
      intro i u hd h1 h2
      have hi : i = 200 := by omega
      subst hi
      refine RQ_n ZX_ok 2 rfl trivial ?_
      refine RQ_b rfl (fun _ => ?_) (fun q => absurd (Int32.le_refl _) q)
      exact RQ_to (Rn_vret rfl rfl) ⟨rfl, h1, h2⟩
    | succ d ih =>
      intro i u hd h1 h2
      have hic : (nI i).toNatClampNeg = i := nI_clamp (by omega)
      refine RQ_n ZX_ok 2 rfl trivial ?_
      refine RQ_b rfl (fun q => absurd (show nI 200 ≤ nI i from q) (nI_ge (by omega) (by omega))) (fun _ => ?_)
      refine RQ_n ZX_ok 6 rfl ⟨nI_in (by omega) (by omega), trivial⟩ ?_
      have h0 := ih (i + 1) (u.1, updA u.2.1 77 (nI i).toNatClampNeg v, u.2.2) (by omega) (h1.tr (frX.a 77 (by decide))) (fun j hj => by
        show upd (u.2.1 77) (nI i).toNatClampNeg v j = v
        rw [hic]
        by_cases z : j = i
        · rw [z, upd_at]
        · rw [upd_ne z]
          exact h2 j (by omega))
      rw [nI_succ] at h0
      exact h0
  refine RQ_n ZX_ok 5 rfl trivial ?_
  exact key 200 0 s (by omega) frX.rf (fun j hj => absurd hj (Nat.not_lt_zero _))
theorem x_fill_46 (s : SX) (v : Int32) : EvQ ZX mJ7_fill_53178 [.ref 46, .int v] s (fun r s' => r = none ∧ frX [] [46] s s' ∧ ∀ j, j < 200 → s'.2.1 46 j = v) := by
  refine EQ_T vJ7_fill_53178 rfl ?_
  have key : ∀ d i u, i + d = 200 → frX [] [46] s u → (∀ j, j < i → u.2.1 46 j = v) → RnQ ZX mJ7_fill_53178 (5, [some (.ref 46), some (.int v), some (.int (nI i)), some (.int (nI 200))], [], u) (fun r s' => r = none ∧ frX [] [46] s s' ∧ ∀ j, j < 200 → s'.2.1 46 j = v) := by
    intro d
    induction d with
    | zero =>
      intro i u hd h1 h2
      have hi : i = 200 := by omega
      subst hi
      refine RQ_n ZX_ok 2 rfl trivial ?_
      refine RQ_b rfl (fun _ => ?_) (fun q => absurd (Int32.le_refl _) q)
      exact RQ_to (Rn_vret rfl rfl) ⟨rfl, h1, h2⟩
    | succ d ih =>
      intro i u hd h1 h2
      have hic : (nI i).toNatClampNeg = i := nI_clamp (by omega)
      refine RQ_n ZX_ok 2 rfl trivial ?_
      refine RQ_b rfl (fun q => absurd (show nI 200 ≤ nI i from q) (nI_ge (by omega) (by omega))) (fun _ => ?_)
      refine RQ_n ZX_ok 6 rfl ⟨nI_in (by omega) (by omega), trivial⟩ ?_
      have h0 := ih (i + 1) (u.1, updA u.2.1 46 (nI i).toNatClampNeg v, u.2.2) (by omega) (h1.tr (frX.a 46 (by decide))) (fun j hj => by
        show upd (u.2.1 46) (nI i).toNatClampNeg v j = v
        rw [hic]
        by_cases z : j = i
        · rw [z, upd_at]
        · rw [upd_ne z]
          exact h2 j (by omega))
      rw [nI_succ] at h0
      exact h0
  refine RQ_n ZX_ok 5 rfl trivial ?_
  exact key 200 0 s (by omega) frX.rf (fun j hj => absurd hj (Nat.not_lt_zero _))
theorem x_fill_63 (s : SX) (v : Int32) : EvQ ZX mJ7_fill_53178 [.ref 63, .int v] s (fun r s' => r = none ∧ frX [] [63] s s' ∧ ∀ j, j < 200 → s'.2.1 63 j = v) := by
  refine EQ_T vJ7_fill_53178 rfl ?_
  have key : ∀ d i u, i + d = 200 → frX [] [63] s u → (∀ j, j < i → u.2.1 63 j = v) → RnQ ZX mJ7_fill_53178 (5, [some (.ref 63), some (.int v), some (.int (nI i)), some (.int (nI 200))], [], u) (fun r s' => r = none ∧ frX [] [63] s s' ∧ ∀ j, j < 200 → s'.2.1 63 j = v) := by
    intro d
    induction d with
    | zero =>
      intro i u hd h1 h2
      have hi : i = 200 := by omega
      subst hi
      refine RQ_n ZX_ok 2 rfl trivial ?_
      refine RQ_b rfl (fun _ => ?_) (fun q => absurd (Int32.le_refl _) q)
      exact RQ_to (Rn_vret rfl rfl) ⟨rfl, h1, h2⟩
    | succ d ih =>
      intro i u hd h1 h2
      have hic : (nI i).toNatClampNeg = i := nI_clamp (by omega)
      refine RQ_n ZX_ok 2 rfl trivial ?_
      refine RQ_b rfl (fun q => absurd (show nI 200 ≤ nI i from q) (nI_ge (by omega) (by omega))) (fun _ => ?_)
      refine RQ_n ZX_ok 6 rfl ⟨nI_in (by omega) (by omega), trivial⟩ ?_
      have h0 := ih (i + 1) (u.1, updA u.2.1 63 (nI i).toNatClampNeg v, u.2.2) (by omega) (h1.tr (frX.a 63 (by decide))) (fun j hj => by
        show upd (u.2.1 63) (nI i).toNatClampNeg v j = v
        rw [hic]
        by_cases z : j = i
        · rw [z, upd_at]
        · rw [upd_ne z]
          exact h2 j (by omega))
      rw [nI_succ] at h0
      exact h0
  refine RQ_n ZX_ok 5 rfl trivial ?_
  exact key 200 0 s (by omega) frX.rf (fun j hj => absurd hj (Nat.not_lt_zero _))
theorem x_fill_80 (s : SX) (v : Int32) : EvQ ZX mJ7_fill_53178 [.ref 80, .int v] s (fun r s' => r = none ∧ frX [] [80] s s' ∧ ∀ j, j < 200 → s'.2.1 80 j = v) := by
  refine EQ_T vJ7_fill_53178 rfl ?_
  have key : ∀ d i u, i + d = 200 → frX [] [80] s u → (∀ j, j < i → u.2.1 80 j = v) → RnQ ZX mJ7_fill_53178 (5, [some (.ref 80), some (.int v), some (.int (nI i)), some (.int (nI 200))], [], u) (fun r s' => r = none ∧ frX [] [80] s s' ∧ ∀ j, j < 200 → s'.2.1 80 j = v) := by
    intro d
    induction d with
    | zero =>
      intro i u hd h1 h2
      have hi : i = 200 := by omega
      subst hi
      refine RQ_n ZX_ok 2 rfl trivial ?_
      refine RQ_b rfl (fun _ => ?_) (fun q => absurd (Int32.le_refl _) q)
      exact RQ_to (Rn_vret rfl rfl) ⟨rfl, h1, h2⟩
    | succ d ih =>
      intro i u hd h1 h2
      have hic : (nI i).toNatClampNeg = i := nI_clamp (by omega)
      refine RQ_n ZX_ok 2 rfl trivial ?_
      refine RQ_b rfl (fun q => absurd (show nI 200 ≤ nI i from q) (nI_ge (by omega) (by omega))) (fun _ => ?_)
      refine RQ_n ZX_ok 6 rfl ⟨nI_in (by omega) (by omega), trivial⟩ ?_
      have h0 := ih (i + 1) (u.1, updA u.2.1 80 (nI i).toNatClampNeg v, u.2.2) (by omega) (h1.tr (frX.a 80 (by decide))) (fun j hj => by
        show upd (u.2.1 80) (nI i).toNatClampNeg v j = v
        rw [hic]
        by_cases z : j = i
        · rw [z, upd_at]
        · rw [upd_ne z]
          exact h2 j (by omega))
      rw [nI_succ] at h0
      exact h0
  refine RQ_n ZX_ok 5 rfl trivial ?_
  exact key 200 0 s (by omega) frX.rf (fun j hj => absurd hj (Nat.not_lt_zero _))
theorem x_fill_51 (s : SX) (v : Int32) : EvQ ZX mJ7_fill_53178 [.ref 51, .int v] s (fun r s' => r = none ∧ frX [] [51] s s' ∧ ∀ j, j < 9 → s'.2.1 51 j = v) := by
  refine EQ_T vJ7_fill_53178 rfl ?_
  have key : ∀ d i u, i + d = 9 → frX [] [51] s u → (∀ j, j < i → u.2.1 51 j = v) → RnQ ZX mJ7_fill_53178 (5, [some (.ref 51), some (.int v), some (.int (nI i)), some (.int (nI 9))], [], u) (fun r s' => r = none ∧ frX [] [51] s s' ∧ ∀ j, j < 9 → s'.2.1 51 j = v) := by
    intro d
    induction d with
    | zero =>
      intro i u hd h1 h2
      have hi : i = 9 := by omega
      subst hi
      refine RQ_n ZX_ok 2 rfl trivial ?_
      refine RQ_b rfl (fun _ => ?_) (fun q => absurd (Int32.le_refl _) q)
      exact RQ_to (Rn_vret rfl rfl) ⟨rfl, h1, h2⟩
    | succ d ih =>
      intro i u hd h1 h2
      have hic : (nI i).toNatClampNeg = i := nI_clamp (by omega)
      refine RQ_n ZX_ok 2 rfl trivial ?_
      refine RQ_b rfl (fun q => absurd (show nI 9 ≤ nI i from q) (nI_ge (by omega) (by omega))) (fun _ => ?_)
      refine RQ_n ZX_ok 6 rfl ⟨nI_in (by omega) (by omega), trivial⟩ ?_
      have h0 := ih (i + 1) (u.1, updA u.2.1 51 (nI i).toNatClampNeg v, u.2.2) (by omega) (h1.tr (frX.a 51 (by decide))) (fun j hj => by
        show upd (u.2.1 51) (nI i).toNatClampNeg v j = v
        rw [hic]
        by_cases z : j = i
        · rw [z, upd_at]
        · rw [upd_ne z]
          exact h2 j (by omega))
      rw [nI_succ] at h0
      exact h0
  refine RQ_n ZX_ok 5 rfl trivial ?_
  exact key 9 0 s (by omega) frX.rf (fun j hj => absurd hj (Nat.not_lt_zero _))
theorem x_fill_68 (s : SX) (v : Int32) : EvQ ZX mJ7_fill_53178 [.ref 68, .int v] s (fun r s' => r = none ∧ frX [] [68] s s' ∧ ∀ j, j < 9 → s'.2.1 68 j = v) := by
  refine EQ_T vJ7_fill_53178 rfl ?_
  have key : ∀ d i u, i + d = 9 → frX [] [68] s u → (∀ j, j < i → u.2.1 68 j = v) → RnQ ZX mJ7_fill_53178 (5, [some (.ref 68), some (.int v), some (.int (nI i)), some (.int (nI 9))], [], u) (fun r s' => r = none ∧ frX [] [68] s s' ∧ ∀ j, j < 9 → s'.2.1 68 j = v) := by
    intro d
    induction d with
    | zero =>
      intro i u hd h1 h2
      have hi : i = 9 := by omega
      subst hi
      refine RQ_n ZX_ok 2 rfl trivial ?_
      refine RQ_b rfl (fun _ => ?_) (fun q => absurd (Int32.le_refl _) q)
      exact RQ_to (Rn_vret rfl rfl) ⟨rfl, h1, h2⟩
    | succ d ih =>
      intro i u hd h1 h2
      have hic : (nI i).toNatClampNeg = i := nI_clamp (by omega)
      refine RQ_n ZX_ok 2 rfl trivial ?_
      refine RQ_b rfl (fun q => absurd (show nI 9 ≤ nI i from q) (nI_ge (by omega) (by omega))) (fun _ => ?_)
      refine RQ_n ZX_ok 6 rfl ⟨nI_in (by omega) (by omega), trivial⟩ ?_
      have h0 := ih (i + 1) (u.1, updA u.2.1 68 (nI i).toNatClampNeg v, u.2.2) (by omega) (h1.tr (frX.a 68 (by decide))) (fun j hj => by
        show upd (u.2.1 68) (nI i).toNatClampNeg v j = v
        rw [hic]
        by_cases z : j = i
        · rw [z, upd_at]
        · rw [upd_ne z]
          exact h2 j (by omega))
      rw [nI_succ] at h0
      exact h0
  refine RQ_n ZX_ok 5 rfl trivial ?_
  exact key 9 0 s (by omega) frX.rf (fun j hj => absurd hj (Nat.not_lt_zero _))
theorem x_fill_85 (s : SX) (v : Int32) : EvQ ZX mJ7_fill_53178 [.ref 85, .int v] s (fun r s' => r = none ∧ frX [] [85] s s' ∧ ∀ j, j < 9 → s'.2.1 85 j = v) := by
  refine EQ_T vJ7_fill_53178 rfl ?_
  have key : ∀ d i u, i + d = 9 → frX [] [85] s u → (∀ j, j < i → u.2.1 85 j = v) → RnQ ZX mJ7_fill_53178 (5, [some (.ref 85), some (.int v), some (.int (nI i)), some (.int (nI 9))], [], u) (fun r s' => r = none ∧ frX [] [85] s s' ∧ ∀ j, j < 9 → s'.2.1 85 j = v) := by
    intro d
    induction d with
    | zero =>
      intro i u hd h1 h2
      have hi : i = 9 := by omega
      subst hi
      refine RQ_n ZX_ok 2 rfl trivial ?_
      refine RQ_b rfl (fun _ => ?_) (fun q => absurd (Int32.le_refl _) q)
      exact RQ_to (Rn_vret rfl rfl) ⟨rfl, h1, h2⟩
    | succ d ih =>
      intro i u hd h1 h2
      have hic : (nI i).toNatClampNeg = i := nI_clamp (by omega)
      refine RQ_n ZX_ok 2 rfl trivial ?_
      refine RQ_b rfl (fun q => absurd (show nI 9 ≤ nI i from q) (nI_ge (by omega) (by omega))) (fun _ => ?_)
      refine RQ_n ZX_ok 6 rfl ⟨nI_in (by omega) (by omega), trivial⟩ ?_
      have h0 := ih (i + 1) (u.1, updA u.2.1 85 (nI i).toNatClampNeg v, u.2.2) (by omega) (h1.tr (frX.a 85 (by decide))) (fun j hj => by
        show upd (u.2.1 85) (nI i).toNatClampNeg v j = v
        rw [hic]
        by_cases z : j = i
        · rw [z, upd_at]
        · rw [upd_ne z]
          exact h2 j (by omega))
      rw [nI_succ] at h0
      exact h0
  refine RQ_n ZX_ok 5 rfl trivial ?_
  exact key 9 0 s (by omega) frX.rf (fun j hj => absurd hj (Nat.not_lt_zero _))
theorem x_fill_52 (s : SX) (v : Int32) : EvQ ZX mJ7_fill_53178 [.ref 52, .int v] s (fun r s' => r = none ∧ frX [] [52] s s' ∧ ∀ j, j < 16 → s'.2.1 52 j = v) := by
  refine EQ_T vJ7_fill_53178 rfl ?_
  have key : ∀ d i u, i + d = 16 → frX [] [52] s u → (∀ j, j < i → u.2.1 52 j = v) → RnQ ZX mJ7_fill_53178 (5, [some (.ref 52), some (.int v), some (.int (nI i)), some (.int (nI 16))], [], u) (fun r s' => r = none ∧ frX [] [52] s s' ∧ ∀ j, j < 16 → s'.2.1 52 j = v) := by
    intro d
    induction d with
    | zero =>
      intro i u hd h1 h2
      have hi : i = 16 := by omega
      subst hi
      refine RQ_n ZX_ok 2 rfl trivial ?_
      refine RQ_b rfl (fun _ => ?_) (fun q => absurd (Int32.le_refl _) q)
      exact RQ_to (Rn_vret rfl rfl) ⟨rfl, h1, h2⟩
    | succ d ih =>
      intro i u hd h1 h2
      have hic : (nI i).toNatClampNeg = i := nI_clamp (by omega)
      refine RQ_n ZX_ok 2 rfl trivial ?_
      refine RQ_b rfl (fun q => absurd (show nI 16 ≤ nI i from q) (nI_ge (by omega) (by omega))) (fun _ => ?_)
      refine RQ_n ZX_ok 6 rfl ⟨nI_in (by omega) (by omega), trivial⟩ ?_
      have h0 := ih (i + 1) (u.1, updA u.2.1 52 (nI i).toNatClampNeg v, u.2.2) (by omega) (h1.tr (frX.a 52 (by decide))) (fun j hj => by
        show upd (u.2.1 52) (nI i).toNatClampNeg v j = v
        rw [hic]
        by_cases z : j = i
        · rw [z, upd_at]
        · rw [upd_ne z]
          exact h2 j (by omega))
      rw [nI_succ] at h0
      exact h0
  refine RQ_n ZX_ok 5 rfl trivial ?_
  exact key 16 0 s (by omega) frX.rf (fun j hj => absurd hj (Nat.not_lt_zero _))
theorem x_fill_69 (s : SX) (v : Int32) : EvQ ZX mJ7_fill_53178 [.ref 69, .int v] s (fun r s' => r = none ∧ frX [] [69] s s' ∧ ∀ j, j < 16 → s'.2.1 69 j = v) := by
  refine EQ_T vJ7_fill_53178 rfl ?_
  have key : ∀ d i u, i + d = 16 → frX [] [69] s u → (∀ j, j < i → u.2.1 69 j = v) → RnQ ZX mJ7_fill_53178 (5, [some (.ref 69), some (.int v), some (.int (nI i)), some (.int (nI 16))], [], u) (fun r s' => r = none ∧ frX [] [69] s s' ∧ ∀ j, j < 16 → s'.2.1 69 j = v) := by
    intro d
    induction d with
    | zero =>
      intro i u hd h1 h2
      have hi : i = 16 := by omega
      subst hi
      refine RQ_n ZX_ok 2 rfl trivial ?_
      refine RQ_b rfl (fun _ => ?_) (fun q => absurd (Int32.le_refl _) q)
      exact RQ_to (Rn_vret rfl rfl) ⟨rfl, h1, h2⟩
    | succ d ih =>
      intro i u hd h1 h2
      have hic : (nI i).toNatClampNeg = i := nI_clamp (by omega)
      refine RQ_n ZX_ok 2 rfl trivial ?_
      refine RQ_b rfl (fun q => absurd (show nI 16 ≤ nI i from q) (nI_ge (by omega) (by omega))) (fun _ => ?_)
      refine RQ_n ZX_ok 6 rfl ⟨nI_in (by omega) (by omega), trivial⟩ ?_
      have h0 := ih (i + 1) (u.1, updA u.2.1 69 (nI i).toNatClampNeg v, u.2.2) (by omega) (h1.tr (frX.a 69 (by decide))) (fun j hj => by
        show upd (u.2.1 69) (nI i).toNatClampNeg v j = v
        rw [hic]
        by_cases z : j = i
        · rw [z, upd_at]
        · rw [upd_ne z]
          exact h2 j (by omega))
      rw [nI_succ] at h0
      exact h0
  refine RQ_n ZX_ok 5 rfl trivial ?_
  exact key 16 0 s (by omega) frX.rf (fun j hj => absurd hj (Nat.not_lt_zero _))
theorem x_fill_86 (s : SX) (v : Int32) : EvQ ZX mJ7_fill_53178 [.ref 86, .int v] s (fun r s' => r = none ∧ frX [] [86] s s' ∧ ∀ j, j < 16 → s'.2.1 86 j = v) := by
  refine EQ_T vJ7_fill_53178 rfl ?_
  have key : ∀ d i u, i + d = 16 → frX [] [86] s u → (∀ j, j < i → u.2.1 86 j = v) → RnQ ZX mJ7_fill_53178 (5, [some (.ref 86), some (.int v), some (.int (nI i)), some (.int (nI 16))], [], u) (fun r s' => r = none ∧ frX [] [86] s s' ∧ ∀ j, j < 16 → s'.2.1 86 j = v) := by
    intro d
    induction d with
    | zero =>
      intro i u hd h1 h2
      have hi : i = 16 := by omega
      subst hi
      refine RQ_n ZX_ok 2 rfl trivial ?_
      refine RQ_b rfl (fun _ => ?_) (fun q => absurd (Int32.le_refl _) q)
      exact RQ_to (Rn_vret rfl rfl) ⟨rfl, h1, h2⟩
    | succ d ih =>
      intro i u hd h1 h2
      have hic : (nI i).toNatClampNeg = i := nI_clamp (by omega)
      refine RQ_n ZX_ok 2 rfl trivial ?_
      refine RQ_b rfl (fun q => absurd (show nI 16 ≤ nI i from q) (nI_ge (by omega) (by omega))) (fun _ => ?_)
      refine RQ_n ZX_ok 6 rfl ⟨nI_in (by omega) (by omega), trivial⟩ ?_
      have h0 := ih (i + 1) (u.1, updA u.2.1 86 (nI i).toNatClampNeg v, u.2.2) (by omega) (h1.tr (frX.a 86 (by decide))) (fun j hj => by
        show upd (u.2.1 86) (nI i).toNatClampNeg v j = v
        rw [hic]
        by_cases z : j = i
        · rw [z, upd_at]
        · rw [upd_ne z]
          exact h2 j (by omega))
      rw [nI_succ] at h0
      exact h0
  refine RQ_n ZX_ok 5 rfl trivial ?_
  exact key 16 0 s (by omega) frX.rf (fun j hj => absurd hj (Nat.not_lt_zero _))
theorem x_fill_42 (s : SX) (v : Int32) : EvQ ZX mJ7_fill_53178 [.ref 42, .int v] s (fun r s' => r = none ∧ frX [] [42] s s' ∧ ∀ j, j < 200 → s'.2.1 42 j = v) := by
  refine EQ_T vJ7_fill_53178 rfl ?_
  have key : ∀ d i u, i + d = 200 → frX [] [42] s u → (∀ j, j < i → u.2.1 42 j = v) → RnQ ZX mJ7_fill_53178 (5, [some (.ref 42), some (.int v), some (.int (nI i)), some (.int (nI 200))], [], u) (fun r s' => r = none ∧ frX [] [42] s s' ∧ ∀ j, j < 200 → s'.2.1 42 j = v) := by
    intro d
    induction d with
    | zero =>
      intro i u hd h1 h2
      have hi : i = 200 := by omega
      subst hi
      refine RQ_n ZX_ok 2 rfl trivial ?_
      refine RQ_b rfl (fun _ => ?_) (fun q => absurd (Int32.le_refl _) q)
      exact RQ_to (Rn_vret rfl rfl) ⟨rfl, h1, h2⟩
    | succ d ih =>
      intro i u hd h1 h2
      have hic : (nI i).toNatClampNeg = i := nI_clamp (by omega)
      refine RQ_n ZX_ok 2 rfl trivial ?_
      refine RQ_b rfl (fun q => absurd (show nI 200 ≤ nI i from q) (nI_ge (by omega) (by omega))) (fun _ => ?_)
      refine RQ_n ZX_ok 6 rfl ⟨nI_in (by omega) (by omega), trivial⟩ ?_
      have h0 := ih (i + 1) (u.1, updA u.2.1 42 (nI i).toNatClampNeg v, u.2.2) (by omega) (h1.tr (frX.a 42 (by decide))) (fun j hj => by
        show upd (u.2.1 42) (nI i).toNatClampNeg v j = v
        rw [hic]
        by_cases z : j = i
        · rw [z, upd_at]
        · rw [upd_ne z]
          exact h2 j (by omega))
      rw [nI_succ] at h0
      exact h0
  refine RQ_n ZX_ok 5 rfl trivial ?_
  exact key 200 0 s (by omega) frX.rf (fun j hj => absurd hj (Nat.not_lt_zero _))
theorem x_fill_59 (s : SX) (v : Int32) : EvQ ZX mJ7_fill_53178 [.ref 59, .int v] s (fun r s' => r = none ∧ frX [] [59] s s' ∧ ∀ j, j < 200 → s'.2.1 59 j = v) := by
  refine EQ_T vJ7_fill_53178 rfl ?_
  have key : ∀ d i u, i + d = 200 → frX [] [59] s u → (∀ j, j < i → u.2.1 59 j = v) → RnQ ZX mJ7_fill_53178 (5, [some (.ref 59), some (.int v), some (.int (nI i)), some (.int (nI 200))], [], u) (fun r s' => r = none ∧ frX [] [59] s s' ∧ ∀ j, j < 200 → s'.2.1 59 j = v) := by
    intro d
    induction d with
    | zero =>
      intro i u hd h1 h2
      have hi : i = 200 := by omega
      subst hi
      refine RQ_n ZX_ok 2 rfl trivial ?_
      refine RQ_b rfl (fun _ => ?_) (fun q => absurd (Int32.le_refl _) q)
      exact RQ_to (Rn_vret rfl rfl) ⟨rfl, h1, h2⟩
    | succ d ih =>
      intro i u hd h1 h2
      have hic : (nI i).toNatClampNeg = i := nI_clamp (by omega)
      refine RQ_n ZX_ok 2 rfl trivial ?_
      refine RQ_b rfl (fun q => absurd (show nI 200 ≤ nI i from q) (nI_ge (by omega) (by omega))) (fun _ => ?_)
      refine RQ_n ZX_ok 6 rfl ⟨nI_in (by omega) (by omega), trivial⟩ ?_
      have h0 := ih (i + 1) (u.1, updA u.2.1 59 (nI i).toNatClampNeg v, u.2.2) (by omega) (h1.tr (frX.a 59 (by decide))) (fun j hj => by
        show upd (u.2.1 59) (nI i).toNatClampNeg v j = v
        rw [hic]
        by_cases z : j = i
        · rw [z, upd_at]
        · rw [upd_ne z]
          exact h2 j (by omega))
      rw [nI_succ] at h0
      exact h0
  refine RQ_n ZX_ok 5 rfl trivial ?_
  exact key 200 0 s (by omega) frX.rf (fun j hj => absurd hj (Nat.not_lt_zero _))
theorem x_fill_76 (s : SX) (v : Int32) : EvQ ZX mJ7_fill_53178 [.ref 76, .int v] s (fun r s' => r = none ∧ frX [] [76] s s' ∧ ∀ j, j < 200 → s'.2.1 76 j = v) := by
  refine EQ_T vJ7_fill_53178 rfl ?_
  have key : ∀ d i u, i + d = 200 → frX [] [76] s u → (∀ j, j < i → u.2.1 76 j = v) → RnQ ZX mJ7_fill_53178 (5, [some (.ref 76), some (.int v), some (.int (nI i)), some (.int (nI 200))], [], u) (fun r s' => r = none ∧ frX [] [76] s s' ∧ ∀ j, j < 200 → s'.2.1 76 j = v) := by
    intro d
    induction d with
    | zero =>
      intro i u hd h1 h2
      have hi : i = 200 := by omega
      subst hi
      refine RQ_n ZX_ok 2 rfl trivial ?_
      refine RQ_b rfl (fun _ => ?_) (fun q => absurd (Int32.le_refl _) q)
      exact RQ_to (Rn_vret rfl rfl) ⟨rfl, h1, h2⟩
    | succ d ih =>
      intro i u hd h1 h2
      have hic : (nI i).toNatClampNeg = i := nI_clamp (by omega)
      refine RQ_n ZX_ok 2 rfl trivial ?_
      refine RQ_b rfl (fun q => absurd (show nI 200 ≤ nI i from q) (nI_ge (by omega) (by omega))) (fun _ => ?_)
      refine RQ_n ZX_ok 6 rfl ⟨nI_in (by omega) (by omega), trivial⟩ ?_
      have h0 := ih (i + 1) (u.1, updA u.2.1 76 (nI i).toNatClampNeg v, u.2.2) (by omega) (h1.tr (frX.a 76 (by decide))) (fun j hj => by
        show upd (u.2.1 76) (nI i).toNatClampNeg v j = v
        rw [hic]
        by_cases z : j = i
        · rw [z, upd_at]
        · rw [upd_ne z]
          exact h2 j (by omega))
      rw [nI_succ] at h0
      exact h0
  refine RQ_n ZX_ok 5 rfl trivial ?_
  exact key 200 0 s (by omega) frX.rf (fun j hj => absurd hj (Nat.not_lt_zero _))
