def unB (s : SM) (r : Int32) : Bool := decide (s.2.1 19 r.toNatClampNeg = 1) && decide (100 ≤ s.2.1 20 (5 * r + 0).toNatClampNeg)
theorem e_isUnit (s : SM) (r : Int32) (h1 : vp_in r 17) (h2 : vp_in (5 * r + 0) 85) : Ev ZR mX12_isUnit [.ref 0, .int r] s (some (.int (bI (unB s r)))) s := by
  refine Ev_V vX12_isUnit rfl ?_
  refine Rn_n ZR_ok 5 rfl ⟨h1, trivial⟩ ?_
  refine Rn_b rfl (fun q => ?_) (fun q => ?_)
  · have q : ¬ s.2.1 19 r.toNatClampNeg = 1 := q
    refine Rn_n ZR_ok 1 rfl trivial ?_
    exact Rn_to (Rn_zret rfl rfl (Or.inl rfl)) (by simp [unB, q, bI]) rfl
  · have q : s.2.1 19 r.toNatClampNeg = 1 := Classical.not_not.mp q
    refine Rn_n ZR_ok 3 rfl trivial ?_
    refine Rn_V vX12_letterAt (e_letterAt s r 0 h2) rfl k12_275 rfl rfl rfl rfl rfl ?_
    refine Rn_n ZR_ok 1 rfl trivial ?_
    refine Rn_b rfl (fun q2 => ?_) (fun q2 => ?_)
    · have q2 : ¬ (100 : Int32) ≤ s.2.1 20 (5 * r + 0).toNatClampNeg := Int32.not_le.mpr q2
      refine Rn_n ZR_ok 1 rfl trivial ?_
      exact Rn_to (Rn_zret rfl rfl (Or.inl rfl)) (by rw [unB, decide_eq_false q2, Bool.and_false]; rfl) rfl
    · have q2 : (100 : Int32) ≤ s.2.1 20 (5 * r + 0).toNatClampNeg := Int32.not_lt.mp q2
      refine Rn_n ZR_ok 2 rfl trivial ?_
      exact Rn_to (Rn_zret rfl rfl (Or.inr rfl)) (by rw [unB, decide_eq_true q, decide_eq_true q2]; rfl) rfl
