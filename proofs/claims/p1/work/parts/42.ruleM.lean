/-! rule and thrown, the reference's side. -/
theorem m_thrown (s : SM) : Ev ZR mX12_thrown [.ref 0] s (some (.int (s.1 0))) s := by
  refine Ev_V vX12_thrown rfl ?_
  refine Rn_n ZR_ok 2 rfl trivial ?_
  exact Rn_iret rfl rfl
/-- no such rule, or nothing that is told of it: thrown is 1 -/
theorem m_rule_no (s : SM) (r w : Int32) (h : (inB r 0 (s.1 15 - 1) && inB w 0 3) = false) : Ev ZR mX12_rule [.ref 0, .int r, .int w] s (some (.int 0)) (updS s.1 0 1, s.2) := by
  refine Ev_V vX12_rule rfl ?_
  refine Rn_n ZR_ok 3 rfl trivial ?_
  refine Rn_V vX12_isRule (e_isRule s r) rfl k12_266 rfl rfl rfl rfl rfl ?_
  have tail : Rn ZR mX12_rule (22, [some (.ref 0), some (.int r), some (.int w)], [.ref 0], s) (some (.int 0)) (updS s.1 0 1, s.2) := by
    refine Rn_n ZR_ok 5 rfl trivial ?_
    refine Rn_b rfl (fun q => absurd rfl q) (fun _ => ?_)
    refine Rn_n ZR_ok 1 rfl trivial ?_
    exact Rn_iret rfl rfl
  refine Rn_b rfl (fun _ => tail) (fun q => ?_)
  have h1 := bI_t q
  rw [h1, Bool.true_and] at h
  refine Rn_n ZR_ok 3 rfl trivial ?_
  refine Rn_S vX12_in (e_in s w 0 3) rfl k12_170 rfl rfl rfl rfl ?_
  refine Rn_b rfl (fun _ => tail) (fun q => absurd (by rw [h]; rfl) q)
/-- there is such a rule: thrown is 0; what is told by 0 and 1 -/
theorem m_rule_01 (s : SM) (r w : Int32) (h1 : inB r 0 (s.1 15 - 1) = true) (h2 : w = 0 ∨ w = 1) (hr : vp_in r 17) : Ev ZR mX12_rule [.ref 0, .int r, .int w] s (some (.int (if w = 0 then s.2.1 18 r.toNatClampNeg else s.2.1 19 r.toNatClampNeg))) (updS s.1 0 0, s.2) := by
  refine Ev_V vX12_rule rfl ?_
  refine Rn_n ZR_ok 3 rfl trivial ?_
  refine Rn_V vX12_isRule (e_isRule s r) rfl k12_266 rfl rfl rfl rfl rfl ?_
  refine Rn_b rfl (fun q => absurd q (by rw [h1]; show ¬ ((1 : Int32) = 0); decide)) (fun _ => ?_)
  refine Rn_n ZR_ok 3 rfl trivial ?_
  refine Rn_S vX12_in (e_in s w 0 3) rfl k12_170 rfl rfl rfl rfl ?_
  have hw : inB w 0 3 = true := by rcases h2 with rfl | rfl <;> decide
  refine Rn_b rfl (fun q => absurd q (by rw [hw]; show ¬ ((1 : Int32) = 0); decide)) (fun _ => ?_)
  refine Rn_n ZR_ok 6 rfl trivial ?_
  refine Rn_b rfl (fun _ => ?_) (fun q => absurd (by show ¬ ((0 : Int32) = 1); decide) q)
  refine Rn_n ZR_ok 1 rfl trivial ?_
  rcases h2 with rfl | rfl
  · refine Rn_b rfl (fun q => absurd rfl q) (fun _ => ?_)
    refine Rn_n ZR_ok 5 rfl ⟨hr, trivial⟩ ?_
    exact Rn_to (Rn_iret rfl rfl) (by rw [if_pos rfl]) rfl
  · refine Rn_b rfl (fun _ => ?_) (fun q => absurd (by show ¬ ((1 : Int32) = 0); decide) q)
    refine Rn_n ZR_ok 2 rfl trivial ?_
    refine Rn_b rfl (fun q => absurd rfl q) (fun _ => ?_)
    refine Rn_n ZR_ok 5 rfl ⟨hr, trivial⟩ ?_
    exact Rn_to (Rn_iret rfl rfl) (by rw [if_neg (by decide)]) rfl
