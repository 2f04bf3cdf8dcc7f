/-! An empty tape: fault and text on both sides. -/
theorem m_ahead0 (s : SM) (h : s.1 2 ≤ s.1 3) : Ev ZR mX12_ahead [.ref 0] s (some (.int (-1))) s := by
  refine Ev_V vX12_ahead rfl ?_
  refine Rn_n ZR_ok 4 rfl trivial ?_
  refine Rn_b rfl (fun _ => ?_) (fun q => absurd h q)
  refine Rn_n ZR_ok 4 rfl trivial ?_
  refine Rn_b rfl (fun _ => ?_) (fun q => absurd h q)
  refine Rn_n ZR_ok 1 rfl trivial ?_
  exact Rn_iret rfl rfl
theorem m_isName_no (s : SM) : Ev ZR mX12_isName [.int (-1)] s (some (.int 0)) s := by
  refine Ev_T vX12_isName rfl ?_
  refine Rn_n ZR_ok 2 rfl trivial ?_
  refine Rn_b rfl (fun _ => ?_) (fun q => absurd (by show (-1 : Int32) < 65; decide) q)
  refine Rn_n ZR_ok 1 rfl trivial ?_
  exact Rn_zret rfl rfl (Or.inl rfl)
theorem m_isSign_no (s : SM) : Ev ZR mX12_isSign [.int (-1)] s (some (.int 0)) s := by
  refine Ev_T vX12_isSign rfl ?_
  refine Rn_n ZR_ok 2 rfl trivial ?_
  refine Rn_b rfl (fun _ => ?_) (fun q => absurd (by show (-1 : Int32) < 97; decide) q)
  refine Rn_n ZR_ok 1 rfl trivial ?_
  exact Rn_zret rfl rfl (Or.inl rfl)
theorem m_bad (s : SM) (h : s.1 4 = -1) : Ev ZR mX12_bad [.ref 0] s none (updS s.1 4 (s.1 3), s.2) := by
  refine Ev_V vX12_bad rfl ?_
  refine Rn_n ZR_ok 4 rfl trivial ?_
  refine Rn_b rfl (fun q => absurd h q) (fun _ => ?_)
  refine Rn_n ZR_ok 4 rfl trivial ?_
  exact Rn_vret rfl rfl
theorem m_readRule0 (s : SM) (h : s.1 2 ≤ s.1 3) (hw : s.1 4 = -1) : Ev ZR mX12_readRule [.ref 0] s none (updS s.1 4 (s.1 3), s.2) := by
  refine Ev_V vX12_readRule rfl ?_
  refine Rn_n ZR_ok 4 rfl trivial ?_
  refine Rn_V vX12_ahead (m_ahead0 s h) rfl k12_180 rfl rfl rfl rfl rfl ?_
  refine Rn_n ZR_ok 2 rfl trivial ?_
  refine Rn_S vX12_isName (m_isName_no s) rfl k12_184 rfl rfl rfl rfl ?_
  refine Rn_b rfl (fun _ => ?_) (fun q => absurd rfl q)
  refine Rn_n ZR_ok 1 rfl trivial ?_
  refine Rn_V vX12_bad (m_bad s hw) rfl k12_203 rfl rfl rfl rfl rfl ?_
  exact Rn_vret rfl rfl
def rg0 (f : Nat → Int32) : Nat → Int32 := updS (updS (updS (updS (updS (updS (updS (updS f 3 0) 4 (-1)) 8 0) 9 0) 10 0) 11 0) 4 0) 3 (0 + 0)
def rs0 (f : Nat → Int32) : Nat → Int32 := updS (updS f 3 0) 4 (-1)
set_option maxHeartbeats 4000000 in
theorem m_readGrammar0 (s : SM) (h : s.1 2 = 0) : Ev ZR mX12_readGrammar [.ref 0] s (some (.int 0)) (rg0 s.1, s.2) := by
  refine Ev_V vX12_readGrammar rfl ?_
  refine Rn_n ZR_ok 21 rfl trivial ?_
  refine Rn_b rfl (fun q => absurd q (by show ¬ ((1 : Int32) = 0); decide)) (fun _ => ?_)
  refine Rn_n ZR_ok 1 rfl trivial ?_
  refine Rn_V vX12_readRule (m_readRule0 _ (by show s.1 2 ≤ 0; rw [h]; exact Int32.le_refl 0) rfl) rfl k12_216 rfl rfl rfl rfl rfl ?_
  refine Rn_n ZR_ok 3 rfl trivial ?_
  refine Rn_b rfl (fun _ => ?_) (fun q => absurd (by show ¬ ((0 : Int32) = -1); decide) q)
  refine Rn_n ZR_ok 6 rfl trivial ?_
  refine Rn_b rfl (fun _ => ?_) (fun q => absurd rfl q)
  refine Rn_n ZR_ok 5 rfl trivial ?_
  refine Rn_b rfl (fun _ => ?_) (fun q => absurd rfl q)
  refine Rn_n ZR_ok 3 rfl trivial ?_
  refine Rn_b rfl (fun _ => ?_) (fun q => absurd (by show ¬ ((0 : Int32) = -1); decide) q)
  refine Rn_n ZR_ok 2 rfl trivial ?_
  exact Rn_iret rfl rfl
set_option maxHeartbeats 4000000 in
theorem m_readSentence0 (s : SM) (h : s.1 2 = 0) (x : Int32) (hx : vp_in x 5) : Ev ZR mX12_readSentence [.ref 0, .int x] s (some (.int (-1))) (rs0 s.1, updA s.2.1 13 x.toNatClampNeg 0, s.2.2) := by
  refine Ev_V vX12_readSentence rfl ?_
  refine Rn_n ZR_ok 12 rfl ⟨hx, trivial⟩ ?_
  refine Rn_V vX12_ahead (m_ahead0 _ (by show s.1 2 ≤ 0; rw [h]; exact Int32.le_refl 0)) rfl k12_180 rfl rfl rfl rfl rfl ?_
  refine Rn_S vX12_isSign (m_isSign_no _) rfl k12_191 rfl rfl rfl rfl ?_
  refine Rn_b rfl (fun _ => ?_) (fun q => absurd rfl q)
  refine Rn_n ZR_ok 1 rfl trivial ?_
  refine Rn_V vX12_ahead (m_ahead0 _ (by show s.1 2 ≤ 0; rw [h]; exact Int32.le_refl 0)) rfl k12_180 rfl rfl rfl rfl rfl ?_
  refine Rn_n ZR_ok 1 rfl trivial ?_
  refine Rn_b rfl (fun _ => ?_) (fun q => absurd rfl q)
  refine Rn_n ZR_ok 2 rfl trivial ?_
  exact Rn_iret rfl rfl
/-- fault, the tape empty -/
def flt0 (x : Int32) : Int32 := if x = 0 then 0 else if x = 1 then -1 else -2
theorem m_fault0 (s : SM) (h : s.1 2 = 0) (x : Int32) : ∃ s1, Ev ZR mX12_fault [.ref 0, .int x] s (some (.int (flt0 x))) s1 := by
  by_cases h0 : x = 0
  · refine ⟨(rg0 s.1, s.2), Ev_V vX12_fault rfl ?_⟩
    refine Rn_n ZR_ok 1 rfl trivial ?_
    refine Rn_b rfl (fun q => absurd h0 q) (fun _ => ?_)
    refine Rn_n ZR_ok 1 rfl trivial ?_
    refine Rn_V vX12_readGrammar (m_readGrammar0 s h) rfl k12_219 rfl rfl rfl rfl rfl ?_
    refine Rn_n ZR_ok 1 rfl trivial ?_
    exact Rn_to (Rn_iret rfl rfl) (by rw [flt0, if_pos h0]) rfl
  · by_cases h1 : x = 1
    · refine ⟨(rs0 s.1, updA s.2.1 13 4 0, s.2.2), Ev_V vX12_fault rfl ?_⟩
      refine Rn_n ZR_ok 1 rfl trivial ?_
      refine Rn_b rfl (fun _ => ?_) (fun q => absurd h0 q)
      refine Rn_n ZR_ok 2 rfl trivial ?_
      refine Rn_b rfl (fun q => absurd h1 q) (fun _ => ?_)
      refine Rn_n ZR_ok 2 rfl trivial ?_
      refine Rn_V vX12_readSentence (m_readSentence0 s h 4 (by unfold vp_in; decide)) rfl k12_222 rfl rfl rfl rfl rfl ?_
      refine Rn_n ZR_ok 1 rfl trivial ?_
      exact Rn_to (Rn_iret rfl rfl) (by rw [flt0, if_neg h0, if_pos h1]) rfl
    · refine ⟨s, Ev_V vX12_fault rfl ?_⟩
      refine Rn_n ZR_ok 1 rfl trivial ?_
      refine Rn_b rfl (fun _ => ?_) (fun q => absurd h0 q)
      refine Rn_n ZR_ok 2 rfl trivial ?_
      refine Rn_b rfl (fun _ => ?_) (fun q => absurd h1 q)
      refine Rn_n ZR_ok 1 rfl trivial ?_
      exact Rn_to (Rn_iret rfl rfl) (by rw [flt0, if_neg h0, if_neg h1]) rfl
