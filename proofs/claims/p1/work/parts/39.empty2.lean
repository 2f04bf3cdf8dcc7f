def txt0 (x : Int32) : Int32 := if x = 1 then 0 else -1
set_option maxHeartbeats 4000000 in
theorem m_text0 (s : SM) (h : s.1 2 = 0) (h14 : s.1 14 = 0) (x : Int32) : ∃ s1, Ev ZR mX12_text [.ref 0, .int x] s (some (.int (txt0 x))) s1 := by
  by_cases h0 : x = 0
  · subst h0
    refine ⟨(rg0 s.1, s.2), Ev_V vX12_text rfl ?_⟩
    refine Rn_n ZR_ok 1 rfl trivial ?_
    refine Rn_b rfl (fun q => absurd rfl q) (fun _ => ?_)
    refine Rn_n ZR_ok 1 rfl trivial ?_
    refine Rn_V vX12_readGrammar (m_readGrammar0 s h) rfl k12_219 rfl rfl rfl rfl rfl ?_
    refine Rn_n ZR_ok 1 rfl trivial ?_
    refine Rn_b rfl (fun _ => ?_) (fun q => absurd (by show ¬ ((0 : Int32) = -1); decide) q)
    refine Rn_n ZR_ok 2 rfl trivial ?_
    refine Rn_b rfl (fun _ => ?_) (fun q => absurd (by show ¬ ((0 : Int32) = 1); decide) q)
    refine Rn_n ZR_ok 1 rfl trivial ?_
    exact Rn_to (Rn_iret rfl rfl) (by decide) rfl
  · by_cases h1 : x = 1
    · subst h1
      refine ⟨(updS (updS (rs0 s.1) 2 0) 14 (s.1 14 + 1), updA s.2.1 13 (s.1 14).toNatClampNeg 0, s.2.2), Ev_V vX12_text rfl ?_⟩
      refine Rn_n ZR_ok 1 rfl trivial ?_
      refine Rn_b rfl (fun _ => ?_) (fun q => absurd h0 q)
      refine Rn_n ZR_ok 2 rfl trivial ?_
      refine Rn_b rfl (fun q => absurd rfl q) (fun _ => ?_)
      refine Rn_n ZR_ok 3 rfl trivial ?_
      refine Rn_b rfl (fun q => absurd q (by show ¬ ((4 : Int32) ≤ s.1 14); rw [h14]; decide)) (fun _ => ?_)
      refine Rn_n ZR_ok 3 rfl trivial ?_
      refine Rn_V vX12_readSentence (m_readSentence0 s h (s.1 14) (by rw [h14]; unfold vp_in; decide)) rfl k12_222 rfl rfl rfl rfl rfl ?_
      refine Rn_n ZR_ok 1 rfl trivial ?_
      refine Rn_b rfl (fun q => absurd rfl q) (fun _ => ?_)
      refine Rn_n ZR_ok 13 rfl trivial ?_
      exact Rn_to (Rn_iret rfl rfl) (by show some (Value.int (s.1 14 + 1 - 1)) = _; rw [h14]; decide) rfl
    · refine ⟨s, Ev_V vX12_text rfl ?_⟩
      refine Rn_n ZR_ok 1 rfl trivial ?_
      refine Rn_b rfl (fun _ => ?_) (fun q => absurd h0 q)
      refine Rn_n ZR_ok 2 rfl trivial ?_
      refine Rn_b rfl (fun _ => ?_) (fun q => absurd h1 q)
      refine Rn_n ZR_ok 1 rfl trivial ?_
      exact Rn_to (Rn_iret rfl rfl) (by rw [txt0, if_neg h1]) rfl
theorem x_sentenceFault0 (s : SX) (h : s.1 1 1 = 0) : Ev ZX mX10_sentenceFault [.ref 1] s (some (.int (-1))) s := by
  refine Ev_V vX10_sentenceFault rfl ?_
  refine Rn_n ZX_ok 7 rfl trivial ?_
  refine Rn_b rfl (fun _ => ?_) (fun q => absurd (by show s.1 1 1 ≤ 0; rw [h]; exact Int32.le_refl 0) q)
  refine Rn_n ZX_ok 1 rfl trivial ?_
  exact Rn_iret rfl rfl
theorem x_open0 (s : SX) (h : s.1 11 0 = 0) : Ev ZX mX9_open [.ref 11] s none (updI s.1 11 0 (s.1 11 0 + 1), updA s.2.1 12 (s.1 11 0).toNatClampNeg 0, s.2.2) := by
  refine Ev_V vX9_open rfl ?_
  refine Rn_n ZX_ok 3 rfl trivial ?_
  refine Rn_b rfl (fun q => absurd q (by show ¬ ((4 : Int32) ≤ s.1 11 0); rw [h]; decide)) (fun _ => ?_)
  refine Rn_n ZX_ok 12 rfl ⟨by show vp_in (s.1 11 0) 4; rw [h]; unfold vp_in; decide, trivial⟩ ?_
  exact Rn_vret rfl rfl
