theorem x_grammarFault0 (s : SX) (h : s.1 1 1 = 0) : Ev ZX mX10_grammarFault [.ref 1] s (some (.int 0)) s := by
  refine Ev_V vX10_grammarFault rfl ?_
  refine Rn_n ZX_ok 17 rfl trivial ?_
  refine Rn_b rfl (fun _ => ?_) (fun q => absurd (by show s.1 1 1 ≤ 0; rw [h]; exact Int32.le_refl 0) q)
  refine Rn_n ZX_ok 2 rfl trivial ?_
  refine Rn_b rfl (fun _ => ?_) (fun q => absurd (by show ¬ ((0 : Int32) = 2); decide) q)
  refine Rn_n ZX_ok 2 rfl trivial ?_
  exact Rn_to (Rn_iret rfl rfl) (by rw [h]) rfl
theorem x_fault0 (s : SX) (h : s.1 1 1 = 0) (x : Int32) : Ev ZX mX11_fault [.ref 0, .int x] s (some (.int (flt0 x))) s := by
  by_cases h0 : x = 0
  · refine Ev_V vX11_fault rfl ?_
    refine Rn_n ZX_ok 1 rfl trivial ?_
    refine Rn_b rfl (fun q => absurd h0 q) (fun _ => ?_)
    refine Rn_n ZX_ok 2 rfl trivial ?_
    refine Rn_V vX10_grammarFault (x_grammarFault0 s h) rfl k11_99 rfl rfl rfl rfl rfl ?_
    exact Rn_to (Rn_iret rfl rfl) (by rw [flt0, if_pos h0]) rfl
  · by_cases h1 : x = 1
    · refine Ev_V vX11_fault rfl ?_
      refine Rn_n ZX_ok 1 rfl trivial ?_
      refine Rn_b rfl (fun _ => ?_) (fun q => absurd h0 q)
      refine Rn_n ZX_ok 2 rfl trivial ?_
      refine Rn_b rfl (fun q => absurd h1 q) (fun _ => ?_)
      refine Rn_n ZX_ok 2 rfl trivial ?_
      refine Rn_V vX10_sentenceFault (x_sentenceFault0 s h) rfl k11_103 rfl rfl rfl rfl rfl ?_
      refine Rn_n ZX_ok 1 rfl trivial ?_
      exact Rn_to (Rn_iret rfl rfl) (by rw [flt0, if_neg h0, if_pos h1]) rfl
    · refine Ev_V vX11_fault rfl ?_
      refine Rn_n ZX_ok 1 rfl trivial ?_
      refine Rn_b rfl (fun _ => ?_) (fun q => absurd h0 q)
      refine Rn_n ZX_ok 2 rfl trivial ?_
      refine Rn_b rfl (fun _ => ?_) (fun q => absurd h1 q)
      refine Rn_n ZX_ok 1 rfl trivial ?_
      exact Rn_to (Rn_iret rfl rfl) (by rw [flt0, if_neg h0, if_neg h1]) rfl
/-- a SENTENCE of no signs is taken -/
def xts0 (s : SX) : SX := (updI (updI s.1 11 0 (s.1 11 0 + 1)) 1 1 0, updA s.2.1 12 (s.1 11 0).toNatClampNeg 0, s.2.2)
theorem x_takeSentence0 (s : SX) (h : s.1 1 1 = 0) (h11 : s.1 11 0 = 0) : Ev ZX mX11_takeSentence [.ref 0] s (some (.int 0)) (xts0 s) := by
  refine Ev_V vX11_takeSentence rfl ?_
  refine Rn_n ZX_ok 4 rfl trivial ?_
  refine Rn_b rfl (fun _ => ?_) (fun q => absurd (by show ¬ (s.1 11 0 = 4); rw [h11]; decide) q)
  refine Rn_n ZX_ok 2 rfl trivial ?_
  refine Rn_V vX9_open (x_open0 s h11) rfl k11_131 rfl rfl rfl rfl rfl ?_
  refine Rn_n ZX_ok 6 rfl trivial ?_
  refine Rn_b rfl (fun _ => ?_) (fun q => absurd (by show s.1 1 1 ≤ 0; rw [h]; exact Int32.le_refl 0) q)
  refine Rn_n ZX_ok 9 rfl trivial ?_
  exact Rn_to (Rn_iret rfl rfl) (by show some (Value.int (s.1 11 0 + 1 - 1)) = _; rw [h11]; decide) rfl
theorem x_text0 (s : SX) (h : s.1 1 1 = 0) (h11 : s.1 11 0 = 0) (x : Int32) : ∃ s1 : SX, s1.2.2.2.2.1 = s.2.2.2.2.1 ∧ Ev ZX mX11_text [.ref 0, .int x] s (some (.int (txt0 x))) s1 := by
  by_cases h1 : x = 1
  · subst h1
    refine ⟨xts0 s, rfl, Ev_V vX11_text rfl ?_⟩
    refine Rn_n ZX_ok 2 rfl trivial ?_
    refine Rn_V vX11_fault (x_fault0 s h 1) rfl k11_106 rfl rfl rfl rfl rfl ?_
    refine Rn_n ZX_ok 1 rfl trivial ?_
    refine Rn_b rfl (fun _ => ?_) (fun q => absurd (by show flt0 1 = -1; decide) q)
    refine Rn_n ZX_ok 1 rfl trivial ?_
    refine Rn_b rfl (fun _ => ?_) (fun q => absurd (by show ¬ ((1 : Int32) = 0); decide) q)
    refine Rn_n ZX_ok 1 rfl trivial ?_
    refine Rn_V vX11_takeSentence (x_takeSentence0 s h h11) rfl k11_112 rfl rfl rfl rfl rfl ?_
    exact Rn_to (Rn_iret rfl rfl) (by decide) rfl
  · refine ⟨s, rfl, Ev_V vX11_text rfl ?_⟩
    refine Rn_n ZX_ok 2 rfl trivial ?_
    refine Rn_V vX11_fault (x_fault0 s h x) rfl k11_106 rfl rfl rfl rfl rfl ?_
    refine Rn_n ZX_ok 1 rfl trivial ?_
    have hne : ¬ flt0 x = -1 := by
      unfold flt0
      by_cases h0 : x = 0
      · rw [if_pos h0]; decide
      · rw [if_neg h0, if_neg h1]; decide
    refine Rn_b rfl (fun q => absurd q hne) (fun _ => ?_)
    refine Rn_n ZX_ok 1 rfl trivial ?_
    exact Rn_to (Rn_iret rfl rfl) (by rw [txt0, if_neg h1]) rfl
/-- any state with few kernels -/
def I1 (a : SX) (_ : SM) : Prop := a.2.2.2.2.1 ≤ 600
theorem ag_none {MX MR : MD} {as : List Value} {r : Int32} (h1 : Ev ZX MX (.ref 0 :: as) sX0 (some (.int r)) sX0) (h2 : Ev ZR MR (.ref 0 :: as) sM0 (some (.int r)) sM0) : Ag MX MR as sX0 sM0 I1 := ⟨r, sX0, sM0, h1, h2, Nat.zero_le _⟩
theorem ag_count (x : Int32) : Ag mX11_count mX12_count [.int x] sX0 sM0 I1 := by
  by_cases h : x.toInt < 0 ∨ 6 < x.toInt
  · exact ag_none (x_count_no sX0 x h) (m_count_no sM0 x h)
  · obtain ⟨k, hk⟩ : ∃ k : Nat, x.toInt = (k : Int) := ⟨x.toInt.toNat, by omega⟩
    have hk2 : k < 7 := by omega
    have hx : x = nI k := by
      apply Int32.toInt_inj.mp
      rw [hk, nI_toInt (by omega)]
    subst hx
    match k, hk2 with
    | 0, _ => exact ag_none (x_count_0 sX0) (m_count_0 sM0)
    | 1, _ => exact ag_none (x_count_1 sX0) (m_count_1 sM0)
    | 2, _ => exact ag_none (x_count_2 sX0) (m_count_2 sM0)
    | 3, _ => exact ag_none (x_count_3 sX0) (m_count_3 sM0)
    | 4, _ => exact ag_none (x_count_4 sX0) (m_count_4 sM0)
    | 5, _ => exact ag_none (r := 0) (Ev_to (x_count_5 sX0) (by decide +kernel) rfl) (Ev_to (m_count_5 sM0) (by decide +kernel) rfl)
    | 6, _ => exact ag_none (x_count_6 sX0) (m_count_6 sM0)
    | k + 7, h => exact absurd h (by omega)
theorem ag_end (x : Int32) : Ag mX11_end mX12_end [.int x] sX0 sM0 I1 := by
  cases h : inB x 0 0 with
  | true => exact ⟨1, _, _, x_end_t sX0 x h, m_end_t sM0 x h, Nat.zero_le _⟩
  | false => exact ⟨0, _, _, x_end_f sX0 x h, m_end_f sM0 x h, Nat.zero_le _⟩
theorem ag_feed (a b c d e : Int32) : Ag mX11_feed mX12_feed [.int a, .int b, .int c, .int d, .int e] sX0 sM0 I1 := by
  refine ⟨_, _, _, x_feed sX0 a b c d e 0 rfl (by omega), m_feed sM0 a b c d e 0 rfl (by omega), ?_⟩
  unfold I1
  split <;> exact Nat.zero_le _
theorem ag_fault (x : Int32) : Ag mX11_fault mX12_fault [.int x] sX0 sM0 I1 := by
  obtain ⟨s1, h1⟩ := m_fault0 sM0 rfl x
  exact ⟨_, _, _, x_fault0 sX0 rfl x, h1, Nat.zero_le _⟩
theorem ag_text (x : Int32) : Ag mX11_text mX12_text [.int x] sX0 sM0 I1 := by
  obtain ⟨s1, h1⟩ := m_text0 sM0 rfl rfl x
  obtain ⟨s2, h3, h2⟩ := x_text0 sX0 rfl rfl x
  exact ⟨_, _, _, h2, h1, by unfold I1; rw [h3]; exact Nat.zero_le _⟩
/-- on new objects, class and reference answer alike: all but rule -/
theorem sim0 : Sim sX0 sM0 I1 := ⟨ag_feed, ag_end, ag_fault, ag_text,
  fun a b => ag_none (x_letter sX0 rfl a b) (n_letter sM0 rfl a b), fun a b => ag_none (x_sign sX0 rfl a b) (n_sign sM0 rfl a b), fun a b => ag_none (x_name sX0 rfl a b) (n_name sM0 rfl a b), fun a b c => ag_none (x_trees sX0 rfl a b c) (n_trees sM0 rfl a b c),
  fun a => ag_none (x_names sX0 rfl a) (n_names sM0 rfl a), fun a => ag_none (x_toggle sX0 rfl a) (n_toggle sM0 rfl a), fun a => ag_none (x_prefer sX0 rfl a) (n_prefer sM0 rfl a), ag_none (x_undo sX0 rfl) (n_undo sM0 rfl),
  fun a => ag_none (x_states sX0 rfl a) (n_states sM0 rfl a), fun a b c d e _ => ag_none (x_look sX0 rfl a b c d e) (n_look sM0 rfl a b c d e), fun a b c => ag_none (x_state sX0 rfl a b c) (n_state sM0 rfl a b c), fun a b c => ag_none (x_goesTo sX0 rfl a b c) (n_goesTo sM0 rfl a b c),
  fun a b c d _ => ag_none (x_action sX0 rfl a b c d) (n_action sM0 rfl a b c d), fun a b c d => ag_none (x_bridge sX0 rfl a b c d) (n_bridge sM0 rfl a b c d), fun a b => ag_none (x_counts sX0 rfl a b) (n_counts sM0 rfl a b), fun a b c => ag_none (x_path sX0 rfl a b c) (n_path sM0 rfl a b c),
  fun a b c d => ag_none (x_reads sX0 rfl a b c d) (n_reads sM0 rfl a b c d), fun a b c d => ag_none (x_reduced sX0 rfl a b c d) (n_reduced sM0 rfl a b c d), fun a b => ag_none (x_expects sX0 rfl a b) (n_expects sM0 rfl a b), fun a b => ag_none (x_mends sX0 rfl a b) (n_mends sM0 rfl a b),
  fun a b c d => ag_none (x_tree sX0 rfl a b c d) (n_tree sM0 rfl a b c d), ag_none (x_sorts sX0 rfl) (n_sorts sM0 rfl), fun a b c => ag_none (x_same sX0 rfl a b c) (n_same sM0 rfl a b c), fun a b => ag_none (x_word sX0 rfl a b) (n_word sM0 rfl a b),
  fun a => ag_none (x_keep sX0 rfl a) (n_keep sM0 rfl a), ag_none (x_image sX0 rfl) (n_image sM0 rfl), ag_none (x_back sX0 rfl) (n_back sM0 rfl), ag_count⟩
