/-! The class while there is no grammar (cell 3, slot 0: rules; slot 1: names; cell 23: history). -/
theorem x_isRule (s : SX) (h : s.1 3 0 = 0) (x : Int32) : Ev ZX mX11_isRule [.ref 0, .int x] s (some (.int 0)) s := by
  refine Ev_V vX11_isRule rfl ?_
  refine Rn_n ZX_ok 1 rfl trivial ?_
  refine Rn_b rfl (fun q => ?_) (fun q => ?_)
  · refine Rn_n ZX_ok 1 rfl trivial ?_
    exact Rn_zret rfl rfl (Or.inl rfl)
  · refine Rn_n ZX_ok 4 rfl trivial ?_
    refine Rn_b rfl (fun _ => ?_) (fun q2 => ?_)
    · refine Rn_n ZX_ok 1 rfl trivial ?_
      exact Rn_zret rfl rfl (Or.inl rfl)
    · exact absurd (show s.1 3 0 ≤ x by rw [h]; exact Int32.not_lt.mp q) q2
theorem x_isName (s : SX) (h : s.1 3 1 = 0) (x : Int32) : Ev ZX mX11_isName [.ref 0, .int x] s (some (.int 0)) s := by
  refine Ev_V vX11_isName rfl ?_
  refine Rn_n ZX_ok 1 rfl trivial ?_
  refine Rn_b rfl (fun q => ?_) (fun q => ?_)
  · refine Rn_n ZX_ok 1 rfl trivial ?_
    exact Rn_zret rfl rfl (Or.inl rfl)
  · refine Rn_n ZX_ok 4 rfl trivial ?_
    refine Rn_b rfl (fun _ => ?_) (fun q2 => ?_)
    · refine Rn_n ZX_ok 1 rfl trivial ?_
      exact Rn_zret rfl rfl (Or.inl rfl)
    · exact absurd (show s.1 3 1 ≤ x by rw [h]; exact Int32.not_lt.mp q) q2
theorem x_isSentence (s : SX) (h : s.1 3 0 = 0) (x : Int32) : Ev ZX mX11_isSentence [.ref 0, .int x] s (some (.int 0)) s := by
  refine Ev_V vX11_isSentence rfl ?_
  refine Rn_n ZX_ok 3 rfl trivial ?_
  refine Rn_b rfl (fun _ => ?_) (fun q => absurd (show s.1 3 0 ≤ 0 by rw [h]; exact Int32.le_refl 0) q)
  refine Rn_n ZX_ok 1 rfl trivial ?_
  exact Rn_zret rfl rfl (Or.inl rfl)
theorem x_isEnding (s : SX) (h : s.1 3 0 = 0) (x : Int32) : Ev ZX mX11_isEnding [.ref 0, .int x] s (some (.int 0)) s := by
  refine Ev_V vX11_isEnding rfl ?_
  refine Rn_n ZX_ok 3 rfl trivial ?_
  refine Rn_b rfl (fun _ => ?_) (fun q => absurd (show s.1 3 0 ≤ 0 by rw [h]; exact Int32.le_refl 0) q)
  refine Rn_n ZX_ok 1 rfl trivial ?_
  exact Rn_zret rfl rfl (Or.inl rfl)
theorem x_isThere (s : SX) (h : s.1 3 0 = 0) (x : Int32) : Ev ZX mX11_isThere [.ref 0, .int x] s (some (.int 0)) s := by
  refine Ev_V vX11_isThere rfl ?_
  refine Rn_n ZX_ok 3 rfl trivial ?_
  refine Rn_b rfl (fun _ => ?_) (fun q => absurd h q)
  refine Rn_n ZX_ok 1 rfl trivial ?_
  exact Rn_zret rfl rfl (Or.inl rfl)
theorem x_letter (s : SX) (h : s.1 3 0 = 0) (x0 : Int32) (x1 : Int32) : Ev ZX mX11_letter [.ref 0, .int x0, .int x1] s (some (.int (-1))) s := by
  refine Ev_V vX11_letter rfl ?_
  refine Rn_n ZX_ok 2 rfl trivial ?_
  refine Rn_V vX11_isRule (x_isRule s h x0) rfl k11_139 rfl rfl rfl (zx0 s rfl) rfl ?_
  refine Rn_b rfl (fun _ => ?_) (fun q => absurd rfl q)
  refine Rn_n ZX_ok 1 rfl trivial ?_
  exact Rn_iret rfl rfl
theorem x_sign (s : SX) (h : s.1 3 0 = 0) (x0 : Int32) (x1 : Int32) : Ev ZX mX11_sign [.ref 0, .int x0, .int x1] s (some (.int (-1))) s := by
  refine Ev_V vX11_sign rfl ?_
  refine Rn_n ZX_ok 2 rfl trivial ?_
  refine Rn_V vX11_isSentence (x_isSentence s h x0) rfl k11_168 rfl rfl rfl (zx0 s rfl) rfl ?_
  refine Rn_b rfl (fun q => absurd rfl q) (fun _ => ?_)
  refine Rn_n ZX_ok 1 rfl trivial ?_
  exact Rn_iret rfl rfl
theorem x_name (s : SX) (h : s.1 3 1 = 0) (x0 : Int32) (x1 : Int32) : Ev ZX mX11_name [.ref 0, .int x0, .int x1] s (some (.int (-1))) s := by
  refine Ev_V vX11_name rfl ?_
  refine Rn_n ZX_ok 2 rfl trivial ?_
  refine Rn_V vX11_isName (x_isName s h x0) rfl k11_176 rfl rfl rfl (zx0 s rfl) rfl ?_
  refine Rn_b rfl (fun q => absurd rfl q) (fun _ => ?_)
  refine Rn_n ZX_ok 1 rfl trivial ?_
  exact Rn_iret rfl rfl
theorem x_trees (s : SX) (h : s.1 3 1 = 0) (x0 : Int32) (x1 : Int32) (x2 : Int32) : Ev ZX mX11_trees [.ref 0, .int x0, .int x1, .int x2] s (some (.int (-1))) s := by
  refine Ev_V vX11_trees rfl ?_
  refine Rn_n ZX_ok 2 rfl trivial ?_
  refine Rn_V vX11_isName (x_isName s h x0) rfl k11_176 rfl rfl rfl (zx0 s rfl) rfl ?_
  refine Rn_b rfl (fun _ => ?_) (fun q => absurd rfl q)
  refine Rn_n ZX_ok 1 rfl trivial ?_
  exact Rn_iret rfl rfl
theorem x_names (s : SX) (h : s.1 3 0 = 0) (x0 : Int32) : Ev ZX mX11_names [.ref 0, .int x0] s (some (.int (-1))) s := by
  refine Ev_V vX11_names rfl ?_
  refine Rn_n ZX_ok 3 rfl trivial ?_
  refine Rn_b rfl (fun q => absurd h q) (fun _ => ?_)
  refine Rn_n ZX_ok 1 rfl trivial ?_
  exact Rn_iret rfl rfl
theorem x_toggle (s : SX) (h : s.1 3 0 = 0) (x0 : Int32) : Ev ZX mX11_toggle [.ref 0, .int x0] s (some (.int (-1))) s := by
  refine Ev_V vX11_toggle rfl ?_
  refine Rn_n ZX_ok 2 rfl trivial ?_
  refine Rn_V vX11_isRule (x_isRule s h x0) rfl k11_139 rfl rfl rfl (zx0 s rfl) rfl ?_
  refine Rn_b rfl (fun q => absurd rfl q) (fun _ => ?_)
  refine Rn_n ZX_ok 1 rfl trivial ?_
  exact Rn_iret rfl rfl
theorem x_prefer (s : SX) (h : s.1 3 0 = 0) (x0 : Int32) : Ev ZX mX11_prefer [.ref 0, .int x0] s (some (.int (-1))) s := by
  refine Ev_V vX11_prefer rfl ?_
  refine Rn_n ZX_ok 2 rfl trivial ?_
  refine Rn_V vX11_isEnding (x_isEnding s h x0) rfl k11_219 rfl rfl rfl (zx0 s rfl) rfl ?_
  refine Rn_b rfl (fun q => absurd rfl q) (fun _ => ?_)
  refine Rn_n ZX_ok 1 rfl trivial ?_
  exact Rn_iret rfl rfl
theorem x_undo (s : SX) (h : s.1 23 0 = 0)  : Ev ZX mX11_undo [.ref 0] s (some (.int (-1))) s := by
  refine Ev_V vX11_undo rfl ?_
  refine Rn_n ZX_ok 3 rfl trivial ?_
  refine Rn_b rfl (fun q => absurd h q) (fun _ => ?_)
  refine Rn_n ZX_ok 1 rfl trivial ?_
  exact Rn_iret rfl rfl
theorem x_states (s : SX) (h : s.1 3 0 = 0) (x0 : Int32) : Ev ZX mX11_states [.ref 0, .int x0] s (some (.int (-1))) s := by
  refine Ev_V vX11_states rfl ?_
  refine Rn_n ZX_ok 2 rfl trivial ?_
  refine Rn_V vX11_isThere (x_isThere s h x0) rfl k11_251 rfl rfl rfl (zx0 s rfl) rfl ?_
  refine Rn_b rfl (fun _ => ?_) (fun q => absurd rfl q)
  refine Rn_n ZX_ok 1 rfl trivial ?_
  exact Rn_iret rfl rfl
theorem x_look (s : SX) (h : s.1 3 0 = 0) (x0 : Int32) (x1 : Int32) (x2 : Int32) (x3 : Int32) (x4 : Int32) : Ev ZX mX11_look [.ref 0, .int x0, .int x1, .int x2, .int x3, .int x4] s (some (.int (-1))) s := by
  refine Ev_V vX11_look rfl ?_
  refine Rn_n ZX_ok 2 rfl trivial ?_
  refine Rn_V vX11_isThere (x_isThere s h x0) rfl k11_251 rfl rfl rfl (zx0 s rfl) rfl ?_
  refine Rn_b rfl (fun _ => ?_) (fun q => absurd rfl q)
  refine Rn_n ZX_ok 1 rfl trivial ?_
  exact Rn_iret rfl rfl
theorem x_state (s : SX) (h : s.1 3 0 = 0) (x0 : Int32) (x1 : Int32) (x2 : Int32) : Ev ZX mX11_state [.ref 0, .int x0, .int x1, .int x2] s (some (.int (-1))) s := by
  refine Ev_V vX11_state rfl ?_
  refine Rn_n ZX_ok 2 rfl trivial ?_
  refine Rn_V vX11_isThere (x_isThere s h x0) rfl k11_251 rfl rfl rfl (zx0 s rfl) rfl ?_
  refine Rn_b rfl (fun _ => ?_) (fun q => absurd rfl q)
  refine Rn_n ZX_ok 1 rfl trivial ?_
  exact Rn_iret rfl rfl
theorem x_goesTo (s : SX) (h : s.1 3 0 = 0) (x0 : Int32) (x1 : Int32) (x2 : Int32) : Ev ZX mX11_goesTo [.ref 0, .int x0, .int x1, .int x2] s (some (.int (-1))) s := by
  refine Ev_V vX11_goesTo rfl ?_
  refine Rn_n ZX_ok 2 rfl trivial ?_
  refine Rn_V vX11_isThere (x_isThere s h x0) rfl k11_251 rfl rfl rfl (zx0 s rfl) rfl ?_
  refine Rn_b rfl (fun _ => ?_) (fun q => absurd rfl q)
  refine Rn_n ZX_ok 1 rfl trivial ?_
  exact Rn_iret rfl rfl
theorem x_bridge (s : SX) (h : s.1 3 0 = 0) (x0 : Int32) (x1 : Int32) (x2 : Int32) (x3 : Int32) : Ev ZX mX11_bridge [.ref 0, .int x0, .int x1, .int x2, .int x3] s (some (.int (-1))) s := by
  refine Ev_V vX11_bridge rfl ?_
  refine Rn_n ZX_ok 2 rfl trivial ?_
  refine Rn_V vX11_isThere (x_isThere s h x0) rfl k11_251 rfl rfl rfl (zx0 s rfl) rfl ?_
  refine Rn_b rfl (fun _ => ?_) (fun q => absurd rfl q)
  refine Rn_n ZX_ok 1 rfl trivial ?_
  exact Rn_iret rfl rfl
theorem x_counts (s : SX) (h : s.1 3 0 = 0) (x0 : Int32) (x1 : Int32) : Ev ZX mX11_counts [.ref 0, .int x0, .int x1] s (some (.int (-1))) s := by
  refine Ev_V vX11_counts rfl ?_
  refine Rn_n ZX_ok 2 rfl trivial ?_
  refine Rn_V vX11_isThere (x_isThere s h x0) rfl k11_251 rfl rfl rfl (zx0 s rfl) rfl ?_
  refine Rn_b rfl (fun q => absurd rfl q) (fun _ => ?_)
  refine Rn_n ZX_ok 1 rfl trivial ?_
  exact Rn_iret rfl rfl
theorem x_path (s : SX) (h : s.1 3 0 = 0) (x0 : Int32) (x1 : Int32) (x2 : Int32) : Ev ZX mX11_path [.ref 0, .int x0, .int x1, .int x2] s (some (.int (-1))) s := by
  refine Ev_V vX11_path rfl ?_
  refine Rn_n ZX_ok 2 rfl trivial ?_
  refine Rn_V vX11_isThere (x_isThere s h x0) rfl k11_251 rfl rfl rfl (zx0 s rfl) rfl ?_
  refine Rn_b rfl (fun _ => ?_) (fun q => absurd rfl q)
  refine Rn_n ZX_ok 1 rfl trivial ?_
  exact Rn_iret rfl rfl
theorem x_reads (s : SX) (h : s.1 3 0 = 0) (x0 : Int32) (x1 : Int32) (x2 : Int32) (x3 : Int32) : Ev ZX mX11_reads [.ref 0, .int x0, .int x1, .int x2, .int x3] s (some (.int (-1))) s := by
  refine Ev_V vX11_reads rfl ?_
  refine Rn_n ZX_ok 2 rfl trivial ?_
  refine Rn_V vX11_isThere (x_isThere s h x0) rfl k11_251 rfl rfl rfl (zx0 s rfl) rfl ?_
  refine Rn_b rfl (fun _ => ?_) (fun q => absurd rfl q)
  refine Rn_n ZX_ok 1 rfl trivial ?_
  exact Rn_iret rfl rfl
theorem x_reduced (s : SX) (h : s.1 3 0 = 0) (x0 : Int32) (x1 : Int32) (x2 : Int32) (x3 : Int32) : Ev ZX mX11_reduced [.ref 0, .int x0, .int x1, .int x2, .int x3] s (some (.int (-1))) s := by
  refine Ev_V vX11_reduced rfl ?_
  refine Rn_n ZX_ok 2 rfl trivial ?_
  refine Rn_V vX11_isThere (x_isThere s h x0) rfl k11_251 rfl rfl rfl (zx0 s rfl) rfl ?_
  refine Rn_b rfl (fun _ => ?_) (fun q => absurd rfl q)
  refine Rn_n ZX_ok 1 rfl trivial ?_
  exact Rn_iret rfl rfl
theorem x_expects (s : SX) (h : s.1 3 0 = 0) (x0 : Int32) (x1 : Int32) : Ev ZX mX11_expects [.ref 0, .int x0, .int x1] s (some (.int (-1))) s := by
  refine Ev_V vX11_expects rfl ?_
  refine Rn_n ZX_ok 2 rfl trivial ?_
  refine Rn_V vX11_isThere (x_isThere s h x0) rfl k11_251 rfl rfl rfl (zx0 s rfl) rfl ?_
  refine Rn_b rfl (fun _ => ?_) (fun q => absurd rfl q)
  refine Rn_n ZX_ok 1 rfl trivial ?_
  exact Rn_iret rfl rfl
theorem x_mends (s : SX) (h : s.1 3 0 = 0) (x0 : Int32) (x1 : Int32) : Ev ZX mX11_mends [.ref 0, .int x0, .int x1] s (some (.int (-1))) s := by
  refine Ev_V vX11_mends rfl ?_
  refine Rn_n ZX_ok 2 rfl trivial ?_
  refine Rn_V vX11_isThere (x_isThere s h x0) rfl k11_251 rfl rfl rfl (zx0 s rfl) rfl ?_
  refine Rn_b rfl (fun _ => ?_) (fun q => absurd rfl q)
  refine Rn_n ZX_ok 1 rfl trivial ?_
  exact Rn_iret rfl rfl
theorem x_tree (s : SX) (h : s.1 3 0 = 0) (x0 : Int32) (x1 : Int32) (x2 : Int32) (x3 : Int32) : Ev ZX mX11_tree [.ref 0, .int x0, .int x1, .int x2, .int x3] s (some (.int (-1))) s := by
  refine Ev_V vX11_tree rfl ?_
  refine Rn_n ZX_ok 2 rfl trivial ?_
  refine Rn_V vX11_isThere (x_isThere s h x0) rfl k11_251 rfl rfl rfl (zx0 s rfl) rfl ?_
  refine Rn_b rfl (fun _ => ?_) (fun q => absurd rfl q)
  refine Rn_n ZX_ok 1 rfl trivial ?_
  exact Rn_iret rfl rfl
theorem x_same (s : SX) (h : s.1 3 0 = 0) (x0 : Int32) (x1 : Int32) (x2 : Int32) : Ev ZX mX11_same [.ref 0, .int x0, .int x1, .int x2] s (some (.int (-1))) s := by
  refine Ev_V vX11_same rfl ?_
  refine Rn_n ZX_ok 2 rfl trivial ?_
  refine Rn_V vX11_isThere (x_isThere s h x0) rfl k11_251 rfl rfl rfl (zx0 s rfl) rfl ?_
  refine Rn_b rfl (fun _ => ?_) (fun q => absurd rfl q)
  refine Rn_n ZX_ok 1 rfl trivial ?_
  exact Rn_iret rfl rfl
theorem x_action (s : SX) (h : s.1 3 0 = 0) (x0 : Int32) (x1 : Int32) (x2 : Int32) (x3 : Int32) : Ev ZX mX11_action [.ref 0, .int x0, .int x1, .int x2, .int x3] s (some (.int (-1000000))) s := by
  refine Ev_V vX11_action rfl ?_
  refine Rn_n ZX_ok 2 rfl trivial ?_
  refine Rn_V vX11_isThere (x_isThere s h x0) rfl k11_251 rfl rfl rfl (zx0 s rfl) rfl ?_
  refine Rn_b rfl (fun _ => ?_) (fun q => absurd rfl q)
  refine Rn_n ZX_ok 1 rfl trivial ?_
  exact Rn_iret rfl rfl
theorem x_sorts (s : SX) (h : s.1 3 0 = 0)  : Ev ZX mX11_sorts [.ref 0] s (some (.int (-1))) s := by
  refine Ev_V vX11_sorts rfl ?_
  refine Rn_n ZX_ok 3 rfl trivial ?_
  refine Rn_b rfl (fun q => absurd h q) (fun _ => ?_)
  refine Rn_n ZX_ok 1 rfl trivial ?_
  exact Rn_iret rfl rfl
theorem x_image (s : SX) (h : s.1 3 0 = 0)  : Ev ZX mX11_image [.ref 0] s (some (.int (-1))) s := by
  refine Ev_V vX11_image rfl ?_
  refine Rn_n ZX_ok 3 rfl trivial ?_
  refine Rn_b rfl (fun q => absurd h q) (fun _ => ?_)
  refine Rn_n ZX_ok 1 rfl trivial ?_
  exact Rn_iret rfl rfl
theorem x_back (s : SX) (h : s.1 23 1 = 0)  : Ev ZX mX11_back [.ref 0] s (some (.int (-1))) s := by
  refine Ev_V vX11_back rfl ?_
  refine Rn_n ZX_ok 3 rfl trivial ?_
  refine Rn_b rfl (fun q => absurd h q) (fun _ => ?_)
  refine Rn_n ZX_ok 1 rfl trivial ?_
  exact Rn_iret rfl rfl
theorem x_word (s : SX) (h : s.1 3 0 = 0) (x0 : Int64) (x1 : Int32) : Ev ZX mX11_word [.ref 0, .long x0, .int x1] s (some (.int (-1))) s := by
  refine Ev_V vX11_word rfl ?_
  refine Rn_n ZX_ok 3 rfl trivial ?_
  refine Rn_b rfl (fun _ => ?_) (fun q => absurd h q)
  refine Rn_n ZX_ok 1 rfl trivial ?_
  exact Rn_iret rfl rfl
theorem x_keep (s : SX) (h : s.1 3 0 = 0) (x0 : Int64) : Ev ZX mX11_keep [.ref 0, .long x0] s (some (.int (-1))) s := by
  refine Ev_V vX11_keep rfl ?_
  refine Rn_n ZX_ok 3 rfl trivial ?_
  refine Rn_b rfl (fun _ => ?_) (fun q => absurd h q)
  refine Rn_n ZX_ok 1 rfl trivial ?_
  exact Rn_iret rfl rfl
