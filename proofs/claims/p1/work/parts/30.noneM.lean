/-! While there is no grammar: what most methods answer. -/
theorem inB_no {x m : Int32} (h : m = 0) : inB x 0 (m - 1) = false := by
  subst h
  unfold inB
  rw [Bool.and_eq_false_iff]
  by_cases q : (0 : Int32) ≤ x
  · refine Or.inr (decide_eq_false fun z => ?_)
    rw [Int32.le_iff_toInt_le] at q z
    have e1 : (0 - 1 : Int32).toInt = -1 := by decide
    have e0 : (0 : Int32).toInt = 0 := by decide
    omega
  · exact Or.inl (decide_eq_false q)
theorem n_isThere (s : SM) (h : s.1 15 = 0) (x0 : Int32) : Ev ZR mX12_isThere [.ref 0, .int x0] s (some (.int (0))) s := by
  refine Ev_V vX12_isThere rfl ?_
  refine Rn_n ZR_ok 2 rfl trivial ?_
  refine Rn_b rfl (fun _ => ?_) (fun q => absurd h q)
  refine Rn_n ZR_ok 1 rfl trivial ?_
  exact Rn_zret rfl rfl (Or.inl rfl)
theorem n_isState (s : SM) (h : s.1 15 = 0) (x0 : Int32) (x1 : Int32) : Ev ZR mX12_isState [.ref 0, .int x0, .int x1] s (some (.int (0))) s := by
  refine Ev_V vX12_isState rfl ?_
  refine Rn_n ZR_ok 2 rfl trivial ?_
  refine Rn_V vX12_isThere (n_isThere s h _) rfl k12_424 rfl rfl rfl rfl rfl ?_
  refine Rn_b rfl (fun _ => ?_) (fun q => absurd rfl q)
  refine Rn_n ZR_ok 1 rfl trivial ?_
  exact Rn_zret rfl rfl (Or.inl rfl)
theorem n_canRead (s : SM) (h : s.1 15 = 0) (x0 : Int32) (x1 : Int32) : Ev ZR mX12_canRead [.ref 0, .int x0, .int x1] s (some (.int (0))) s := by
  refine Ev_V vX12_canRead rfl ?_
  refine Rn_n ZR_ok 2 rfl trivial ?_
  refine Rn_V vX12_isThere (n_isThere s h _) rfl k12_424 rfl rfl rfl rfl rfl ?_
  refine Rn_b rfl (fun _ => ?_) (fun q => absurd rfl q)
  refine Rn_n ZR_ok 1 rfl trivial ?_
  exact Rn_zret rfl rfl (Or.inl rfl)
theorem n_isRule (s : SM) (h : s.1 15 = 0) (x0 : Int32) : Ev ZR mX12_isRule [.ref 0, .int x0] s (some (.int 0)) s := Ev_to (e_isRule s x0) (by rw [inB_no h]; rfl) rfl
theorem e_isNamed (s : SM) (r : Int32) : Ev ZR mX12_isNamed [.ref 0, .int r] s (some (.int (bI (inB r 0 (s.1 16 - 1))))) s := by
  refine Ev_V vX12_isNamed rfl ?_
  refine Rn_n ZR_ok 6 rfl trivial ?_
  refine Rn_S vX12_in (e_in s r 0 (s.1 16 - 1)) rfl k12_170 rfl rfl rfl rfl ?_
  exact Rn_zret rfl rfl (bI_01 _)
theorem n_isNamed (s : SM) (h : s.1 16 = 0) (x0 : Int32) : Ev ZR mX12_isNamed [.ref 0, .int x0] s (some (.int 0)) s := Ev_to (e_isNamed s x0) (by rw [inB_no h]; rfl) rfl
theorem n_letter (s : SM) (h : s.1 15 = 0) (x0 : Int32) (x1 : Int32) : Ev ZR mX12_letter [.ref 0, .int x0, .int x1] s (some (.int (-1))) s := by
  refine Ev_V vX12_letter rfl ?_
  refine Rn_n ZR_ok 2 rfl trivial ?_
  refine Rn_V vX12_isRule (n_isRule s h _) rfl k12_266 rfl rfl rfl rfl rfl ?_
  refine Rn_b rfl (fun _ => ?_) (fun q => absurd rfl q)
  refine Rn_n ZR_ok 1 rfl trivial ?_
  exact Rn_iret rfl rfl
theorem n_sign (s : SM) (h : s.1 15 = 0) (x0 : Int32) (x1 : Int32) : Ev ZR mX12_sign [.ref 0, .int x0, .int x1] s (some (.int (-1))) s := by
  refine Ev_V vX12_sign rfl ?_
  refine Rn_n ZR_ok 2 rfl trivial ?_
  refine Rn_b rfl (fun _ => ?_) (fun q => absurd h q)
  refine Rn_n ZR_ok 1 rfl trivial ?_
  exact Rn_iret rfl rfl
theorem n_name (s : SM) (h : s.1 16 = 0) (x0 : Int32) (x1 : Int32) : Ev ZR mX12_name [.ref 0, .int x0, .int x1] s (some (.int (-1))) s := by
  refine Ev_V vX12_name rfl ?_
  refine Rn_n ZR_ok 2 rfl trivial ?_
  refine Rn_V vX12_isNamed (n_isNamed s h _) rfl k12_310 rfl rfl rfl rfl rfl ?_
  refine Rn_b rfl (fun _ => ?_) (fun q => absurd rfl q)
  refine Rn_n ZR_ok 1 rfl trivial ?_
  exact Rn_iret rfl rfl
theorem n_trees (s : SM) (h : s.1 16 = 0) (x0 : Int32) (x1 : Int32) (x2 : Int32) : Ev ZR mX12_trees [.ref 0, .int x0, .int x1, .int x2] s (some (.int (-1))) s := by
  refine Ev_V vX12_trees rfl ?_
  refine Rn_n ZR_ok 2 rfl trivial ?_
  refine Rn_V vX12_isNamed (n_isNamed s h _) rfl k12_310 rfl rfl rfl rfl rfl ?_
  refine Rn_b rfl (fun _ => ?_) (fun q => absurd rfl q)
  refine Rn_n ZR_ok 1 rfl trivial ?_
  exact Rn_iret rfl rfl
theorem n_names (s : SM) (h : s.1 15 = 0) (x0 : Int32) : Ev ZR mX12_names [.ref 0, .int x0] s (some (.int (-1))) s := by
  refine Ev_V vX12_names rfl ?_
  refine Rn_n ZR_ok 2 rfl trivial ?_
  refine Rn_b rfl (fun _ => ?_) (fun q => absurd h q)
  refine Rn_n ZR_ok 1 rfl trivial ?_
  exact Rn_iret rfl rfl
theorem n_toggle (s : SM) (h : s.1 15 = 0) (x0 : Int32) : Ev ZR mX12_toggle [.ref 0, .int x0] s (some (.int (-1))) s := by
  refine Ev_V vX12_toggle rfl ?_
  refine Rn_n ZR_ok 2 rfl trivial ?_
  refine Rn_V vX12_isRule (n_isRule s h _) rfl k12_266 rfl rfl rfl rfl rfl ?_
  refine Rn_b rfl (fun q => absurd rfl q) (fun _ => ?_)
  refine Rn_n ZR_ok 1 rfl trivial ?_
  exact Rn_iret rfl rfl
theorem n_prefer (s : SM) (h : s.1 15 = 0) (x0 : Int32) : Ev ZR mX12_prefer [.ref 0, .int x0] s (some (.int (-1))) s := by
  refine Ev_V vX12_prefer rfl ?_
  refine Rn_n ZR_ok 2 rfl trivial ?_
  refine Rn_b rfl (fun _ => ?_) (fun q => absurd h q)
  refine Rn_n ZR_ok 1 rfl trivial ?_
  exact Rn_iret rfl rfl
theorem n_undo (s : SM) (h : s.1 37 = 0) : Ev ZR mX12_undo [.ref 0] s (some (.int (-1))) s := by
  refine Ev_V vX12_undo rfl ?_
  refine Rn_n ZR_ok 2 rfl trivial ?_
  refine Rn_b rfl (fun q => absurd h q) (fun _ => ?_)
  refine Rn_n ZR_ok 1 rfl trivial ?_
  exact Rn_iret rfl rfl
theorem n_states (s : SM) (h : s.1 15 = 0) (x0 : Int32) : Ev ZR mX12_states [.ref 0, .int x0] s (some (.int (-1))) s := by
  refine Ev_V vX12_states rfl ?_
  refine Rn_n ZR_ok 2 rfl trivial ?_
  refine Rn_V vX12_isThere (n_isThere s h _) rfl k12_424 rfl rfl rfl rfl rfl ?_
  refine Rn_b rfl (fun _ => ?_) (fun q => absurd rfl q)
  refine Rn_n ZR_ok 1 rfl trivial ?_
  exact Rn_iret rfl rfl
theorem n_counts (s : SM) (h : s.1 15 = 0) (x0 : Int32) (x1 : Int32) : Ev ZR mX12_counts [.ref 0, .int x0, .int x1] s (some (.int (-1))) s := by
  refine Ev_V vX12_counts rfl ?_
  refine Rn_n ZR_ok 2 rfl trivial ?_
  refine Rn_V vX12_isThere (n_isThere s h _) rfl k12_424 rfl rfl rfl rfl rfl ?_
  refine Rn_b rfl (fun _ => ?_) (fun q => absurd rfl q)
  refine Rn_n ZR_ok 1 rfl trivial ?_
  exact Rn_iret rfl rfl
theorem n_look (s : SM) (h : s.1 15 = 0) (x0 : Int32) (x1 : Int32) (x2 : Int32) (x3 : Int32) (x4 : Int32) : Ev ZR mX12_look [.ref 0, .int x0, .int x1, .int x2, .int x3, .int x4] s (some (.int (-1))) s := by
  refine Ev_V vX12_look rfl ?_
  refine Rn_n ZR_ok 3 rfl trivial ?_
  refine Rn_V vX12_isState (n_isState s h _ _) rfl k12_427 rfl rfl rfl rfl rfl ?_
  refine Rn_b rfl (fun _ => ?_) (fun q => absurd rfl q)
  refine Rn_n ZR_ok 1 rfl trivial ?_
  exact Rn_iret rfl rfl
theorem n_state (s : SM) (h : s.1 15 = 0) (x0 : Int32) (x1 : Int32) (x2 : Int32) : Ev ZR mX12_state [.ref 0, .int x0, .int x1, .int x2] s (some (.int (-1))) s := by
  refine Ev_V vX12_state rfl ?_
  refine Rn_n ZR_ok 3 rfl trivial ?_
  refine Rn_V vX12_isState (n_isState s h _ _) rfl k12_427 rfl rfl rfl rfl rfl ?_
  refine Rn_b rfl (fun _ => ?_) (fun q => absurd rfl q)
  refine Rn_n ZR_ok 1 rfl trivial ?_
  exact Rn_iret rfl rfl
theorem n_goesTo (s : SM) (h : s.1 15 = 0) (x0 : Int32) (x1 : Int32) (x2 : Int32) : Ev ZR mX12_goesTo [.ref 0, .int x0, .int x1, .int x2] s (some (.int (-1))) s := by
  refine Ev_V vX12_goesTo rfl ?_
  refine Rn_n ZR_ok 3 rfl trivial ?_
  refine Rn_V vX12_isState (n_isState s h _ _) rfl k12_427 rfl rfl rfl rfl rfl ?_
  refine Rn_b rfl (fun _ => ?_) (fun q => absurd rfl q)
  refine Rn_n ZR_ok 1 rfl trivial ?_
  exact Rn_iret rfl rfl
theorem n_bridge (s : SM) (h : s.1 15 = 0) (x0 : Int32) (x1 : Int32) (x2 : Int32) (x3 : Int32) : Ev ZR mX12_bridge [.ref 0, .int x0, .int x1, .int x2, .int x3] s (some (.int (-1))) s := by
  refine Ev_V vX12_bridge rfl ?_
  refine Rn_n ZR_ok 3 rfl trivial ?_
  refine Rn_V vX12_isState (n_isState s h _ _) rfl k12_427 rfl rfl rfl rfl rfl ?_
  refine Rn_b rfl (fun _ => ?_) (fun q => absurd rfl q)
  refine Rn_n ZR_ok 1 rfl trivial ?_
  exact Rn_iret rfl rfl
theorem n_path (s : SM) (h : s.1 15 = 0) (x0 : Int32) (x1 : Int32) (x2 : Int32) : Ev ZR mX12_path [.ref 0, .int x0, .int x1, .int x2] s (some (.int (-1))) s := by
  refine Ev_V vX12_path rfl ?_
  refine Rn_n ZR_ok 3 rfl trivial ?_
  refine Rn_V vX12_isState (n_isState s h _ _) rfl k12_427 rfl rfl rfl rfl rfl ?_
  refine Rn_b rfl (fun _ => ?_) (fun q => absurd rfl q)
  refine Rn_n ZR_ok 1 rfl trivial ?_
  exact Rn_iret rfl rfl
theorem n_action (s : SM) (h : s.1 15 = 0) (x0 : Int32) (x1 : Int32) (x2 : Int32) (x3 : Int32) : Ev ZR mX12_action [.ref 0, .int x0, .int x1, .int x2, .int x3] s (some (.int (-1000000))) s := by
  refine Ev_V vX12_action rfl ?_
  refine Rn_n ZR_ok 3 rfl trivial ?_
  refine Rn_V vX12_isState (n_isState s h _ _) rfl k12_427 rfl rfl rfl rfl rfl ?_
  refine Rn_b rfl (fun _ => ?_) (fun q => absurd rfl q)
  refine Rn_n ZR_ok 1 rfl trivial ?_
  exact Rn_iret rfl rfl
theorem n_reads (s : SM) (h : s.1 15 = 0) (x0 : Int32) (x1 : Int32) (x2 : Int32) (x3 : Int32) : Ev ZR mX12_reads [.ref 0, .int x0, .int x1, .int x2, .int x3] s (some (.int (-1))) s := by
  refine Ev_V vX12_reads rfl ?_
  refine Rn_n ZR_ok 3 rfl trivial ?_
  refine Rn_V vX12_canRead (n_canRead s h _ _) rfl k12_497 rfl rfl rfl rfl rfl ?_
  refine Rn_b rfl (fun _ => ?_) (fun q => absurd rfl q)
  refine Rn_n ZR_ok 1 rfl trivial ?_
  exact Rn_iret rfl rfl
theorem n_reduced (s : SM) (h : s.1 15 = 0) (x0 : Int32) (x1 : Int32) (x2 : Int32) (x3 : Int32) : Ev ZR mX12_reduced [.ref 0, .int x0, .int x1, .int x2, .int x3] s (some (.int (-1))) s := by
  refine Ev_V vX12_reduced rfl ?_
  refine Rn_n ZR_ok 3 rfl trivial ?_
  refine Rn_V vX12_canRead (n_canRead s h _ _) rfl k12_497 rfl rfl rfl rfl rfl ?_
  refine Rn_b rfl (fun _ => ?_) (fun q => absurd rfl q)
  refine Rn_n ZR_ok 1 rfl trivial ?_
  exact Rn_iret rfl rfl
theorem n_tree (s : SM) (h : s.1 15 = 0) (x0 : Int32) (x1 : Int32) (x2 : Int32) (x3 : Int32) : Ev ZR mX12_tree [.ref 0, .int x0, .int x1, .int x2, .int x3] s (some (.int (-1))) s := by
  refine Ev_V vX12_tree rfl ?_
  refine Rn_n ZR_ok 3 rfl trivial ?_
  refine Rn_V vX12_canRead (n_canRead s h _ _) rfl k12_497 rfl rfl rfl rfl rfl ?_
  refine Rn_b rfl (fun _ => ?_) (fun q => absurd rfl q)
  refine Rn_n ZR_ok 1 rfl trivial ?_
  exact Rn_iret rfl rfl
theorem n_expects (s : SM) (h : s.1 15 = 0) (x0 : Int32) (x1 : Int32) : Ev ZR mX12_expects [.ref 0, .int x0, .int x1] s (some (.int (-1))) s := by
  refine Ev_V vX12_expects rfl ?_
  refine Rn_n ZR_ok 3 rfl trivial ?_
  refine Rn_V vX12_canRead (n_canRead s h _ _) rfl k12_497 rfl rfl rfl rfl rfl ?_
  refine Rn_b rfl (fun q => absurd rfl q) (fun _ => ?_)
  refine Rn_n ZR_ok 1 rfl trivial ?_
  exact Rn_iret rfl rfl
theorem n_mends (s : SM) (h : s.1 15 = 0) (x0 : Int32) (x1 : Int32) : Ev ZR mX12_mends [.ref 0, .int x0, .int x1] s (some (.int (-1))) s := by
  refine Ev_V vX12_mends rfl ?_
  refine Rn_n ZR_ok 3 rfl trivial ?_
  refine Rn_V vX12_canRead (n_canRead s h _ _) rfl k12_497 rfl rfl rfl rfl rfl ?_
  refine Rn_b rfl (fun q => absurd rfl q) (fun _ => ?_)
  refine Rn_n ZR_ok 1 rfl trivial ?_
  exact Rn_iret rfl rfl
theorem n_same (s : SM) (h : s.1 15 = 0) (x0 : Int32) (x1 : Int32) (x2 : Int32) : Ev ZR mX12_same [.ref 0, .int x0, .int x1, .int x2] s (some (.int (-1))) s := by
  refine Ev_V vX12_same rfl ?_
  refine Rn_n ZR_ok 2 rfl trivial ?_
  refine Rn_V vX12_isThere (n_isThere s h _) rfl k12_424 rfl rfl rfl rfl rfl ?_
  refine Rn_b rfl (fun _ => ?_) (fun q => absurd rfl q)
  refine Rn_n ZR_ok 1 rfl trivial ?_
  exact Rn_iret rfl rfl
theorem n_sorts (s : SM) (h : s.1 15 = 0) : Ev ZR mX12_sorts [.ref 0] s (some (.int (-1))) s := by
  refine Ev_V vX12_sorts rfl ?_
  refine Rn_n ZR_ok 2 rfl trivial ?_
  refine Rn_b rfl (fun q => absurd h q) (fun _ => ?_)
  refine Rn_n ZR_ok 1 rfl trivial ?_
  exact Rn_iret rfl rfl
theorem n_image (s : SM) (h : s.1 15 = 0) : Ev ZR mX12_image [.ref 0] s (some (.int (-1))) s := by
  refine Ev_V vX12_image rfl ?_
  refine Rn_n ZR_ok 2 rfl trivial ?_
  refine Rn_b rfl (fun q => absurd h q) (fun _ => ?_)
  refine Rn_n ZR_ok 1 rfl trivial ?_
  exact Rn_iret rfl rfl
theorem n_back (s : SM) (h : s.1 77 = 0) : Ev ZR mX12_back [.ref 0] s (some (.int (-1))) s := by
  refine Ev_V vX12_back rfl ?_
  refine Rn_n ZR_ok 2 rfl trivial ?_
  refine Rn_b rfl (fun q => absurd h q) (fun _ => ?_)
  refine Rn_n ZR_ok 1 rfl trivial ?_
  exact Rn_iret rfl rfl
theorem n_layWord (s : SM) (h : s.1 15 = 0) (x : Int64) : Ev ZR mX12_layWord [.ref 0, .long x] s (some (.int 0)) s := by
  refine Ev_V vX12_layWord rfl ?_
  refine Rn_n ZR_ok 2 rfl trivial ?_
  refine Rn_b rfl (fun q => absurd h q) (fun _ => ?_)
  refine Rn_n ZR_ok 1 rfl trivial ?_
  exact Rn_zret rfl rfl (Or.inl rfl)
theorem n_word (s : SM) (h : s.1 15 = 0) (x0 : Int64) (x1 : Int32) : Ev ZR mX12_word [.ref 0, .long x0, .int x1] s (some (.int (-1))) s := by
  refine Ev_V vX12_word rfl ?_
  refine Rn_n ZR_ok 2 rfl trivial ?_
  refine Rn_V vX12_layWord (n_layWord s h _) rfl k12_566 rfl rfl rfl rfl rfl ?_
  refine Rn_b rfl (fun _ => ?_) (fun q => absurd rfl q)
  refine Rn_n ZR_ok 1 rfl trivial ?_
  exact Rn_iret rfl rfl
theorem n_keep (s : SM) (h : s.1 15 = 0) (x0 : Int64) : Ev ZR mX12_keep [.ref 0, .long x0] s (some (.int (-1))) s := by
  refine Ev_V vX12_keep rfl ?_
  refine Rn_n ZR_ok 2 rfl trivial ?_
  refine Rn_V vX12_layWord (n_layWord s h _) rfl k12_566 rfl rfl rfl rfl rfl ?_
  refine Rn_b rfl (fun _ => ?_) (fun q => absurd rfl q)
  refine Rn_n ZR_ok 1 rfl trivial ?_
  exact Rn_iret rfl rfl
