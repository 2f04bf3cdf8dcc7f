/-! A kind that is none: no automaton is there; both sides. -/
theorem xo_states {s : SX} {x0 : Int32} (h : Ev ZX mX11_isThere [.ref 0, .int x0] s (some (.int 0)) s) : Ev ZX mX11_states [.ref 0, .int x0] s (some (.int (-1))) s := by
  refine Ev_V vX11_states rfl ?_
  refine Rn_n ZX_ok 2 rfl trivial ?_
  refine Rn_V vX11_isThere h rfl k11_251 rfl rfl rfl (zx0 s rfl) rfl ?_
  refine Rn_b rfl (fun _ => ?_) (fun q => absurd rfl q)
  refine Rn_n ZX_ok 1 rfl trivial ?_
  exact Rn_iret rfl rfl
theorem xo_look {s : SX} {x0 : Int32} (h : Ev ZX mX11_isThere [.ref 0, .int x0] s (some (.int 0)) s) (x1 : Int32) (x2 : Int32) (x3 : Int32) (x4 : Int32) : Ev ZX mX11_look [.ref 0, .int x0, .int x1, .int x2, .int x3, .int x4] s (some (.int (-1))) s := by
  refine Ev_V vX11_look rfl ?_
  refine Rn_n ZX_ok 2 rfl trivial ?_
  refine Rn_V vX11_isThere h rfl k11_251 rfl rfl rfl (zx0 s rfl) rfl ?_
  refine Rn_b rfl (fun _ => ?_) (fun q => absurd rfl q)
  refine Rn_n ZX_ok 1 rfl trivial ?_
  exact Rn_iret rfl rfl
theorem xo_state {s : SX} {x0 : Int32} (h : Ev ZX mX11_isThere [.ref 0, .int x0] s (some (.int 0)) s) (x1 : Int32) (x2 : Int32) : Ev ZX mX11_state [.ref 0, .int x0, .int x1, .int x2] s (some (.int (-1))) s := by
  refine Ev_V vX11_state rfl ?_
  refine Rn_n ZX_ok 2 rfl trivial ?_
  refine Rn_V vX11_isThere h rfl k11_251 rfl rfl rfl (zx0 s rfl) rfl ?_
  refine Rn_b rfl (fun _ => ?_) (fun q => absurd rfl q)
  refine Rn_n ZX_ok 1 rfl trivial ?_
  exact Rn_iret rfl rfl
theorem xo_goesTo {s : SX} {x0 : Int32} (h : Ev ZX mX11_isThere [.ref 0, .int x0] s (some (.int 0)) s) (x1 : Int32) (x2 : Int32) : Ev ZX mX11_goesTo [.ref 0, .int x0, .int x1, .int x2] s (some (.int (-1))) s := by
  refine Ev_V vX11_goesTo rfl ?_
  refine Rn_n ZX_ok 2 rfl trivial ?_
  refine Rn_V vX11_isThere h rfl k11_251 rfl rfl rfl (zx0 s rfl) rfl ?_
  refine Rn_b rfl (fun _ => ?_) (fun q => absurd rfl q)
  refine Rn_n ZX_ok 1 rfl trivial ?_
  exact Rn_iret rfl rfl
theorem xo_bridge {s : SX} {x0 : Int32} (h : Ev ZX mX11_isThere [.ref 0, .int x0] s (some (.int 0)) s) (x1 : Int32) (x2 : Int32) (x3 : Int32) : Ev ZX mX11_bridge [.ref 0, .int x0, .int x1, .int x2, .int x3] s (some (.int (-1))) s := by
  refine Ev_V vX11_bridge rfl ?_
  refine Rn_n ZX_ok 2 rfl trivial ?_
  refine Rn_V vX11_isThere h rfl k11_251 rfl rfl rfl (zx0 s rfl) rfl ?_
  refine Rn_b rfl (fun _ => ?_) (fun q => absurd rfl q)
  refine Rn_n ZX_ok 1 rfl trivial ?_
  exact Rn_iret rfl rfl
theorem xo_counts {s : SX} {x0 : Int32} (h : Ev ZX mX11_isThere [.ref 0, .int x0] s (some (.int 0)) s) (x1 : Int32) : Ev ZX mX11_counts [.ref 0, .int x0, .int x1] s (some (.int (-1))) s := by
  refine Ev_V vX11_counts rfl ?_
  refine Rn_n ZX_ok 2 rfl trivial ?_
  refine Rn_V vX11_isThere h rfl k11_251 rfl rfl rfl (zx0 s rfl) rfl ?_
  refine Rn_b rfl (fun q => absurd rfl q) (fun _ => ?_)
  refine Rn_n ZX_ok 1 rfl trivial ?_
  exact Rn_iret rfl rfl
theorem xo_path {s : SX} {x0 : Int32} (h : Ev ZX mX11_isThere [.ref 0, .int x0] s (some (.int 0)) s) (x1 : Int32) (x2 : Int32) : Ev ZX mX11_path [.ref 0, .int x0, .int x1, .int x2] s (some (.int (-1))) s := by
  refine Ev_V vX11_path rfl ?_
  refine Rn_n ZX_ok 2 rfl trivial ?_
  refine Rn_V vX11_isThere h rfl k11_251 rfl rfl rfl (zx0 s rfl) rfl ?_
  refine Rn_b rfl (fun _ => ?_) (fun q => absurd rfl q)
  refine Rn_n ZX_ok 1 rfl trivial ?_
  exact Rn_iret rfl rfl
theorem xo_reads {s : SX} {x0 : Int32} (h : Ev ZX mX11_isThere [.ref 0, .int x0] s (some (.int 0)) s) (x1 : Int32) (x2 : Int32) (x3 : Int32) : Ev ZX mX11_reads [.ref 0, .int x0, .int x1, .int x2, .int x3] s (some (.int (-1))) s := by
  refine Ev_V vX11_reads rfl ?_
  refine Rn_n ZX_ok 2 rfl trivial ?_
  refine Rn_V vX11_isThere h rfl k11_251 rfl rfl rfl (zx0 s rfl) rfl ?_
  refine Rn_b rfl (fun _ => ?_) (fun q => absurd rfl q)
  refine Rn_n ZX_ok 1 rfl trivial ?_
  exact Rn_iret rfl rfl
theorem xo_reduced {s : SX} {x0 : Int32} (h : Ev ZX mX11_isThere [.ref 0, .int x0] s (some (.int 0)) s) (x1 : Int32) (x2 : Int32) (x3 : Int32) : Ev ZX mX11_reduced [.ref 0, .int x0, .int x1, .int x2, .int x3] s (some (.int (-1))) s := by
  refine Ev_V vX11_reduced rfl ?_
  refine Rn_n ZX_ok 2 rfl trivial ?_
  refine Rn_V vX11_isThere h rfl k11_251 rfl rfl rfl (zx0 s rfl) rfl ?_
  refine Rn_b rfl (fun _ => ?_) (fun q => absurd rfl q)
  refine Rn_n ZX_ok 1 rfl trivial ?_
  exact Rn_iret rfl rfl
theorem xo_expects {s : SX} {x0 : Int32} (h : Ev ZX mX11_isThere [.ref 0, .int x0] s (some (.int 0)) s) (x1 : Int32) : Ev ZX mX11_expects [.ref 0, .int x0, .int x1] s (some (.int (-1))) s := by
  refine Ev_V vX11_expects rfl ?_
  refine Rn_n ZX_ok 2 rfl trivial ?_
  refine Rn_V vX11_isThere h rfl k11_251 rfl rfl rfl (zx0 s rfl) rfl ?_
  refine Rn_b rfl (fun _ => ?_) (fun q => absurd rfl q)
  refine Rn_n ZX_ok 1 rfl trivial ?_
  exact Rn_iret rfl rfl
theorem xo_mends {s : SX} {x0 : Int32} (h : Ev ZX mX11_isThere [.ref 0, .int x0] s (some (.int 0)) s) (x1 : Int32) : Ev ZX mX11_mends [.ref 0, .int x0, .int x1] s (some (.int (-1))) s := by
  refine Ev_V vX11_mends rfl ?_
  refine Rn_n ZX_ok 2 rfl trivial ?_
  refine Rn_V vX11_isThere h rfl k11_251 rfl rfl rfl (zx0 s rfl) rfl ?_
  refine Rn_b rfl (fun _ => ?_) (fun q => absurd rfl q)
  refine Rn_n ZX_ok 1 rfl trivial ?_
  exact Rn_iret rfl rfl
theorem xo_tree {s : SX} {x0 : Int32} (h : Ev ZX mX11_isThere [.ref 0, .int x0] s (some (.int 0)) s) (x1 : Int32) (x2 : Int32) (x3 : Int32) : Ev ZX mX11_tree [.ref 0, .int x0, .int x1, .int x2, .int x3] s (some (.int (-1))) s := by
  refine Ev_V vX11_tree rfl ?_
  refine Rn_n ZX_ok 2 rfl trivial ?_
  refine Rn_V vX11_isThere h rfl k11_251 rfl rfl rfl (zx0 s rfl) rfl ?_
  refine Rn_b rfl (fun _ => ?_) (fun q => absurd rfl q)
  refine Rn_n ZX_ok 1 rfl trivial ?_
  exact Rn_iret rfl rfl
theorem xo_same {s : SX} {x0 : Int32} (h : Ev ZX mX11_isThere [.ref 0, .int x0] s (some (.int 0)) s) (x1 : Int32) (x2 : Int32) : Ev ZX mX11_same [.ref 0, .int x0, .int x1, .int x2] s (some (.int (-1))) s := by
  refine Ev_V vX11_same rfl ?_
  refine Rn_n ZX_ok 2 rfl trivial ?_
  refine Rn_V vX11_isThere h rfl k11_251 rfl rfl rfl (zx0 s rfl) rfl ?_
  refine Rn_b rfl (fun _ => ?_) (fun q => absurd rfl q)
  refine Rn_n ZX_ok 1 rfl trivial ?_
  exact Rn_iret rfl rfl
theorem xo_action {s : SX} {x0 : Int32} (h : Ev ZX mX11_isThere [.ref 0, .int x0] s (some (.int 0)) s) (x1 : Int32) (x2 : Int32) (x3 : Int32) : Ev ZX mX11_action [.ref 0, .int x0, .int x1, .int x2, .int x3] s (some (.int (-1000000))) s := by
  refine Ev_V vX11_action rfl ?_
  refine Rn_n ZX_ok 2 rfl trivial ?_
  refine Rn_V vX11_isThere h rfl k11_251 rfl rfl rfl (zx0 s rfl) rfl ?_
  refine Rn_b rfl (fun _ => ?_) (fun q => absurd rfl q)
  refine Rn_n ZX_ok 1 rfl trivial ?_
  exact Rn_iret rfl rfl
theorem no_isState {s : SM} {x0 : Int32} (h : Ev ZR mX12_isThere [.ref 0, .int x0] s (some (.int 0)) s) (x1 : Int32) : Ev ZR mX12_isState [.ref 0, .int x0, .int x1] s (some (.int (0))) s := by
  refine Ev_V vX12_isState rfl ?_
  refine Rn_n ZR_ok 2 rfl trivial ?_
  refine Rn_V vX12_isThere h rfl k12_424 rfl rfl rfl rfl rfl ?_
  refine Rn_b rfl (fun _ => ?_) (fun q => absurd rfl q)
  refine Rn_n ZR_ok 1 rfl trivial ?_
  exact Rn_zret rfl rfl (Or.inl rfl)
theorem no_canRead {s : SM} {x0 : Int32} (h : Ev ZR mX12_isThere [.ref 0, .int x0] s (some (.int 0)) s) (x1 : Int32) : Ev ZR mX12_canRead [.ref 0, .int x0, .int x1] s (some (.int (0))) s := by
  refine Ev_V vX12_canRead rfl ?_
  refine Rn_n ZR_ok 2 rfl trivial ?_
  refine Rn_V vX12_isThere h rfl k12_424 rfl rfl rfl rfl rfl ?_
  refine Rn_b rfl (fun _ => ?_) (fun q => absurd rfl q)
  refine Rn_n ZR_ok 1 rfl trivial ?_
  exact Rn_zret rfl rfl (Or.inl rfl)
theorem no_states {s : SM} {x0 : Int32} (h : Ev ZR mX12_isThere [.ref 0, .int x0] s (some (.int 0)) s) : Ev ZR mX12_states [.ref 0, .int x0] s (some (.int (-1))) s := by
  refine Ev_V vX12_states rfl ?_
  refine Rn_n ZR_ok 2 rfl trivial ?_
  refine Rn_V vX12_isThere h rfl k12_424 rfl rfl rfl rfl rfl ?_
  refine Rn_b rfl (fun _ => ?_) (fun q => absurd rfl q)
  refine Rn_n ZR_ok 1 rfl trivial ?_
  exact Rn_iret rfl rfl
theorem no_counts {s : SM} {x0 : Int32} (h : Ev ZR mX12_isThere [.ref 0, .int x0] s (some (.int 0)) s) (x1 : Int32) : Ev ZR mX12_counts [.ref 0, .int x0, .int x1] s (some (.int (-1))) s := by
  refine Ev_V vX12_counts rfl ?_
  refine Rn_n ZR_ok 2 rfl trivial ?_
  refine Rn_V vX12_isThere h rfl k12_424 rfl rfl rfl rfl rfl ?_
  refine Rn_b rfl (fun _ => ?_) (fun q => absurd rfl q)
  refine Rn_n ZR_ok 1 rfl trivial ?_
  exact Rn_iret rfl rfl
theorem no_look {s : SM} {x0 : Int32} (h : Ev ZR mX12_isThere [.ref 0, .int x0] s (some (.int 0)) s) (x1 : Int32) (x2 : Int32) (x3 : Int32) (x4 : Int32) : Ev ZR mX12_look [.ref 0, .int x0, .int x1, .int x2, .int x3, .int x4] s (some (.int (-1))) s := by
  refine Ev_V vX12_look rfl ?_
  refine Rn_n ZR_ok 3 rfl trivial ?_
  refine Rn_V vX12_isState (no_isState h _) rfl k12_427 rfl rfl rfl rfl rfl ?_
  refine Rn_b rfl (fun _ => ?_) (fun q => absurd rfl q)
  refine Rn_n ZR_ok 1 rfl trivial ?_
  exact Rn_iret rfl rfl
theorem no_state {s : SM} {x0 : Int32} (h : Ev ZR mX12_isThere [.ref 0, .int x0] s (some (.int 0)) s) (x1 : Int32) (x2 : Int32) : Ev ZR mX12_state [.ref 0, .int x0, .int x1, .int x2] s (some (.int (-1))) s := by
  refine Ev_V vX12_state rfl ?_
  refine Rn_n ZR_ok 3 rfl trivial ?_
  refine Rn_V vX12_isState (no_isState h _) rfl k12_427 rfl rfl rfl rfl rfl ?_
  refine Rn_b rfl (fun _ => ?_) (fun q => absurd rfl q)
  refine Rn_n ZR_ok 1 rfl trivial ?_
  exact Rn_iret rfl rfl
theorem no_goesTo {s : SM} {x0 : Int32} (h : Ev ZR mX12_isThere [.ref 0, .int x0] s (some (.int 0)) s) (x1 : Int32) (x2 : Int32) : Ev ZR mX12_goesTo [.ref 0, .int x0, .int x1, .int x2] s (some (.int (-1))) s := by
  refine Ev_V vX12_goesTo rfl ?_
  refine Rn_n ZR_ok 3 rfl trivial ?_
  refine Rn_V vX12_isState (no_isState h _) rfl k12_427 rfl rfl rfl rfl rfl ?_
  refine Rn_b rfl (fun _ => ?_) (fun q => absurd rfl q)
  refine Rn_n ZR_ok 1 rfl trivial ?_
  exact Rn_iret rfl rfl
theorem no_bridge {s : SM} {x0 : Int32} (h : Ev ZR mX12_isThere [.ref 0, .int x0] s (some (.int 0)) s) (x1 : Int32) (x2 : Int32) (x3 : Int32) : Ev ZR mX12_bridge [.ref 0, .int x0, .int x1, .int x2, .int x3] s (some (.int (-1))) s := by
  refine Ev_V vX12_bridge rfl ?_
  refine Rn_n ZR_ok 3 rfl trivial ?_
  refine Rn_V vX12_isState (no_isState h _) rfl k12_427 rfl rfl rfl rfl rfl ?_
  refine Rn_b rfl (fun _ => ?_) (fun q => absurd rfl q)
  refine Rn_n ZR_ok 1 rfl trivial ?_
  exact Rn_iret rfl rfl
theorem no_path {s : SM} {x0 : Int32} (h : Ev ZR mX12_isThere [.ref 0, .int x0] s (some (.int 0)) s) (x1 : Int32) (x2 : Int32) : Ev ZR mX12_path [.ref 0, .int x0, .int x1, .int x2] s (some (.int (-1))) s := by
  refine Ev_V vX12_path rfl ?_
  refine Rn_n ZR_ok 3 rfl trivial ?_
  refine Rn_V vX12_isState (no_isState h _) rfl k12_427 rfl rfl rfl rfl rfl ?_
  refine Rn_b rfl (fun _ => ?_) (fun q => absurd rfl q)
  refine Rn_n ZR_ok 1 rfl trivial ?_
  exact Rn_iret rfl rfl
theorem no_action {s : SM} {x0 : Int32} (h : Ev ZR mX12_isThere [.ref 0, .int x0] s (some (.int 0)) s) (x1 : Int32) (x2 : Int32) (x3 : Int32) : Ev ZR mX12_action [.ref 0, .int x0, .int x1, .int x2, .int x3] s (some (.int (-1000000))) s := by
  refine Ev_V vX12_action rfl ?_
  refine Rn_n ZR_ok 3 rfl trivial ?_
  refine Rn_V vX12_isState (no_isState h _) rfl k12_427 rfl rfl rfl rfl rfl ?_
  refine Rn_b rfl (fun _ => ?_) (fun q => absurd rfl q)
  refine Rn_n ZR_ok 1 rfl trivial ?_
  exact Rn_iret rfl rfl
theorem no_reads {s : SM} {x0 : Int32} (h : Ev ZR mX12_isThere [.ref 0, .int x0] s (some (.int 0)) s) (x1 : Int32) (x2 : Int32) (x3 : Int32) : Ev ZR mX12_reads [.ref 0, .int x0, .int x1, .int x2, .int x3] s (some (.int (-1))) s := by
  refine Ev_V vX12_reads rfl ?_
  refine Rn_n ZR_ok 3 rfl trivial ?_
  refine Rn_V vX12_canRead (no_canRead h _) rfl k12_497 rfl rfl rfl rfl rfl ?_
  refine Rn_b rfl (fun _ => ?_) (fun q => absurd rfl q)
  refine Rn_n ZR_ok 1 rfl trivial ?_
  exact Rn_iret rfl rfl
theorem no_reduced {s : SM} {x0 : Int32} (h : Ev ZR mX12_isThere [.ref 0, .int x0] s (some (.int 0)) s) (x1 : Int32) (x2 : Int32) (x3 : Int32) : Ev ZR mX12_reduced [.ref 0, .int x0, .int x1, .int x2, .int x3] s (some (.int (-1))) s := by
  refine Ev_V vX12_reduced rfl ?_
  refine Rn_n ZR_ok 3 rfl trivial ?_
  refine Rn_V vX12_canRead (no_canRead h _) rfl k12_497 rfl rfl rfl rfl rfl ?_
  refine Rn_b rfl (fun _ => ?_) (fun q => absurd rfl q)
  refine Rn_n ZR_ok 1 rfl trivial ?_
  exact Rn_iret rfl rfl
theorem no_tree {s : SM} {x0 : Int32} (h : Ev ZR mX12_isThere [.ref 0, .int x0] s (some (.int 0)) s) (x1 : Int32) (x2 : Int32) (x3 : Int32) : Ev ZR mX12_tree [.ref 0, .int x0, .int x1, .int x2, .int x3] s (some (.int (-1))) s := by
  refine Ev_V vX12_tree rfl ?_
  refine Rn_n ZR_ok 3 rfl trivial ?_
  refine Rn_V vX12_canRead (no_canRead h _) rfl k12_497 rfl rfl rfl rfl rfl ?_
  refine Rn_b rfl (fun _ => ?_) (fun q => absurd rfl q)
  refine Rn_n ZR_ok 1 rfl trivial ?_
  exact Rn_iret rfl rfl
theorem no_expects {s : SM} {x0 : Int32} (h : Ev ZR mX12_isThere [.ref 0, .int x0] s (some (.int 0)) s) (x1 : Int32) : Ev ZR mX12_expects [.ref 0, .int x0, .int x1] s (some (.int (-1))) s := by
  refine Ev_V vX12_expects rfl ?_
  refine Rn_n ZR_ok 3 rfl trivial ?_
  refine Rn_V vX12_canRead (no_canRead h _) rfl k12_497 rfl rfl rfl rfl rfl ?_
  refine Rn_b rfl (fun q => absurd rfl q) (fun _ => ?_)
  refine Rn_n ZR_ok 1 rfl trivial ?_
  exact Rn_iret rfl rfl
theorem no_mends {s : SM} {x0 : Int32} (h : Ev ZR mX12_isThere [.ref 0, .int x0] s (some (.int 0)) s) (x1 : Int32) : Ev ZR mX12_mends [.ref 0, .int x0, .int x1] s (some (.int (-1))) s := by
  refine Ev_V vX12_mends rfl ?_
  refine Rn_n ZR_ok 3 rfl trivial ?_
  refine Rn_V vX12_canRead (no_canRead h _) rfl k12_497 rfl rfl rfl rfl rfl ?_
  refine Rn_b rfl (fun q => absurd rfl q) (fun _ => ?_)
  refine Rn_n ZR_ok 1 rfl trivial ?_
  exact Rn_iret rfl rfl
theorem no_same {s : SM} {x0 : Int32} (h : Ev ZR mX12_isThere [.ref 0, .int x0] s (some (.int 0)) s) (x1 : Int32) (x2 : Int32) : Ev ZR mX12_same [.ref 0, .int x0, .int x1, .int x2] s (some (.int (-1))) s := by
  refine Ev_V vX12_same rfl ?_
  refine Rn_n ZR_ok 2 rfl trivial ?_
  refine Rn_V vX12_isThere h rfl k12_424 rfl rfl rfl rfl rfl ?_
  refine Rn_b rfl (fun _ => ?_) (fun q => absurd rfl q)
  refine Rn_n ZR_ok 1 rfl trivial ?_
  exact Rn_iret rfl rfl
theorem xo_isThere {G : ZGT} {s : SX} {x : Int32} (h : ZGX G s) (hx : zix x 3 = none) : Ev ZX mX11_isThere [.ref 0, .int x] s (some (.int 0)) s := by
  have hb := h.b
  refine Ev_V vX11_isThere rfl ?_
  refine Rn_n ZX_ok 3 rfl trivial ?_
  rw [h.2.1.1]
  refine Rn_b rfl (fun z => ?_) (fun _ => ?_)
  · have := (zq_eq (a := zgR G) (b := 0) rfl rfl (by omega) (by omega)).mp z
    omega
  refine Rn_n ZX_ok 1 rfl trivial ?_
  have no : Rn ZX mX11_isThere (19, [some (.ref 0), some (.int x)], [], s) (some (.int 0)) s := by
    refine Rn_n ZX_ok 1 rfl trivial ?_
    exact Rn_zret rfl rfl (Or.inl rfl)
  refine Rn_b rfl (fun _ => no) (fun z => ?_)
  refine Rn_n ZX_ok 2 rfl trivial ?_
  exact Rn_b rfl (fun z2 => absurd (zix_ge (n := 3) (by omega) hx z) (Int32.not_le.mpr z2)) (fun _ => no)
theorem no_isThere {G : ZGT} {s : SM} {x : Int32} (h : ZGM G s) (hx : zix x 3 = none) : Ev ZR mX12_isThere [.ref 0, .int x] s (some (.int 0)) s := by
  have hb := h.b
  refine Ev_V vX12_isThere rfl ?_
  refine Rn_n ZR_ok 2 rfl trivial ?_
  rw [h.2.1.1]
  refine Rn_b rfl (fun z => ?_) (fun _ => ?_)
  · have := (zq_eq (a := zgR G) (b := 0) rfl rfl (by omega) (by omega)).mp z
    omega
  refine Rn_n ZR_ok 3 rfl trivial ?_
  refine Rn_S vX12_in (e_in s x 0 2) rfl k12_170 rfl rfl rfl rfl ?_
  rw [show inB x 0 2 = (zix x 3).isSome from zix_in1 (n := 2) (by omega), hx]
  refine Rn_b rfl (fun q => absurd rfl q) (fun _ => ?_)
  refine Rn_n ZR_ok 1 rfl trivial ?_
  exact Rn_zret rfl rfl (Or.inl rfl)
section SmO
variable {G : ZGT} {os : Nat → Option ZAS} {u : SX} {s : SM} {d : Nat}
theorem xo_same2 (h1 : d < 3) (hZ : ZAt G d (os d)) (h : X3 G os u) {y : Int32} (hy : zix y 3 = none) (x : Int32) : EvQ (ZY YP0) mX11_same [.ref 0, .int (nI d), .int y, .int x] u (k3Q G os u (-1)) := by
  refine EQ_V vX11_same rfl ?_
  have no : ∀ v, X3 G os v → frZ u v → RnQ (ZY YP0) mX11_same (25, [some (.ref 0), some (.int (nI d)), some (.int y), some (.int x), none, none], [], v) (k3Q G os u (-1)) := by
    intro v a b
    refine RQ_n (ZY_ok YP0) 1 rfl trivial ?_
    exact RQ_to (Rn_iret rfl rfl) ⟨rfl, a, b⟩
  refine RQ_n (ZY_ok YP0) 2 rfl trivial ?_
  refine RQ_VN vX11_isThere (z_isThere h1 hZ h) rfl k11_251 rfl rfl rfl (zy0 _ rfl) zsf6 ?_
  rintro r1 v1 ⟨rfl, q1, q2, q3, q4⟩
  cases ho1 : os d with
  | none => exact RQ_b rfl (fun _ => no v1 q1 q2) (fun z => absurd rfl z)
  | some A =>
  refine RQ_b rfl (fun z => absurd (show (1 : Int32) = 0 from z) (by decide)) (fun _ => ?_)
  refine RQ_n (ZY_ok YP0) 2 rfl trivial ?_
  have e := xo_isThere q1.f.1 hy
  rw [← ZY_0] at e
  refine RQ_v vX11_isThere e rfl k11_251 rfl rfl rfl (zy0 _ rfl) rfl ?_
  exact RQ_b rfl (fun _ => no v1 q1 q2) (fun z => absurd rfl z)
theorem no_same2 (h1 : d < 3) (hZ : ∀ kd, kd < 3 → ZAt G kd (os kd)) (h : RGr G os s) {y : Int32} (hy : zix y 3 = none) (x : Int32) : EvQ ZR mX12_same [.ref 0, .int (nI d), .int y, .int x] s (rfQ G os s (-1)) := by
  refine EQ_V vX12_same rfl ?_
  refine RQ_n ZR_ok 2 rfl trivial ?_
  refine RQ_V vX12_isThere (m_isThere h1 hZ h) rfl k12_424 rfl rfl rfl rfl (fun _ _ _ => rfl) ?_
  rintro r1 v1 ⟨rfl, q1, q2, q3⟩
  cases ho1 : os d with
  | none =>
    refine RQ_b rfl (fun _ => ?_) (fun z => absurd rfl z)
    refine RQ_n ZR_ok 1 rfl trivial ?_
    exact RQ_to (Rn_iret rfl rfl) ⟨rfl, q1, frR.th q3⟩
  | some A =>
  refine RQ_b rfl (fun z => absurd (show (1 : Int32) = 0 from z) (by decide)) (fun _ => ?_)
  refine RQ_n ZR_ok 2 rfl trivial ?_
  refine RQ_v vX12_isThere (no_isThere q1.1 hy) rfl k12_424 rfl rfl rfl rfl rfl ?_
  refine RQ_b rfl (fun _ => ?_) (fun z => absurd rfl z)
  refine RQ_n ZR_ok 1 rfl trivial ?_
  exact RQ_to (Rn_iret rfl rfl) ⟨rfl, q1, frR.th q3⟩
end SmO
