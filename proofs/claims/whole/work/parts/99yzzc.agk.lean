/-! Class and reference alike: calls by a kind, sorts, same. -/
section AgK
variable {u : SX} {s : SM}
theorem i_states (h : Iv0 u s) (x0 : Int32) : Ag mX11_states mX12_states [.int x0] u s Iv0 := by
  obtain ⟨⟨n, f, hP⟩, ⟨m, ln, yy, hS⟩, hG⟩ := id h
  rcases hG with hN | ⟨G, nb, sl, a, ac, ko, kp, hG⟩
  · exact Ag_same (x_states u hN.1.1 x0) (n_states s hN.2.1.1 x0) h
  cases e : zix x0 3 with
  | none => exact Ag_same (xo_states (xo_isThere hG.1.1.f.1 e)) (no_states (no_isThere hG.1.2.1 e)) h
  | some d =>
  obtain ⟨hd, rfl⟩ := zix_s e
  obtain ⟨p1, p2, p3⟩ := YPd_k hd
  have e1 := k3_of hd hG.1.1 rfl (y_states p1 p3 hd (hG.z d hd) (hG.1.1 d hd))
  exact Ag_kd hP hS hG e1 (m_states hd hG.z hG.1.2)
theorem i_look (h : Iv0 u s) (x0 : Int32) (x1 : Int32) (x2 : Int32) (x3 : Int32) (x4 : Int32) (hb : x4 = 0 ∨ x4 = 1) : Ag mX11_look mX12_look [.int x0, .int x1, .int x2, .int x3, .int x4] u s Iv0 := by
  obtain ⟨⟨n, f, hP⟩, ⟨m, ln, yy, hS⟩, hG⟩ := id h
  rcases hG with hN | ⟨G, nb, sl, a, ac, ko, kp, hG⟩
  · exact Ag_same (x_look u hN.1.1 x0 x1 x2 x3 x4) (n_look s hN.2.1.1 x0 x1 x2 x3 x4) h
  cases e : zix x0 3 with
  | none => exact Ag_same (xo_look (xo_isThere hG.1.1.f.1 e) x1 x2 x3 x4) (no_look (no_isThere hG.1.2.1 e) x1 x2 x3 x4) h
  | some d =>
  obtain ⟨hd, rfl⟩ := zix_s e
  obtain ⟨p1, p2, p3⟩ := YPd_k hd
  rcases hb with rfl | rfl
  · have e1 := k3_of hd hG.1.1 rfl (y_look p1 p3 hd (hG.z d hd) (hG.1.1 d hd) x1 x2 x3 false)
    exact Ag_kd hP hS hG e1 (m_look hd hG.z hG.1.2 x1 x2 x3 false)
  · have e1 := k3_of hd hG.1.1 rfl (y_look p1 p3 hd (hG.z d hd) (hG.1.1 d hd) x1 x2 x3 true)
    exact Ag_kd hP hS hG e1 (m_look hd hG.z hG.1.2 x1 x2 x3 true)
theorem i_state (h : Iv0 u s) (x0 : Int32) (x1 : Int32) (x2 : Int32) : Ag mX11_state mX12_state [.int x0, .int x1, .int x2] u s Iv0 := by
  obtain ⟨⟨n, f, hP⟩, ⟨m, ln, yy, hS⟩, hG⟩ := id h
  rcases hG with hN | ⟨G, nb, sl, a, ac, ko, kp, hG⟩
  · exact Ag_same (x_state u hN.1.1 x0 x1 x2) (n_state s hN.2.1.1 x0 x1 x2) h
  cases e : zix x0 3 with
  | none => exact Ag_same (xo_state (xo_isThere hG.1.1.f.1 e) x1 x2) (no_state (no_isThere hG.1.2.1 e) x1 x2) h
  | some d =>
  obtain ⟨hd, rfl⟩ := zix_s e
  obtain ⟨p1, p2, p3⟩ := YPd_k hd
  have e1 := k3_of hd hG.1.1 rfl (y_state p1 p2 p3 hd (hG.z d hd) (hG.1.1 d hd) x1 x2)
  rw [sw34 hd, hG.2.2.2.1.2] at e1
  exact Ag_kd hP hS hG e1 (m_state hd hG.z hG.1.2 x1 x2)
theorem i_goesTo (h : Iv0 u s) (x0 : Int32) (x1 : Int32) (x2 : Int32) : Ag mX11_goesTo mX12_goesTo [.int x0, .int x1, .int x2] u s Iv0 := by
  obtain ⟨⟨n, f, hP⟩, ⟨m, ln, yy, hS⟩, hG⟩ := id h
  rcases hG with hN | ⟨G, nb, sl, a, ac, ko, kp, hG⟩
  · exact Ag_same (x_goesTo u hN.1.1 x0 x1 x2) (n_goesTo s hN.2.1.1 x0 x1 x2) h
  cases e : zix x0 3 with
  | none => exact Ag_same (xo_goesTo (xo_isThere hG.1.1.f.1 e) x1 x2) (no_goesTo (no_isThere hG.1.2.1 e) x1 x2) h
  | some d =>
  obtain ⟨hd, rfl⟩ := zix_s e
  obtain ⟨p1, p2, p3⟩ := YPd_k hd
  have e1 := k3_of hd hG.1.1 rfl (y_goesTo p1 p3 hd (hG.z d hd) (hG.1.1 d hd) x1 x2)
  exact Ag_kd hP hS hG e1 (m_goesTo hd hG.z hG.1.2 x1 x2)
theorem i_action (h : Iv0 u s) (x0 : Int32) (x1 : Int32) (x2 : Int32) (x3 : Int32) (hb : x3 = 0 ∨ x3 = 1) : Ag mX11_action mX12_action [.int x0, .int x1, .int x2, .int x3] u s Iv0 := by
  obtain ⟨⟨n, f, hP⟩, ⟨m, ln, yy, hS⟩, hG⟩ := id h
  rcases hG with hN | ⟨G, nb, sl, a, ac, ko, kp, hG⟩
  · exact Ag_same (x_action u hN.1.1 x0 x1 x2 x3) (n_action s hN.2.1.1 x0 x1 x2 x3) h
  cases e : zix x0 3 with
  | none => exact Ag_same (xo_action (xo_isThere hG.1.1.f.1 e) x1 x2 x3) (no_action (no_isThere hG.1.2.1 e) x1 x2 x3) h
  | some d =>
  obtain ⟨hd, rfl⟩ := zix_s e
  obtain ⟨p1, p2, p3⟩ := YPd_k hd
  rcases hb with rfl | rfl
  · have e1 := k3_of hd hG.1.1 rfl (y_action p1 p2 p3 hd (hG.z d hd) (hG.1.1 d hd) x1 x2 false)
    rw [sw34 hd, hG.2.2.2.1.2] at e1
    exact Ag_kd hP hS hG e1 (m_action hd hG.z hG.1.2 x1 x2 false)
  · have e1 := k3_of hd hG.1.1 rfl (y_action p1 p2 p3 hd (hG.z d hd) (hG.1.1 d hd) x1 x2 true)
    rw [sw34 hd, hG.2.2.2.1.2] at e1
    exact Ag_kd hP hS hG e1 (m_action hd hG.z hG.1.2 x1 x2 true)
theorem i_bridge (h : Iv0 u s) (x0 : Int32) (x1 : Int32) (x2 : Int32) (x3 : Int32) : Ag mX11_bridge mX12_bridge [.int x0, .int x1, .int x2, .int x3] u s Iv0 := by
  obtain ⟨⟨n, f, hP⟩, ⟨m, ln, yy, hS⟩, hG⟩ := id h
  rcases hG with hN | ⟨G, nb, sl, a, ac, ko, kp, hG⟩
  · exact Ag_same (x_bridge u hN.1.1 x0 x1 x2 x3) (n_bridge s hN.2.1.1 x0 x1 x2 x3) h
  cases e : zix x0 3 with
  | none => exact Ag_same (xo_bridge (xo_isThere hG.1.1.f.1 e) x1 x2 x3) (no_bridge (no_isThere hG.1.2.1 e) x1 x2 x3) h
  | some d =>
  obtain ⟨hd, rfl⟩ := zix_s e
  obtain ⟨p1, p2, p3⟩ := YPd_k hd
  have e1 := k3_of hd hG.1.1 rfl (y_bridge p1 p2 p3 hd (hG.z d hd) (hG.1.1 d hd) x1 x2 x3)
  rw [sw34 hd, hG.2.2.2.1.2] at e1
  exact Ag_kd hP hS hG e1 (m_bridge hd hG.z hG.1.2 x1 x2 x3)
theorem i_counts (h : Iv0 u s) (x0 : Int32) (x1 : Int32) : Ag mX11_counts mX12_counts [.int x0, .int x1] u s Iv0 := by
  obtain ⟨⟨n, f, hP⟩, ⟨m, ln, yy, hS⟩, hG⟩ := id h
  rcases hG with hN | ⟨G, nb, sl, a, ac, ko, kp, hG⟩
  · exact Ag_same (x_counts u hN.1.1 x0 x1) (n_counts s hN.2.1.1 x0 x1) h
  cases e : zix x0 3 with
  | none => exact Ag_same (xo_counts (xo_isThere hG.1.1.f.1 e) x1) (no_counts (no_isThere hG.1.2.1 e) x1) h
  | some d =>
  obtain ⟨hd, rfl⟩ := zix_s e
  obtain ⟨p1, p2, p3⟩ := YPd_k hd
  have e1 := k3_of hd hG.1.1 rfl (y_counts p1 p2 p3 hd (hG.z d hd) (hG.1.1 d hd) x1)
  rw [sw34 hd, hG.2.2.2.1.2] at e1
  exact Ag_kd hP hS hG e1 (m_counts hd hG.z hG.1.2 x1)
theorem i_path (h : Iv0 u s) (x0 : Int32) (x1 : Int32) (x2 : Int32) : Ag mX11_path mX12_path [.int x0, .int x1, .int x2] u s Iv0 := by
  obtain ⟨⟨n, f, hP⟩, ⟨m, ln, yy, hS⟩, hG⟩ := id h
  rcases hG with hN | ⟨G, nb, sl, a, ac, ko, kp, hG⟩
  · exact Ag_same (x_path u hN.1.1 x0 x1 x2) (n_path s hN.2.1.1 x0 x1 x2) h
  cases e : zix x0 3 with
  | none => exact Ag_same (xo_path (xo_isThere hG.1.1.f.1 e) x1 x2) (no_path (no_isThere hG.1.2.1 e) x1 x2) h
  | some d =>
  obtain ⟨hd, rfl⟩ := zix_s e
  obtain ⟨p1, p2, p3⟩ := YPd_k hd
  have e1 := k3_of hd hG.1.1 rfl (y_path p1 p3 hd (hG.z d hd) (hG.1.1 d hd) x1 x2)
  exact Ag_kd hP hS hG e1 (m_path hd hG.z hG.1.2 x1 x2)
theorem i_reads (h : Iv0 u s) (x0 : Int32) (x1 : Int32) (x2 : Int32) (x3 : Int32) : Ag mX11_reads mX12_reads [.int x0, .int x1, .int x2, .int x3] u s Iv0 := by
  obtain ⟨⟨n, f, hP⟩, ⟨m, ln, yy, hS⟩, hG⟩ := id h
  rcases hG with hN | ⟨G, nb, sl, a, ac, ko, kp, hG⟩
  · exact Ag_same (x_reads u hN.1.1 x0 x1 x2 x3) (n_reads s hN.2.1.1 x0 x1 x2 x3) h
  cases e : zix x0 3 with
  | none => exact Ag_same (xo_reads (xo_isThere hG.1.1.f.1 e) x1 x2 x3) (no_reads (no_isThere hG.1.2.1 e) x1 x2 x3) h
  | some d =>
  obtain ⟨hd, rfl⟩ := zix_s e
  obtain ⟨p1, p2, p3⟩ := YPd_k hd
  have e1 := k3_of hd hG.1.1 rfl (y_reads p1 p2 p3 hd (hG.z d hd) (hG.1.1 d hd) (hS.1.sw hd) (hG.2.1.1.sw hd) x1 x2 x3)
  rw [sw34 hd, hG.2.2.2.1.2] at e1
  exact Ag_kd hP hS hG e1 (m_reads hd hG.z hG.1.2 hS.2 hG.2.1.2 x1 x2 x3)
theorem i_reduced (h : Iv0 u s) (x0 : Int32) (x1 : Int32) (x2 : Int32) (x3 : Int32) : Ag mX11_reduced mX12_reduced [.int x0, .int x1, .int x2, .int x3] u s Iv0 := by
  obtain ⟨⟨n, f, hP⟩, ⟨m, ln, yy, hS⟩, hG⟩ := id h
  rcases hG with hN | ⟨G, nb, sl, a, ac, ko, kp, hG⟩
  · exact Ag_same (x_reduced u hN.1.1 x0 x1 x2 x3) (n_reduced s hN.2.1.1 x0 x1 x2 x3) h
  cases e : zix x0 3 with
  | none => exact Ag_same (xo_reduced (xo_isThere hG.1.1.f.1 e) x1 x2 x3) (no_reduced (no_isThere hG.1.2.1 e) x1 x2 x3) h
  | some d =>
  obtain ⟨hd, rfl⟩ := zix_s e
  obtain ⟨p1, p2, p3⟩ := YPd_k hd
  have e1 := k3_of hd hG.1.1 rfl (y_reduced p1 p2 p3 hd (hG.z d hd) (hG.1.1 d hd) (hS.1.sw hd) (hG.2.1.1.sw hd) x1 x2 x3)
  rw [sw34 hd, hG.2.2.2.1.2] at e1
  exact Ag_kd hP hS hG e1 (m_reduced hd hG.z hG.1.2 hS.2 hG.2.1.2 x1 x2 x3)
theorem i_expects (h : Iv0 u s) (x0 : Int32) (x1 : Int32) : Ag mX11_expects mX12_expects [.int x0, .int x1] u s Iv0 := by
  obtain ⟨⟨n, f, hP⟩, ⟨m, ln, yy, hS⟩, hG⟩ := id h
  rcases hG with hN | ⟨G, nb, sl, a, ac, ko, kp, hG⟩
  · exact Ag_same (x_expects u hN.1.1 x0 x1) (n_expects s hN.2.1.1 x0 x1) h
  cases e : zix x0 3 with
  | none => exact Ag_same (xo_expects (xo_isThere hG.1.1.f.1 e) x1) (no_expects (no_isThere hG.1.2.1 e) x1) h
  | some d =>
  obtain ⟨hd, rfl⟩ := zix_s e
  obtain ⟨p1, p2, p3⟩ := YPd_k hd
  have e1 := k3_of hd hG.1.1 rfl (y_expects p1 p2 p3 hd (hG.z d hd) (hG.1.1 d hd) (hS.1.sw hd) (hG.2.1.1.sw hd) x1)
  rw [sw34 hd, hG.2.2.2.1.2] at e1
  exact Ag_kd hP hS hG e1 (m_expects hd hG.z hG.1.2 hS.2 hG.2.1.2 x1)
theorem i_mends (h : Iv0 u s) (x0 : Int32) (x1 : Int32) : Ag mX11_mends mX12_mends [.int x0, .int x1] u s Iv0 := by
  obtain ⟨⟨n, f, hP⟩, ⟨m, ln, yy, hS⟩, hG⟩ := id h
  rcases hG with hN | ⟨G, nb, sl, a, ac, ko, kp, hG⟩
  · exact Ag_same (x_mends u hN.1.1 x0 x1) (n_mends s hN.2.1.1 x0 x1) h
  cases e : zix x0 3 with
  | none => exact Ag_same (xo_mends (xo_isThere hG.1.1.f.1 e) x1) (no_mends (no_isThere hG.1.2.1 e) x1) h
  | some d =>
  obtain ⟨hd, rfl⟩ := zix_s e
  obtain ⟨p1, p2, p3⟩ := YPd_k hd
  have e1 := k3_of hd hG.1.1 rfl (y_mends p1 p2 p3 hd (hG.z d hd) (hG.1.1 d hd) (hS.1.sw hd) (hG.2.1.1.sw hd) x1)
  rw [sw34 hd, hG.2.2.2.1.2] at e1
  exact Ag_kd hP hS hG e1 (m_mends hd hG.z hG.1.2 hS.2 hG.2.1.2 x1)
theorem i_tree (h : Iv0 u s) (x0 : Int32) (x1 : Int32) (x2 : Int32) (x3 : Int32) : Ag mX11_tree mX12_tree [.int x0, .int x1, .int x2, .int x3] u s Iv0 := by
  obtain ⟨⟨n, f, hP⟩, ⟨m, ln, yy, hS⟩, hG⟩ := id h
  rcases hG with hN | ⟨G, nb, sl, a, ac, ko, kp, hG⟩
  · exact Ag_same (x_tree u hN.1.1 x0 x1 x2 x3) (n_tree s hN.2.1.1 x0 x1 x2 x3) h
  cases e : zix x0 3 with
  | none => exact Ag_same (xo_tree (xo_isThere hG.1.1.f.1 e) x1 x2 x3) (no_tree (no_isThere hG.1.2.1 e) x1 x2 x3) h
  | some d =>
  obtain ⟨hd, rfl⟩ := zix_s e
  obtain ⟨p1, p2, p3⟩ := YPd_k hd
  have e1 := k3_of hd hG.1.1 rfl (y_tree p1 p2 p3 hd (hG.z d hd) (hG.1.1 d hd) (hS.1.sw hd) (hG.2.1.1.sw hd) x1 x2 x3)
  rw [sw34 hd, hG.2.2.2.1.2] at e1
  exact Ag_kd hP hS hG e1 (m_tree hd hG.z hG.1.2 hS.2 hG.2.1.2 x1 x2 x3)
theorem i_sorts (h : Iv0 u s) : Ag mX11_sorts mX12_sorts [] u s Iv0 := by
  obtain ⟨⟨n, f, hP⟩, ⟨m, ln, yy, hS⟩, hG⟩ := id h
  rcases hG with hN | ⟨G, nb, sl, a, ac, ko, kp, hG⟩
  · exact Ag_same (x_sorts u hN.1.1) (n_sorts s hN.2.1.1) h
  refine Ag_of (zvSo G (zos G)) (y_sorts hG.z hG.1.1) (m_sorts hG.z hG.1.2) (fun _ _ q => q.1) (fun _ _ q => q.1) (fun x v y w q1 q2 => ?_)
  exact Iv_g hP hS hG q1.2.1 q2.2.1 (hG.2.2.1.fr (q1.2.2.1 14 10 (by omega)) (q1.2.2.2.1 20 (by omega) (by omega)) (fun j => q1.2.2.2.2.2 14 j (by omega))) q1.2.2.i q2.2.2.v
theorem i_same (h : Iv0 u s) (x0 x1 x2 : Int32) : Ag mX11_same mX12_same [.int x0, .int x1, .int x2] u s Iv0 := by
  obtain ⟨⟨n, f, hP⟩, ⟨m, ln, yy, hS⟩, hG⟩ := id h
  rcases hG with hN | ⟨G, nb, sl, a, ac, ko, kp, hG⟩
  · exact Ag_same (x_same u hN.1.1 x0 x1 x2) (n_same s hN.2.1.1 x0 x1 x2) h
  cases e : zix x0 3 with
  | none => exact Ag_same (xo_same (xo_isThere hG.1.1.f.1 e) x1 x2) (no_same (no_isThere hG.1.2.1 e) x1 x2) h
  | some d =>
  obtain ⟨hd, rfl⟩ := zix_s e
  cases e2 : zix x1 3 with
  | none =>
    have e1 := xo_same2 hd (hG.z d hd) hG.1.1 e2 x2
    rw [ZY_0] at e1
    exact Ag_kd hP hS hG e1 (no_same2 hd hG.z hG.1.2 e2 x2)
  | some d2 =>
  obtain ⟨hd2, rfl⟩ := zix_s e2
  have e1 := y_same hd hd2 hG.z hG.1.1 x2
  rw [ZY_0, hG.2.2.2.1.2] at e1
  exact Ag_kd hP hS hG e1 (m_same hd hd2 hG.z hG.1.2 x2)
end AgK
