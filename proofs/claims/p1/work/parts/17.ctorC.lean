def gs3 : List zc := [.inr (11, [.null, .null, .null, .null, .null, .null, .null, .null, .null, .null])]
def gs4 : List zc := [.inr (11, [.null, .null, .null, .null, .null, .null, .null, .null, .null, .null]), .inr (10, [.null, .int 0])]
def gs5 : List zc := [.inr (11, [.null, .null, .null, .null, .null, .null, .null, .null, .null, .null]), .inr (10, [.ref 2, .int 0]), garr .int 240]
set_option maxRecDepth 100000 in
set_option maxHeartbeats 4000000 in
theorem cX10_init_1 : Ek mX10_init [.ref 1] gs4 gs5 := by
  refine Ek_of okIX10_init.1 okIX10_init.2.1 rfl ?_
  refine Rk_n 1 rfl trivial ?_
  refine Rk_obj rfl ko10_3 rfl ?_
  refine Rk_n 2 rfl trivial ?_
  refine Rk_newa rfl (Or.inl rfl) ka_int (by decide) rfl rfl rfl ?_
  refine Rk_put rfl rfl rfl rfl ⟨rfl, rfl, rfl⟩ (fun _ => ⟨rfl, rfl⟩) rfl ?_
  exact Rk_ret rfl rfl
def gs6 : List zc := [.inr (11, [.ref 1, .null, .null, .null, .null, .null, .null, .null, .null, .null]), .inr (10, [.ref 2, .int 0]), garr .int 240, .inr (5, [.int 0, .int 0, .int 0, .int 0, .int 0, .null, .null, .null, .null, .null, .null, .null])]
def gs7 : List zc := [.inr (11, [.ref 1, .null, .null, .null, .null, .null, .null, .null, .null, .null]), .inr (10, [.ref 2, .int 0]), garr .int 240, .inr (5, [.int 0, .int 0, .int 0, .int 0, .int 0, .ref 4, .ref 5, .ref 6, .ref 7, .ref 8, .ref 9, .ref 10]), garr .int 17, garr .int 17, garr .int 85, garr .int 6, garr .int 26, garr .int 8, garr .int 26]
set_option maxRecDepth 100000 in
set_option maxHeartbeats 4000000 in
theorem cX5_init_1 : Ek mX5_init [.ref 3] gs6 gs7 := by
  refine Ek_of okIX5_init.1 okIX5_init.2.1 rfl ?_
  refine Rk_n 1 rfl trivial ?_
  refine Rk_obj rfl ko5_3 rfl ?_
  refine Rk_n 2 rfl trivial ?_
  refine Rk_newa rfl (Or.inl rfl) ka_int (by decide) rfl rfl rfl ?_
  refine Rk_put rfl rfl rfl rfl ⟨rfl, rfl, rfl⟩ (fun _ => ⟨rfl, rfl⟩) rfl ?_
  refine Rk_n 2 rfl trivial ?_
  refine Rk_newa rfl (Or.inl rfl) ka_int (by decide) rfl rfl rfl ?_
  refine Rk_put rfl rfl rfl rfl ⟨rfl, rfl, rfl⟩ (fun _ => ⟨rfl, rfl⟩) rfl ?_
  refine Rk_n 2 rfl trivial ?_
  refine Rk_newa rfl (Or.inl rfl) ka_int (by decide) rfl rfl rfl ?_
  refine Rk_put rfl rfl rfl rfl ⟨rfl, rfl, rfl⟩ (fun _ => ⟨rfl, rfl⟩) rfl ?_
  refine Rk_n 2 rfl trivial ?_
  refine Rk_newa rfl (Or.inl rfl) ka_int (by decide) rfl rfl rfl ?_
  refine Rk_put rfl rfl rfl rfl ⟨rfl, rfl, rfl⟩ (fun _ => ⟨rfl, rfl⟩) rfl ?_
  refine Rk_n 2 rfl trivial ?_
  refine Rk_newa rfl (Or.inl rfl) ka_int (by decide) rfl rfl rfl ?_
  refine Rk_put rfl rfl rfl rfl ⟨rfl, rfl, rfl⟩ (fun _ => ⟨rfl, rfl⟩) rfl ?_
  refine Rk_n 2 rfl trivial ?_
  refine Rk_newa rfl (Or.inl rfl) ka_int (by decide) rfl rfl rfl ?_
  refine Rk_put rfl rfl rfl rfl ⟨rfl, rfl, rfl⟩ (fun _ => ⟨rfl, rfl⟩) rfl ?_
  refine Rk_n 2 rfl trivial ?_
  refine Rk_newa rfl (Or.inl rfl) ka_int (by decide) rfl rfl rfl ?_
  refine Rk_put rfl rfl rfl rfl ⟨rfl, rfl, rfl⟩ (fun _ => ⟨rfl, rfl⟩) rfl ?_
  exact Rk_ret rfl rfl
def gs8 : List zc := [.inr (11, [.ref 1, .ref 3, .null, .null, .null, .null, .null, .null, .null, .null]), .inr (10, [.ref 2, .int 0]), garr .int 240, .inr (5, [.int 0, .int 0, .int 0, .int 0, .int 0, .ref 4, .ref 5, .ref 6, .ref 7, .ref 8, .ref 9, .ref 10]), garr .int 17, garr .int 17, garr .int 85, garr .int 6, garr .int 26, garr .int 8, garr .int 26, .inr (9, [.int 0, .null, .null])]
def gs9 : List zc := [.inr (11, [.ref 1, .ref 3, .null, .null, .null, .null, .null, .null, .null, .null]), .inr (10, [.ref 2, .int 0]), garr .int 240, .inr (5, [.int 0, .int 0, .int 0, .int 0, .int 0, .ref 4, .ref 5, .ref 6, .ref 7, .ref 8, .ref 9, .ref 10]), garr .int 17, garr .int 17, garr .int 85, garr .int 6, garr .int 26, garr .int 8, garr .int 26, .inr (9, [.int 0, .ref 12, .ref 13]), garr .int 4, garr .int 96]
set_option maxRecDepth 100000 in
set_option maxHeartbeats 4000000 in
theorem cX9_init_1 : Ek mX9_init [.ref 11] gs8 gs9 := by
  refine Ek_of okIX9_init.1 okIX9_init.2.1 rfl ?_
  refine Rk_n 1 rfl trivial ?_
  refine Rk_obj rfl ko9_3 rfl ?_
  refine Rk_n 2 rfl trivial ?_
  refine Rk_newa rfl (Or.inl rfl) ka_int (by decide) rfl rfl rfl ?_
  refine Rk_put rfl rfl rfl rfl ⟨rfl, rfl, rfl⟩ (fun _ => ⟨rfl, rfl⟩) rfl ?_
  refine Rk_n 2 rfl trivial ?_
  refine Rk_newa rfl (Or.inl rfl) ka_int (by decide) rfl rfl rfl ?_
  refine Rk_put rfl rfl rfl rfl ⟨rfl, rfl, rfl⟩ (fun _ => ⟨rfl, rfl⟩) rfl ?_
  exact Rk_ret rfl rfl
def gs10 : List zc := [.inr (11, [.ref 1, .ref 3, .ref 11, .null, .null, .null, .null, .null, .null, .null]), .inr (10, [.ref 2, .int 0]), garr .int 240, .inr (5, [.int 0, .int 0, .int 0, .int 0, .int 0, .ref 4, .ref 5, .ref 6, .ref 7, .ref 8, .ref 9, .ref 10]), garr .int 17, garr .int 17, garr .int 85, garr .int 6, garr .int 26, garr .int 8, garr .int 26, .inr (9, [.int 0, .ref 12, .ref 13]), garr .int 4, garr .int 96, .inr (4, [.null, .int 0, .int 0, .int 0, .null, .null, .null, .null, .null, .null, .int 0, .null, .null])]
def gs11 : List zc := [.inr (11, [.ref 1, .ref 3, .ref 11, .null, .null, .null, .null, .null, .null, .null]), .inr (10, [.ref 2, .int 0]), garr .int 240, .inr (5, [.int 0, .int 0, .int 0, .int 0, .int 0, .ref 4, .ref 5, .ref 6, .ref 7, .ref 8, .ref 9, .ref 10]), garr .int 17, garr .int 17, garr .int 85, garr .int 6, garr .int 26, garr .int 8, garr .int 26, .inr (9, [.int 0, .ref 12, .ref 13]), garr .int 4, garr .int 96, .inr (4, [.ref 3, .int 0, .int 0, .int 0, .ref 15, .ref 16, .ref 17, .ref 18, .ref 19, .ref 20, .int 0, .ref 21, .ref 22]), garr .int 6, garr .int 6, garr .int 6, garr .int 102, garr .int 6, garr .int 378, garr .long 9, garr .long 9]
set_option maxRecDepth 100000 in
set_option maxHeartbeats 4000000 in
theorem cX4_init_1 : Ek mX4_init [.ref 14, .ref 3] gs10 gs11 := by
  refine Ek_of okIX4_init.1 okIX4_init.2.1 rfl ?_
  refine Rk_n 1 rfl trivial ?_
  refine Rk_obj rfl ko4_3 rfl ?_
  refine Rk_n 2 rfl trivial ?_
  refine Rk_newa rfl (Or.inl rfl) ka_int (by decide) rfl rfl rfl ?_
  refine Rk_put rfl rfl rfl rfl ⟨rfl, rfl, rfl⟩ (fun _ => ⟨rfl, rfl⟩) rfl ?_
  refine Rk_n 2 rfl trivial ?_
  refine Rk_newa rfl (Or.inl rfl) ka_int (by decide) rfl rfl rfl ?_
  refine Rk_put rfl rfl rfl rfl ⟨rfl, rfl, rfl⟩ (fun _ => ⟨rfl, rfl⟩) rfl ?_
  refine Rk_n 2 rfl trivial ?_
  refine Rk_newa rfl (Or.inl rfl) ka_int (by decide) rfl rfl rfl ?_
  refine Rk_put rfl rfl rfl rfl ⟨rfl, rfl, rfl⟩ (fun _ => ⟨rfl, rfl⟩) rfl ?_
  refine Rk_n 2 rfl trivial ?_
  refine Rk_newa rfl (Or.inl rfl) ka_int (by decide) rfl rfl rfl ?_
  refine Rk_put rfl rfl rfl rfl ⟨rfl, rfl, rfl⟩ (fun _ => ⟨rfl, rfl⟩) rfl ?_
  refine Rk_n 2 rfl trivial ?_
  refine Rk_newa rfl (Or.inl rfl) ka_int (by decide) rfl rfl rfl ?_
  refine Rk_put rfl rfl rfl rfl ⟨rfl, rfl, rfl⟩ (fun _ => ⟨rfl, rfl⟩) rfl ?_
  refine Rk_n 2 rfl trivial ?_
  refine Rk_newa rfl (Or.inl rfl) ka_int (by decide) rfl rfl rfl ?_
  refine Rk_put rfl rfl rfl rfl ⟨rfl, rfl, rfl⟩ (fun _ => ⟨rfl, rfl⟩) rfl ?_
  refine Rk_n 2 rfl trivial ?_
  refine Rk_newa rfl (Or.inr (Or.inr rfl)) ka_long (by decide) rfl rfl rfl ?_
  refine Rk_put rfl rfl rfl rfl ⟨rfl, rfl, rfl⟩ (fun _ => ⟨rfl, rfl⟩) rfl ?_
  refine Rk_n 2 rfl trivial ?_
  refine Rk_newa rfl (Or.inr (Or.inr rfl)) ka_long (by decide) rfl rfl rfl ?_
  refine Rk_put rfl rfl rfl rfl ⟨rfl, rfl, rfl⟩ (fun _ => ⟨rfl, rfl⟩) rfl ?_
  refine Rk_n 2 rfl trivial ?_
  refine Rk_put rfl rfl rfl rfl ⟨rfl, rfl, rfl⟩ (fun _ => ⟨rfl, rfl⟩) rfl ?_
  exact Rk_ret rfl rfl
def gs12 : List zc := [.inr (11, [.ref 1, .ref 3, .ref 11, .ref 14, .null, .null, .null, .null, .null, .null]), .inr (10, [.ref 2, .int 0]), garr .int 240, .inr (5, [.int 0, .int 0, .int 0, .int 0, .int 0, .ref 4, .ref 5, .ref 6, .ref 7, .ref 8, .ref 9, .ref 10]), garr .int 17, garr .int 17, garr .int 85, garr .int 6, garr .int 26, garr .int 8, garr .int 26, .inr (9, [.int 0, .ref 12, .ref 13]), garr .int 4, garr .int 96, .inr (4, [.ref 3, .int 0, .int 0, .int 0, .ref 15, .ref 16, .ref 17, .ref 18, .ref 19, .ref 20, .int 0, .ref 21, .ref 22]), garr .int 6, garr .int 6, garr .int 6, garr .int 102, garr .int 6, garr .int 378, garr .long 9, garr .long 9, .inr (6, [.int 0, .int 0, .int 0, .int 0, .null])]
def gs13 : List zc := [.inr (11, [.ref 1, .ref 3, .ref 11, .ref 14, .null, .null, .null, .null, .null, .null]), .inr (10, [.ref 2, .int 0]), garr .int 240, .inr (5, [.int 0, .int 0, .int 0, .int 0, .int 0, .ref 4, .ref 5, .ref 6, .ref 7, .ref 8, .ref 9, .ref 10]), garr .int 17, garr .int 17, garr .int 85, garr .int 6, garr .int 26, garr .int 8, garr .int 26, .inr (9, [.int 0, .ref 12, .ref 13]), garr .int 4, garr .int 96, .inr (4, [.ref 3, .int 0, .int 0, .int 0, .ref 15, .ref 16, .ref 17, .ref 18, .ref 19, .ref 20, .int 0, .ref 21, .ref 22]), garr .int 6, garr .int 6, garr .int 6, garr .int 102, garr .int 6, garr .int 378, garr .long 9, garr .long 9, .inr (6, [.int 0, .int 0, .int 0, .int 0, .ref 24]), garr .int 40]
set_option maxRecDepth 100000 in
set_option maxHeartbeats 4000000 in
theorem cX6_init_1 : Ek mX6_init [.ref 23] gs12 gs13 := by
  refine Ek_of okIX6_init.1 okIX6_init.2.1 rfl ?_
  refine Rk_n 1 rfl trivial ?_
  refine Rk_obj rfl ko6_3 rfl ?_
  refine Rk_n 2 rfl trivial ?_
  refine Rk_newa rfl (Or.inl rfl) ka_int (by decide) rfl rfl rfl ?_
  refine Rk_put rfl rfl rfl rfl ⟨rfl, rfl, rfl⟩ (fun _ => ⟨rfl, rfl⟩) rfl ?_
  exact Rk_ret rfl rfl
def gs14 : List zc := [.inr (11, [.ref 1, .ref 3, .ref 11, .ref 14, .ref 23, .null, .null, .null, .null, .null]), .inr (10, [.ref 2, .int 0]), garr .int 240, .inr (5, [.int 0, .int 0, .int 0, .int 0, .int 0, .ref 4, .ref 5, .ref 6, .ref 7, .ref 8, .ref 9, .ref 10]), garr .int 17, garr .int 17, garr .int 85, garr .int 6, garr .int 26, garr .int 8, garr .int 26, .inr (9, [.int 0, .ref 12, .ref 13]), garr .int 4, garr .int 96, .inr (4, [.ref 3, .int 0, .int 0, .int 0, .ref 15, .ref 16, .ref 17, .ref 18, .ref 19, .ref 20, .int 0, .ref 21, .ref 22]), garr .int 6, garr .int 6, garr .int 6, garr .int 102, garr .int 6, garr .int 378, garr .long 9, garr .long 9, .inr (6, [.int 0, .int 0, .int 0, .int 0, .ref 24]), garr .int 40, .inr (2, [.null, .null, .null, .int 0, .int 0, .null, .null])]
def gs15 : List zc := [.inr (11, [.ref 1, .ref 3, .ref 11, .ref 14, .ref 23, .null, .null, .null, .null, .null]), .inr (10, [.ref 2, .int 0]), garr .int 240, .inr (5, [.int 0, .int 0, .int 0, .int 0, .int 0, .ref 4, .ref 5, .ref 6, .ref 7, .ref 8, .ref 9, .ref 10]), garr .int 17, garr .int 17, garr .int 85, garr .int 6, garr .int 26, garr .int 8, garr .int 26, .inr (9, [.int 0, .ref 12, .ref 13]), garr .int 4, garr .int 96, .inr (4, [.ref 3, .int 0, .int 0, .int 0, .ref 15, .ref 16, .ref 17, .ref 18, .ref 19, .ref 20, .int 0, .ref 21, .ref 22]), garr .int 6, garr .int 6, garr .int 6, garr .int 102, garr .int 6, garr .int 378, garr .long 9, garr .long 9, .inr (6, [.int 0, .int 0, .int 0, .int 0, .ref 24]), garr .int 40, .inr (2, [.null, .ref 26, .ref 27, .int 0, .int 0, .null, .null]), garr .int 200, garr .int 200, .inr (7, [.int 0, .null, .null])]
def gs16 : List zc := [.inr (11, [.ref 1, .ref 3, .ref 11, .ref 14, .ref 23, .null, .null, .null, .null, .null]), .inr (10, [.ref 2, .int 0]), garr .int 240, .inr (5, [.int 0, .int 0, .int 0, .int 0, .int 0, .ref 4, .ref 5, .ref 6, .ref 7, .ref 8, .ref 9, .ref 10]), garr .int 17, garr .int 17, garr .int 85, garr .int 6, garr .int 26, garr .int 8, garr .int 26, .inr (9, [.int 0, .ref 12, .ref 13]), garr .int 4, garr .int 96, .inr (4, [.ref 3, .int 0, .int 0, .int 0, .ref 15, .ref 16, .ref 17, .ref 18, .ref 19, .ref 20, .int 0, .ref 21, .ref 22]), garr .int 6, garr .int 6, garr .int 6, garr .int 102, garr .int 6, garr .int 378, garr .long 9, garr .long 9, .inr (6, [.int 0, .int 0, .int 0, .int 0, .ref 24]), garr .int 40, .inr (2, [.null, .ref 26, .ref 27, .int 0, .int 0, .null, .null]), garr .int 200, garr .int 200, .inr (7, [.int 0, .ref 29, .ref 30]), garr .int 81, garr .int 81]
set_option maxRecDepth 100000 in
set_option maxHeartbeats 4000000 in
theorem cX7_init_1 : Ek mX7_init [.ref 28] gs15 gs16 := by
  refine Ek_of okIX7_init.1 okIX7_init.2.1 rfl ?_
  refine Rk_n 1 rfl trivial ?_
  refine Rk_obj rfl ko7_3 rfl ?_
  refine Rk_n 2 rfl trivial ?_
  refine Rk_newa rfl (Or.inl rfl) ka_int (by decide) rfl rfl rfl ?_
  refine Rk_put rfl rfl rfl rfl ⟨rfl, rfl, rfl⟩ (fun _ => ⟨rfl, rfl⟩) rfl ?_
  refine Rk_n 2 rfl trivial ?_
  refine Rk_newa rfl (Or.inl rfl) ka_int (by decide) rfl rfl rfl ?_
  refine Rk_put rfl rfl rfl rfl ⟨rfl, rfl, rfl⟩ (fun _ => ⟨rfl, rfl⟩) rfl ?_
  exact Rk_ret rfl rfl
def gs17 : List zc := [.inr (11, [.ref 1, .ref 3, .ref 11, .ref 14, .ref 23, .null, .null, .null, .null, .null]), .inr (10, [.ref 2, .int 0]), garr .int 240, .inr (5, [.int 0, .int 0, .int 0, .int 0, .int 0, .ref 4, .ref 5, .ref 6, .ref 7, .ref 8, .ref 9, .ref 10]), garr .int 17, garr .int 17, garr .int 85, garr .int 6, garr .int 26, garr .int 8, garr .int 26, .inr (9, [.int 0, .ref 12, .ref 13]), garr .int 4, garr .int 96, .inr (4, [.ref 3, .int 0, .int 0, .int 0, .ref 15, .ref 16, .ref 17, .ref 18, .ref 19, .ref 20, .int 0, .ref 21, .ref 22]), garr .int 6, garr .int 6, garr .int 6, garr .int 102, garr .int 6, garr .int 378, garr .long 9, garr .long 9, .inr (6, [.int 0, .int 0, .int 0, .int 0, .ref 24]), garr .int 40, .inr (2, [.null, .ref 26, .ref 27, .int 0, .int 0, .ref 28, .null]), garr .int 200, garr .int 200, .inr (7, [.int 0, .ref 29, .ref 30]), garr .int 81, garr .int 81, .inr (7, [.int 0, .null, .null])]
def gs18 : List zc := [.inr (11, [.ref 1, .ref 3, .ref 11, .ref 14, .ref 23, .null, .null, .null, .null, .null]), .inr (10, [.ref 2, .int 0]), garr .int 240, .inr (5, [.int 0, .int 0, .int 0, .int 0, .int 0, .ref 4, .ref 5, .ref 6, .ref 7, .ref 8, .ref 9, .ref 10]), garr .int 17, garr .int 17, garr .int 85, garr .int 6, garr .int 26, garr .int 8, garr .int 26, .inr (9, [.int 0, .ref 12, .ref 13]), garr .int 4, garr .int 96, .inr (4, [.ref 3, .int 0, .int 0, .int 0, .ref 15, .ref 16, .ref 17, .ref 18, .ref 19, .ref 20, .int 0, .ref 21, .ref 22]), garr .int 6, garr .int 6, garr .int 6, garr .int 102, garr .int 6, garr .int 378, garr .long 9, garr .long 9, .inr (6, [.int 0, .int 0, .int 0, .int 0, .ref 24]), garr .int 40, .inr (2, [.null, .ref 26, .ref 27, .int 0, .int 0, .ref 28, .null]), garr .int 200, garr .int 200, .inr (7, [.int 0, .ref 29, .ref 30]), garr .int 81, garr .int 81, .inr (7, [.int 0, .ref 32, .ref 33]), garr .int 81, garr .int 81]
set_option maxRecDepth 100000 in
set_option maxHeartbeats 4000000 in
theorem cX7_init_2 : Ek mX7_init [.ref 31] gs17 gs18 := by
  refine Ek_of okIX7_init.1 okIX7_init.2.1 rfl ?_
  refine Rk_n 1 rfl trivial ?_
  refine Rk_obj rfl ko7_3 rfl ?_
  refine Rk_n 2 rfl trivial ?_
  refine Rk_newa rfl (Or.inl rfl) ka_int (by decide) rfl rfl rfl ?_
  refine Rk_put rfl rfl rfl rfl ⟨rfl, rfl, rfl⟩ (fun _ => ⟨rfl, rfl⟩) rfl ?_
  refine Rk_n 2 rfl trivial ?_
  refine Rk_newa rfl (Or.inl rfl) ka_int (by decide) rfl rfl rfl ?_
  refine Rk_put rfl rfl rfl rfl ⟨rfl, rfl, rfl⟩ (fun _ => ⟨rfl, rfl⟩) rfl ?_
  exact Rk_ret rfl rfl
def gs19 : List zc := [.inr (11, [.ref 1, .ref 3, .ref 11, .ref 14, .ref 23, .null, .null, .null, .null, .null]), .inr (10, [.ref 2, .int 0]), garr .int 240, .inr (5, [.int 0, .int 0, .int 0, .int 0, .int 0, .ref 4, .ref 5, .ref 6, .ref 7, .ref 8, .ref 9, .ref 10]), garr .int 17, garr .int 17, garr .int 85, garr .int 6, garr .int 26, garr .int 8, garr .int 26, .inr (9, [.int 0, .ref 12, .ref 13]), garr .int 4, garr .int 96, .inr (4, [.ref 3, .int 0, .int 0, .int 0, .ref 15, .ref 16, .ref 17, .ref 18, .ref 19, .ref 20, .int 0, .ref 21, .ref 22]), garr .int 6, garr .int 6, garr .int 6, garr .int 102, garr .int 6, garr .int 378, garr .long 9, garr .long 9, .inr (6, [.int 0, .int 0, .int 0, .int 0, .ref 24]), garr .int 40, .inr (2, [.ref 3, .ref 26, .ref 27, .int 0, .int 0, .ref 28, .ref 31]), garr .int 200, garr .int 200, .inr (7, [.int 0, .ref 29, .ref 30]), garr .int 81, garr .int 81, .inr (7, [.int 0, .ref 32, .ref 33]), garr .int 81, garr .int 81]
set_option maxRecDepth 100000 in
set_option maxHeartbeats 4000000 in
theorem cX2_init_1 : Ek mX2_init [.ref 25, .ref 3] gs14 gs19 := by
  refine Ek_of okIX2_init.1 okIX2_init.2.1 rfl ?_
  refine Rk_n 1 rfl trivial ?_
  refine Rk_obj rfl ko2_3 rfl ?_
  refine Rk_n 2 rfl trivial ?_
  refine Rk_newa rfl (Or.inl rfl) ka_int (by decide) rfl rfl rfl ?_
  refine Rk_put rfl rfl rfl rfl ⟨rfl, rfl, rfl⟩ (fun _ => ⟨rfl, rfl⟩) rfl ?_
  refine Rk_n 2 rfl trivial ?_
  refine Rk_newa rfl (Or.inl rfl) ka_int (by decide) rfl rfl rfl ?_
  refine Rk_put rfl rfl rfl rfl ⟨rfl, rfl, rfl⟩ (fun _ => ⟨rfl, rfl⟩) rfl ?_
  refine Rk_n 1 rfl trivial ?_
  refine Rk_new 7 rfl rfl kn2_18 rfl ?_
  refine Rk_n 1 rfl trivial ?_
  refine Rk_init okIX7_init cX7_init_1 rfl (Or.inr ⟨_, List.mem_of_getElem? (i := 4) rfl⟩) rfl rfl rfl rfl ?_
  refine Rk_put rfl rfl rfl rfl ⟨rfl, rfl, rfl⟩ (fun _ => ⟨rfl, rfl⟩) rfl ?_
  refine Rk_n 1 rfl trivial ?_
  refine Rk_new 7 rfl rfl kn2_18 rfl ?_
  refine Rk_n 1 rfl trivial ?_
  refine Rk_init okIX7_init cX7_init_2 rfl (Or.inr ⟨_, List.mem_of_getElem? (i := 4) rfl⟩) rfl rfl rfl rfl ?_
  refine Rk_put rfl rfl rfl rfl ⟨rfl, rfl, rfl⟩ (fun _ => ⟨rfl, rfl⟩) rfl ?_
  refine Rk_n 2 rfl trivial ?_
  refine Rk_put rfl rfl rfl rfl ⟨rfl, rfl, rfl⟩ (fun _ => ⟨rfl, rfl⟩) rfl ?_
  exact Rk_ret rfl rfl
def gs20 : List zc := [.inr (11, [.ref 1, .ref 3, .ref 11, .ref 14, .ref 23, .ref 25, .ref 34, .ref 35, .null, .null]), .inr (10, [.ref 2, .int 0]), garr .int 240, .inr (5, [.int 0, .int 0, .int 0, .int 0, .int 0, .ref 4, .ref 5, .ref 6, .ref 7, .ref 8, .ref 9, .ref 10]), garr .int 17, garr .int 17, garr .int 85, garr .int 6, garr .int 26, garr .int 8, garr .int 26, .inr (9, [.int 0, .ref 12, .ref 13]), garr .int 4, garr .int 96, .inr (4, [.ref 3, .int 0, .int 0, .int 0, .ref 15, .ref 16, .ref 17, .ref 18, .ref 19, .ref 20, .int 0, .ref 21, .ref 22]), garr .int 6, garr .int 6, garr .int 6, garr .int 102, garr .int 6, garr .int 378, garr .long 9, garr .long 9, .inr (6, [.int 0, .int 0, .int 0, .int 0, .ref 24]), garr .int 40, .inr (2, [.ref 3, .ref 26, .ref 27, .int 0, .int 0, .ref 28, .ref 31]), garr .int 200, garr .int 200, .inr (7, [.int 0, .ref 29, .ref 30]), garr .int 81, garr .int 81, .inr (7, [.int 0, .ref 32, .ref 33]), garr .int 81, garr .int 81, .inl (4, 3, .inr (.inr (.inr (.inr (fun _ => none))))), .inl (5, 3, .inr (.inr (.inr (.inr (fun _ => none))))), .inr (1, [.int 0, .null, .null, .int 0, .int 0, .int 0, .null, .null, .null, .null, .int 0, .null, .null, .null, .null, .null, .null])]
def gs21 : List zc := [.inr (11, [.ref 1, .ref 3, .ref 11, .ref 14, .ref 23, .ref 25, .ref 34, .ref 35, .null, .null]), .inr (10, [.ref 2, .int 0]), garr .int 240, .inr (5, [.int 0, .int 0, .int 0, .int 0, .int 0, .ref 4, .ref 5, .ref 6, .ref 7, .ref 8, .ref 9, .ref 10]), garr .int 17, garr .int 17, garr .int 85, garr .int 6, garr .int 26, garr .int 8, garr .int 26, .inr (9, [.int 0, .ref 12, .ref 13]), garr .int 4, garr .int 96, .inr (4, [.ref 3, .int 0, .int 0, .int 0, .ref 15, .ref 16, .ref 17, .ref 18, .ref 19, .ref 20, .int 0, .ref 21, .ref 22]), garr .int 6, garr .int 6, garr .int 6, garr .int 102, garr .int 6, garr .int 378, garr .long 9, garr .long 9, .inr (6, [.int 0, .int 0, .int 0, .int 0, .ref 24]), garr .int 40, .inr (2, [.ref 3, .ref 26, .ref 27, .int 0, .int 0, .ref 28, .ref 31]), garr .int 200, garr .int 200, .inr (7, [.int 0, .ref 29, .ref 30]), garr .int 81, garr .int 81, .inr (7, [.int 0, .ref 32, .ref 33]), garr .int 81, garr .int 81, .inl (4, 3, .inr (.inr (.inr (.inr (fun _ => none))))), .inl (5, 3, .inr (.inr (.inr (.inr (fun _ => none))))), .inr (1, [.int 0, .ref 3, .ref 14, .int 1, .int 0, .int 0, .ref 37, .ref 38, .ref 39, .ref 40, .int 0, .ref 41, .ref 42, .ref 43, .ref 44, .ref 45, .ref 46]), .inl (3, 200, .inr (.inr (.inr (.inr (fun _ => none))))), garr .int 200, garr .int 1200, garr .int 2800, garr .int 200, garr .int 200, garr .int 200, garr .int 200, garr .int 200, garr .int 200]
set_option maxRecDepth 100000 in
set_option maxHeartbeats 4000000 in
theorem cX1_init_1 : Ek mX1_init [.ref 36, .int 0, .ref 3, .ref 14] gs20 gs21 := by
  refine Ek_of okIX1_init.1 okIX1_init.2.1 rfl ?_
  refine Rk_n 1 rfl trivial ?_
  refine Rk_obj rfl ko1_3 rfl ?_
  refine Rk_n 2 rfl trivial ?_
  refine Rk_put rfl rfl rfl rfl ⟨rfl, rfl, rfl⟩ (fun _ => ⟨rfl, rfl⟩) rfl ?_
  refine Rk_n 2 rfl trivial ?_
  refine Rk_anew 3 rfl (fun _ => rfl) kc1_15 (fun _ h => h.2.1) (by decide) rfl rfl rfl ?_
  refine Rk_put rfl rfl rfl rfl ⟨rfl, rfl, rfl⟩ (fun _ => ⟨rfl, rfl⟩) rfl ?_
  refine Rk_n 2 rfl trivial ?_
  refine Rk_newa rfl (Or.inl rfl) ka_int (by decide) rfl rfl rfl ?_
  refine Rk_put rfl rfl rfl rfl ⟨rfl, rfl, rfl⟩ (fun _ => ⟨rfl, rfl⟩) rfl ?_
  refine Rk_n 2 rfl trivial ?_
  refine Rk_newa rfl (Or.inl rfl) ka_int (by decide) rfl rfl rfl ?_
  refine Rk_put rfl rfl rfl rfl ⟨rfl, rfl, rfl⟩ (fun _ => ⟨rfl, rfl⟩) rfl ?_
  refine Rk_n 2 rfl trivial ?_
  refine Rk_newa rfl (Or.inl rfl) ka_int (by decide) rfl rfl rfl ?_
  refine Rk_put rfl rfl rfl rfl ⟨rfl, rfl, rfl⟩ (fun _ => ⟨rfl, rfl⟩) rfl ?_
  refine Rk_n 2 rfl trivial ?_
  refine Rk_newa rfl (Or.inl rfl) ka_int (by decide) rfl rfl rfl ?_
  refine Rk_put rfl rfl rfl rfl ⟨rfl, rfl, rfl⟩ (fun _ => ⟨rfl, rfl⟩) rfl ?_
  refine Rk_n 2 rfl trivial ?_
  refine Rk_newa rfl (Or.inl rfl) ka_int (by decide) rfl rfl rfl ?_
  refine Rk_put rfl rfl rfl rfl ⟨rfl, rfl, rfl⟩ (fun _ => ⟨rfl, rfl⟩) rfl ?_
  refine Rk_n 2 rfl trivial ?_
  refine Rk_newa rfl (Or.inl rfl) ka_int (by decide) rfl rfl rfl ?_
  refine Rk_put rfl rfl rfl rfl ⟨rfl, rfl, rfl⟩ (fun _ => ⟨rfl, rfl⟩) rfl ?_
  refine Rk_n 2 rfl trivial ?_
  refine Rk_newa rfl (Or.inl rfl) ka_int (by decide) rfl rfl rfl ?_
  refine Rk_put rfl rfl rfl rfl ⟨rfl, rfl, rfl⟩ (fun _ => ⟨rfl, rfl⟩) rfl ?_
  refine Rk_n 2 rfl trivial ?_
  refine Rk_newa rfl (Or.inl rfl) ka_int (by decide) rfl rfl rfl ?_
  refine Rk_put rfl rfl rfl rfl ⟨rfl, rfl, rfl⟩ (fun _ => ⟨rfl, rfl⟩) rfl ?_
  refine Rk_n 2 rfl trivial ?_
  refine Rk_newa rfl (Or.inl rfl) ka_int (by decide) rfl rfl rfl ?_
  refine Rk_put rfl rfl rfl rfl ⟨rfl, rfl, rfl⟩ (fun _ => ⟨rfl, rfl⟩) rfl ?_
  refine Rk_n 2 rfl trivial ?_
  refine Rk_put rfl rfl rfl rfl ⟨rfl, rfl, rfl⟩ (fun _ => ⟨rfl, rfl⟩) rfl ?_
  refine Rk_n 2 rfl trivial ?_
  refine Rk_put rfl rfl rfl rfl ⟨rfl, rfl, rfl⟩ (fun _ => ⟨rfl, rfl⟩) rfl ?_
  refine Rk_n 2 rfl trivial ?_
  refine Rk_put rfl rfl rfl rfl ⟨rfl, rfl, rfl⟩ (fun _ => ⟨rfl, rfl⟩) rfl ?_
  exact Rk_ret rfl rfl
def gs22 : List zc := [.inr (11, [.ref 1, .ref 3, .ref 11, .ref 14, .ref 23, .ref 25, .ref 34, .ref 35, .null, .null]), .inr (10, [.ref 2, .int 0]), garr .int 240, .inr (5, [.int 0, .int 0, .int 0, .int 0, .int 0, .ref 4, .ref 5, .ref 6, .ref 7, .ref 8, .ref 9, .ref 10]), garr .int 17, garr .int 17, garr .int 85, garr .int 6, garr .int 26, garr .int 8, garr .int 26, .inr (9, [.int 0, .ref 12, .ref 13]), garr .int 4, garr .int 96, .inr (4, [.ref 3, .int 0, .int 0, .int 0, .ref 15, .ref 16, .ref 17, .ref 18, .ref 19, .ref 20, .int 0, .ref 21, .ref 22]), garr .int 6, garr .int 6, garr .int 6, garr .int 102, garr .int 6, garr .int 378, garr .long 9, garr .long 9, .inr (6, [.int 0, .int 0, .int 0, .int 0, .ref 24]), garr .int 40, .inr (2, [.ref 3, .ref 26, .ref 27, .int 0, .int 0, .ref 28, .ref 31]), garr .int 200, garr .int 200, .inr (7, [.int 0, .ref 29, .ref 30]), garr .int 81, garr .int 81, .inr (7, [.int 0, .ref 32, .ref 33]), garr .int 81, garr .int 81, .inl (4, 3, .inr (.inr (.inr (.inr (va_up (fun _ => none) 0 (some 36)))))), .inl (5, 3, .inr (.inr (.inr (.inr (fun _ => none))))), .inr (1, [.int 0, .ref 3, .ref 14, .int 1, .int 0, .int 0, .ref 37, .ref 38, .ref 39, .ref 40, .int 0, .ref 41, .ref 42, .ref 43, .ref 44, .ref 45, .ref 46]), .inl (3, 200, .inr (.inr (.inr (.inr (fun _ => none))))), garr .int 200, garr .int 1200, garr .int 2800, garr .int 200, garr .int 200, garr .int 200, garr .int 200, garr .int 200, garr .int 200, .inr (0, [.null, .null, .null, .int 0, .null, .null, .null, .int 0, .int 0, .int 0, .null, .null])]
def gs23 : List zc := [.inr (11, [.ref 1, .ref 3, .ref 11, .ref 14, .ref 23, .ref 25, .ref 34, .ref 35, .null, .null]), .inr (10, [.ref 2, .int 0]), garr .int 240, .inr (5, [.int 0, .int 0, .int 0, .int 0, .int 0, .ref 4, .ref 5, .ref 6, .ref 7, .ref 8, .ref 9, .ref 10]), garr .int 17, garr .int 17, garr .int 85, garr .int 6, garr .int 26, garr .int 8, garr .int 26, .inr (9, [.int 0, .ref 12, .ref 13]), garr .int 4, garr .int 96, .inr (4, [.ref 3, .int 0, .int 0, .int 0, .ref 15, .ref 16, .ref 17, .ref 18, .ref 19, .ref 20, .int 0, .ref 21, .ref 22]), garr .int 6, garr .int 6, garr .int 6, garr .int 102, garr .int 6, garr .int 378, garr .long 9, garr .long 9, .inr (6, [.int 0, .int 0, .int 0, .int 0, .ref 24]), garr .int 40, .inr (2, [.ref 3, .ref 26, .ref 27, .int 0, .int 0, .ref 28, .ref 31]), garr .int 200, garr .int 200, .inr (7, [.int 0, .ref 29, .ref 30]), garr .int 81, garr .int 81, .inr (7, [.int 0, .ref 32, .ref 33]), garr .int 81, garr .int 81, .inl (4, 3, .inr (.inr (.inr (.inr (va_up (fun _ => none) 0 (some 36)))))), .inl (5, 3, .inr (.inr (.inr (.inr (fun _ => none))))), .inr (1, [.int 0, .ref 3, .ref 14, .int 1, .int 0, .int 0, .ref 37, .ref 38, .ref 39, .ref 40, .int 0, .ref 41, .ref 42, .ref 43, .ref 44, .ref 45, .ref 46]), .inl (3, 200, .inr (.inr (.inr (.inr (fun _ => none))))), garr .int 200, garr .int 1200, garr .int 2800, garr .int 200, garr .int 200, garr .int 200, garr .int 200, garr .int 200, garr .int 200, .inr (0, [.ref 3, .ref 14, .ref 36, .int 1, .ref 48, .ref 49, .ref 50, .int 0, .int 0, .int 0, .ref 51, .ref 52]), garr .int 1800, garr .int 200, garr .int 200, garr .int 9, garr .int 16]
set_option maxRecDepth 100000 in
set_option maxHeartbeats 4000000 in
theorem cX0_init_1 : Ek mX0_init [.ref 47, .ref 3, .ref 14, .ref 36] gs22 gs23 := by
  refine Ek_of okIX0_init.1 okIX0_init.2.1 rfl ?_
  refine Rk_n 1 rfl trivial ?_
  refine Rk_obj rfl ko0_3 rfl ?_
  refine Rk_n 2 rfl trivial ?_
  refine Rk_put rfl rfl rfl rfl ⟨rfl, rfl, rfl⟩ (fun _ => ⟨rfl, rfl⟩) rfl ?_
  refine Rk_n 2 rfl trivial ?_
  refine Rk_newa rfl (Or.inl rfl) ka_int (by decide) rfl rfl rfl ?_
  refine Rk_put rfl rfl rfl rfl ⟨rfl, rfl, rfl⟩ (fun _ => ⟨rfl, rfl⟩) rfl ?_
  refine Rk_n 2 rfl trivial ?_
  refine Rk_newa rfl (Or.inl rfl) ka_int (by decide) rfl rfl rfl ?_
  refine Rk_put rfl rfl rfl rfl ⟨rfl, rfl, rfl⟩ (fun _ => ⟨rfl, rfl⟩) rfl ?_
  refine Rk_n 2 rfl trivial ?_
  refine Rk_newa rfl (Or.inl rfl) ka_int (by decide) rfl rfl rfl ?_
  refine Rk_put rfl rfl rfl rfl ⟨rfl, rfl, rfl⟩ (fun _ => ⟨rfl, rfl⟩) rfl ?_
  refine Rk_n 2 rfl trivial ?_
  refine Rk_newa rfl (Or.inl rfl) ka_int (by decide) rfl rfl rfl ?_
  refine Rk_put rfl rfl rfl rfl ⟨rfl, rfl, rfl⟩ (fun _ => ⟨rfl, rfl⟩) rfl ?_
  refine Rk_n 2 rfl trivial ?_
  refine Rk_newa rfl (Or.inl rfl) ka_int (by decide) rfl rfl rfl ?_
  refine Rk_put rfl rfl rfl rfl ⟨rfl, rfl, rfl⟩ (fun _ => ⟨rfl, rfl⟩) rfl ?_
  refine Rk_n 2 rfl trivial ?_
  refine Rk_put rfl rfl rfl rfl ⟨rfl, rfl, rfl⟩ (fun _ => ⟨rfl, rfl⟩) rfl ?_
  refine Rk_n 2 rfl trivial ?_
  refine Rk_put rfl rfl rfl rfl ⟨rfl, rfl, rfl⟩ (fun _ => ⟨rfl, rfl⟩) rfl ?_
  refine Rk_n 2 rfl trivial ?_
  refine Rk_put rfl rfl rfl rfl ⟨rfl, rfl, rfl⟩ (fun _ => ⟨rfl, rfl⟩) rfl ?_
  exact Rk_ret rfl rfl
def gs24 : List zc := [.inr (11, [.ref 1, .ref 3, .ref 11, .ref 14, .ref 23, .ref 25, .ref 34, .ref 35, .null, .null]), .inr (10, [.ref 2, .int 0]), garr .int 240, .inr (5, [.int 0, .int 0, .int 0, .int 0, .int 0, .ref 4, .ref 5, .ref 6, .ref 7, .ref 8, .ref 9, .ref 10]), garr .int 17, garr .int 17, garr .int 85, garr .int 6, garr .int 26, garr .int 8, garr .int 26, .inr (9, [.int 0, .ref 12, .ref 13]), garr .int 4, garr .int 96, .inr (4, [.ref 3, .int 0, .int 0, .int 0, .ref 15, .ref 16, .ref 17, .ref 18, .ref 19, .ref 20, .int 0, .ref 21, .ref 22]), garr .int 6, garr .int 6, garr .int 6, garr .int 102, garr .int 6, garr .int 378, garr .long 9, garr .long 9, .inr (6, [.int 0, .int 0, .int 0, .int 0, .ref 24]), garr .int 40, .inr (2, [.ref 3, .ref 26, .ref 27, .int 0, .int 0, .ref 28, .ref 31]), garr .int 200, garr .int 200, .inr (7, [.int 0, .ref 29, .ref 30]), garr .int 81, garr .int 81, .inr (7, [.int 0, .ref 32, .ref 33]), garr .int 81, garr .int 81, .inl (4, 3, .inr (.inr (.inr (.inr (va_up (fun _ => none) 0 (some 36)))))), .inl (5, 3, .inr (.inr (.inr (.inr (va_up (fun _ => none) 0 (some 47)))))), .inr (1, [.int 0, .ref 3, .ref 14, .int 1, .int 0, .int 0, .ref 37, .ref 38, .ref 39, .ref 40, .int 0, .ref 41, .ref 42, .ref 43, .ref 44, .ref 45, .ref 46]), .inl (3, 200, .inr (.inr (.inr (.inr (fun _ => none))))), garr .int 200, garr .int 1200, garr .int 2800, garr .int 200, garr .int 200, garr .int 200, garr .int 200, garr .int 200, garr .int 200, .inr (0, [.ref 3, .ref 14, .ref 36, .int 1, .ref 48, .ref 49, .ref 50, .int 0, .int 0, .int 0, .ref 51, .ref 52]), garr .int 1800, garr .int 200, garr .int 200, garr .int 9, garr .int 16, .inr (1, [.int 0, .null, .null, .int 0, .int 0, .int 0, .null, .null, .null, .null, .int 0, .null, .null, .null, .null, .null, .null])]
def gs25 : List zc := [.inr (11, [.ref 1, .ref 3, .ref 11, .ref 14, .ref 23, .ref 25, .ref 34, .ref 35, .null, .null]), .inr (10, [.ref 2, .int 0]), garr .int 240, .inr (5, [.int 0, .int 0, .int 0, .int 0, .int 0, .ref 4, .ref 5, .ref 6, .ref 7, .ref 8, .ref 9, .ref 10]), garr .int 17, garr .int 17, garr .int 85, garr .int 6, garr .int 26, garr .int 8, garr .int 26, .inr (9, [.int 0, .ref 12, .ref 13]), garr .int 4, garr .int 96, .inr (4, [.ref 3, .int 0, .int 0, .int 0, .ref 15, .ref 16, .ref 17, .ref 18, .ref 19, .ref 20, .int 0, .ref 21, .ref 22]), garr .int 6, garr .int 6, garr .int 6, garr .int 102, garr .int 6, garr .int 378, garr .long 9, garr .long 9, .inr (6, [.int 0, .int 0, .int 0, .int 0, .ref 24]), garr .int 40, .inr (2, [.ref 3, .ref 26, .ref 27, .int 0, .int 0, .ref 28, .ref 31]), garr .int 200, garr .int 200, .inr (7, [.int 0, .ref 29, .ref 30]), garr .int 81, garr .int 81, .inr (7, [.int 0, .ref 32, .ref 33]), garr .int 81, garr .int 81, .inl (4, 3, .inr (.inr (.inr (.inr (va_up (fun _ => none) 0 (some 36)))))), .inl (5, 3, .inr (.inr (.inr (.inr (va_up (fun _ => none) 0 (some 47)))))), .inr (1, [.int 0, .ref 3, .ref 14, .int 1, .int 0, .int 0, .ref 37, .ref 38, .ref 39, .ref 40, .int 0, .ref 41, .ref 42, .ref 43, .ref 44, .ref 45, .ref 46]), .inl (3, 200, .inr (.inr (.inr (.inr (fun _ => none))))), garr .int 200, garr .int 1200, garr .int 2800, garr .int 200, garr .int 200, garr .int 200, garr .int 200, garr .int 200, garr .int 200, .inr (0, [.ref 3, .ref 14, .ref 36, .int 1, .ref 48, .ref 49, .ref 50, .int 0, .int 0, .int 0, .ref 51, .ref 52]), garr .int 1800, garr .int 200, garr .int 200, garr .int 9, garr .int 16, .inr (1, [.int 1, .ref 3, .ref 14, .int 1, .int 0, .int 0, .ref 54, .ref 55, .ref 56, .ref 57, .int 0, .ref 58, .ref 59, .ref 60, .ref 61, .ref 62, .ref 63]), .inl (3, 200, .inr (.inr (.inr (.inr (fun _ => none))))), garr .int 200, garr .int 1200, garr .int 2800, garr .int 200, garr .int 200, garr .int 200, garr .int 200, garr .int 200, garr .int 200]
set_option maxRecDepth 100000 in
set_option maxHeartbeats 4000000 in
theorem cX1_init_2 : Ek mX1_init [.ref 53, .int 1, .ref 3, .ref 14] gs24 gs25 := by
  refine Ek_of okIX1_init.1 okIX1_init.2.1 rfl ?_
  refine Rk_n 1 rfl trivial ?_
  refine Rk_obj rfl ko1_3 rfl ?_
  refine Rk_n 2 rfl trivial ?_
  refine Rk_put rfl rfl rfl rfl ⟨rfl, rfl, rfl⟩ (fun _ => ⟨rfl, rfl⟩) rfl ?_
  refine Rk_n 2 rfl trivial ?_
  refine Rk_anew 3 rfl (fun _ => rfl) kc1_15 (fun _ h => h.2.1) (by decide) rfl rfl rfl ?_
  refine Rk_put rfl rfl rfl rfl ⟨rfl, rfl, rfl⟩ (fun _ => ⟨rfl, rfl⟩) rfl ?_
  refine Rk_n 2 rfl trivial ?_
  refine Rk_newa rfl (Or.inl rfl) ka_int (by decide) rfl rfl rfl ?_
  refine Rk_put rfl rfl rfl rfl ⟨rfl, rfl, rfl⟩ (fun _ => ⟨rfl, rfl⟩) rfl ?_
  refine Rk_n 2 rfl trivial ?_
  refine Rk_newa rfl (Or.inl rfl) ka_int (by decide) rfl rfl rfl ?_
  refine Rk_put rfl rfl rfl rfl ⟨rfl, rfl, rfl⟩ (fun _ => ⟨rfl, rfl⟩) rfl ?_
  refine Rk_n 2 rfl trivial ?_
  refine Rk_newa rfl (Or.inl rfl) ka_int (by decide) rfl rfl rfl ?_
  refine Rk_put rfl rfl rfl rfl ⟨rfl, rfl, rfl⟩ (fun _ => ⟨rfl, rfl⟩) rfl ?_
  refine Rk_n 2 rfl trivial ?_
  refine Rk_newa rfl (Or.inl rfl) ka_int (by decide) rfl rfl rfl ?_
  refine Rk_put rfl rfl rfl rfl ⟨rfl, rfl, rfl⟩ (fun _ => ⟨rfl, rfl⟩) rfl ?_
  refine Rk_n 2 rfl trivial ?_
  refine Rk_newa rfl (Or.inl rfl) ka_int (by decide) rfl rfl rfl ?_
  refine Rk_put rfl rfl rfl rfl ⟨rfl, rfl, rfl⟩ (fun _ => ⟨rfl, rfl⟩) rfl ?_
  refine Rk_n 2 rfl trivial ?_
  refine Rk_newa rfl (Or.inl rfl) ka_int (by decide) rfl rfl rfl ?_
  refine Rk_put rfl rfl rfl rfl ⟨rfl, rfl, rfl⟩ (fun _ => ⟨rfl, rfl⟩) rfl ?_
  refine Rk_n 2 rfl trivial ?_
  refine Rk_newa rfl (Or.inl rfl) ka_int (by decide) rfl rfl rfl ?_
  refine Rk_put rfl rfl rfl rfl ⟨rfl, rfl, rfl⟩ (fun _ => ⟨rfl, rfl⟩) rfl ?_
  refine Rk_n 2 rfl trivial ?_
  refine Rk_newa rfl (Or.inl rfl) ka_int (by decide) rfl rfl rfl ?_
  refine Rk_put rfl rfl rfl rfl ⟨rfl, rfl, rfl⟩ (fun _ => ⟨rfl, rfl⟩) rfl ?_
  refine Rk_n 2 rfl trivial ?_
  refine Rk_newa rfl (Or.inl rfl) ka_int (by decide) rfl rfl rfl ?_
  refine Rk_put rfl rfl rfl rfl ⟨rfl, rfl, rfl⟩ (fun _ => ⟨rfl, rfl⟩) rfl ?_
  refine Rk_n 2 rfl trivial ?_
  refine Rk_put rfl rfl rfl rfl ⟨rfl, rfl, rfl⟩ (fun _ => ⟨rfl, rfl⟩) rfl ?_
  refine Rk_n 2 rfl trivial ?_
  refine Rk_put rfl rfl rfl rfl ⟨rfl, rfl, rfl⟩ (fun _ => ⟨rfl, rfl⟩) rfl ?_
  refine Rk_n 2 rfl trivial ?_
  refine Rk_put rfl rfl rfl rfl ⟨rfl, rfl, rfl⟩ (fun _ => ⟨rfl, rfl⟩) rfl ?_
  exact Rk_ret rfl rfl
def gs26 : List zc := [.inr (11, [.ref 1, .ref 3, .ref 11, .ref 14, .ref 23, .ref 25, .ref 34, .ref 35, .null, .null]), .inr (10, [.ref 2, .int 0]), garr .int 240, .inr (5, [.int 0, .int 0, .int 0, .int 0, .int 0, .ref 4, .ref 5, .ref 6, .ref 7, .ref 8, .ref 9, .ref 10]), garr .int 17, garr .int 17, garr .int 85, garr .int 6, garr .int 26, garr .int 8, garr .int 26, .inr (9, [.int 0, .ref 12, .ref 13]), garr .int 4, garr .int 96, .inr (4, [.ref 3, .int 0, .int 0, .int 0, .ref 15, .ref 16, .ref 17, .ref 18, .ref 19, .ref 20, .int 0, .ref 21, .ref 22]), garr .int 6, garr .int 6, garr .int 6, garr .int 102, garr .int 6, garr .int 378, garr .long 9, garr .long 9, .inr (6, [.int 0, .int 0, .int 0, .int 0, .ref 24]), garr .int 40, .inr (2, [.ref 3, .ref 26, .ref 27, .int 0, .int 0, .ref 28, .ref 31]), garr .int 200, garr .int 200, .inr (7, [.int 0, .ref 29, .ref 30]), garr .int 81, garr .int 81, .inr (7, [.int 0, .ref 32, .ref 33]), garr .int 81, garr .int 81, .inl (4, 3, .inr (.inr (.inr (.inr (va_up (va_up (fun _ => none) 0 (some 36)) 1 (some 53)))))), .inl (5, 3, .inr (.inr (.inr (.inr (va_up (fun _ => none) 0 (some 47)))))), .inr (1, [.int 0, .ref 3, .ref 14, .int 1, .int 0, .int 0, .ref 37, .ref 38, .ref 39, .ref 40, .int 0, .ref 41, .ref 42, .ref 43, .ref 44, .ref 45, .ref 46]), .inl (3, 200, .inr (.inr (.inr (.inr (fun _ => none))))), garr .int 200, garr .int 1200, garr .int 2800, garr .int 200, garr .int 200, garr .int 200, garr .int 200, garr .int 200, garr .int 200, .inr (0, [.ref 3, .ref 14, .ref 36, .int 1, .ref 48, .ref 49, .ref 50, .int 0, .int 0, .int 0, .ref 51, .ref 52]), garr .int 1800, garr .int 200, garr .int 200, garr .int 9, garr .int 16, .inr (1, [.int 1, .ref 3, .ref 14, .int 1, .int 0, .int 0, .ref 54, .ref 55, .ref 56, .ref 57, .int 0, .ref 58, .ref 59, .ref 60, .ref 61, .ref 62, .ref 63]), .inl (3, 200, .inr (.inr (.inr (.inr (fun _ => none))))), garr .int 200, garr .int 1200, garr .int 2800, garr .int 200, garr .int 200, garr .int 200, garr .int 200, garr .int 200, garr .int 200, .inr (0, [.null, .null, .null, .int 0, .null, .null, .null, .int 0, .int 0, .int 0, .null, .null])]
def gs27 : List zc := [.inr (11, [.ref 1, .ref 3, .ref 11, .ref 14, .ref 23, .ref 25, .ref 34, .ref 35, .null, .null]), .inr (10, [.ref 2, .int 0]), garr .int 240, .inr (5, [.int 0, .int 0, .int 0, .int 0, .int 0, .ref 4, .ref 5, .ref 6, .ref 7, .ref 8, .ref 9, .ref 10]), garr .int 17, garr .int 17, garr .int 85, garr .int 6, garr .int 26, garr .int 8, garr .int 26, .inr (9, [.int 0, .ref 12, .ref 13]), garr .int 4, garr .int 96, .inr (4, [.ref 3, .int 0, .int 0, .int 0, .ref 15, .ref 16, .ref 17, .ref 18, .ref 19, .ref 20, .int 0, .ref 21, .ref 22]), garr .int 6, garr .int 6, garr .int 6, garr .int 102, garr .int 6, garr .int 378, garr .long 9, garr .long 9, .inr (6, [.int 0, .int 0, .int 0, .int 0, .ref 24]), garr .int 40, .inr (2, [.ref 3, .ref 26, .ref 27, .int 0, .int 0, .ref 28, .ref 31]), garr .int 200, garr .int 200, .inr (7, [.int 0, .ref 29, .ref 30]), garr .int 81, garr .int 81, .inr (7, [.int 0, .ref 32, .ref 33]), garr .int 81, garr .int 81, .inl (4, 3, .inr (.inr (.inr (.inr (va_up (va_up (fun _ => none) 0 (some 36)) 1 (some 53)))))), .inl (5, 3, .inr (.inr (.inr (.inr (va_up (fun _ => none) 0 (some 47)))))), .inr (1, [.int 0, .ref 3, .ref 14, .int 1, .int 0, .int 0, .ref 37, .ref 38, .ref 39, .ref 40, .int 0, .ref 41, .ref 42, .ref 43, .ref 44, .ref 45, .ref 46]), .inl (3, 200, .inr (.inr (.inr (.inr (fun _ => none))))), garr .int 200, garr .int 1200, garr .int 2800, garr .int 200, garr .int 200, garr .int 200, garr .int 200, garr .int 200, garr .int 200, .inr (0, [.ref 3, .ref 14, .ref 36, .int 1, .ref 48, .ref 49, .ref 50, .int 0, .int 0, .int 0, .ref 51, .ref 52]), garr .int 1800, garr .int 200, garr .int 200, garr .int 9, garr .int 16, .inr (1, [.int 1, .ref 3, .ref 14, .int 1, .int 0, .int 0, .ref 54, .ref 55, .ref 56, .ref 57, .int 0, .ref 58, .ref 59, .ref 60, .ref 61, .ref 62, .ref 63]), .inl (3, 200, .inr (.inr (.inr (.inr (fun _ => none))))), garr .int 200, garr .int 1200, garr .int 2800, garr .int 200, garr .int 200, garr .int 200, garr .int 200, garr .int 200, garr .int 200, .inr (0, [.ref 3, .ref 14, .ref 53, .int 1, .ref 65, .ref 66, .ref 67, .int 0, .int 0, .int 0, .ref 68, .ref 69]), garr .int 1800, garr .int 200, garr .int 200, garr .int 9, garr .int 16]
set_option maxRecDepth 100000 in
set_option maxHeartbeats 4000000 in
theorem cX0_init_2 : Ek mX0_init [.ref 64, .ref 3, .ref 14, .ref 53] gs26 gs27 := by
  refine Ek_of okIX0_init.1 okIX0_init.2.1 rfl ?_
  refine Rk_n 1 rfl trivial ?_
  refine Rk_obj rfl ko0_3 rfl ?_
  refine Rk_n 2 rfl trivial ?_
  refine Rk_put rfl rfl rfl rfl ⟨rfl, rfl, rfl⟩ (fun _ => ⟨rfl, rfl⟩) rfl ?_
  refine Rk_n 2 rfl trivial ?_
  refine Rk_newa rfl (Or.inl rfl) ka_int (by decide) rfl rfl rfl ?_
  refine Rk_put rfl rfl rfl rfl ⟨rfl, rfl, rfl⟩ (fun _ => ⟨rfl, rfl⟩) rfl ?_
  refine Rk_n 2 rfl trivial ?_
  refine Rk_newa rfl (Or.inl rfl) ka_int (by decide) rfl rfl rfl ?_
  refine Rk_put rfl rfl rfl rfl ⟨rfl, rfl, rfl⟩ (fun _ => ⟨rfl, rfl⟩) rfl ?_
  refine Rk_n 2 rfl trivial ?_
  refine Rk_newa rfl (Or.inl rfl) ka_int (by decide) rfl rfl rfl ?_
  refine Rk_put rfl rfl rfl rfl ⟨rfl, rfl, rfl⟩ (fun _ => ⟨rfl, rfl⟩) rfl ?_
  refine Rk_n 2 rfl trivial ?_
  refine Rk_newa rfl (Or.inl rfl) ka_int (by decide) rfl rfl rfl ?_
  refine Rk_put rfl rfl rfl rfl ⟨rfl, rfl, rfl⟩ (fun _ => ⟨rfl, rfl⟩) rfl ?_
  refine Rk_n 2 rfl trivial ?_
  refine Rk_newa rfl (Or.inl rfl) ka_int (by decide) rfl rfl rfl ?_
  refine Rk_put rfl rfl rfl rfl ⟨rfl, rfl, rfl⟩ (fun _ => ⟨rfl, rfl⟩) rfl ?_
  refine Rk_n 2 rfl trivial ?_
  refine Rk_put rfl rfl rfl rfl ⟨rfl, rfl, rfl⟩ (fun _ => ⟨rfl, rfl⟩) rfl ?_
  refine Rk_n 2 rfl trivial ?_
  refine Rk_put rfl rfl rfl rfl ⟨rfl, rfl, rfl⟩ (fun _ => ⟨rfl, rfl⟩) rfl ?_
  refine Rk_n 2 rfl trivial ?_
  refine Rk_put rfl rfl rfl rfl ⟨rfl, rfl, rfl⟩ (fun _ => ⟨rfl, rfl⟩) rfl ?_
  exact Rk_ret rfl rfl
def gs28 : List zc := [.inr (11, [.ref 1, .ref 3, .ref 11, .ref 14, .ref 23, .ref 25, .ref 34, .ref 35, .null, .null]), .inr (10, [.ref 2, .int 0]), garr .int 240, .inr (5, [.int 0, .int 0, .int 0, .int 0, .int 0, .ref 4, .ref 5, .ref 6, .ref 7, .ref 8, .ref 9, .ref 10]), garr .int 17, garr .int 17, garr .int 85, garr .int 6, garr .int 26, garr .int 8, garr .int 26, .inr (9, [.int 0, .ref 12, .ref 13]), garr .int 4, garr .int 96, .inr (4, [.ref 3, .int 0, .int 0, .int 0, .ref 15, .ref 16, .ref 17, .ref 18, .ref 19, .ref 20, .int 0, .ref 21, .ref 22]), garr .int 6, garr .int 6, garr .int 6, garr .int 102, garr .int 6, garr .int 378, garr .long 9, garr .long 9, .inr (6, [.int 0, .int 0, .int 0, .int 0, .ref 24]), garr .int 40, .inr (2, [.ref 3, .ref 26, .ref 27, .int 0, .int 0, .ref 28, .ref 31]), garr .int 200, garr .int 200, .inr (7, [.int 0, .ref 29, .ref 30]), garr .int 81, garr .int 81, .inr (7, [.int 0, .ref 32, .ref 33]), garr .int 81, garr .int 81, .inl (4, 3, .inr (.inr (.inr (.inr (va_up (va_up (fun _ => none) 0 (some 36)) 1 (some 53)))))), .inl (5, 3, .inr (.inr (.inr (.inr (va_up (va_up (fun _ => none) 0 (some 47)) 1 (some 64)))))), .inr (1, [.int 0, .ref 3, .ref 14, .int 1, .int 0, .int 0, .ref 37, .ref 38, .ref 39, .ref 40, .int 0, .ref 41, .ref 42, .ref 43, .ref 44, .ref 45, .ref 46]), .inl (3, 200, .inr (.inr (.inr (.inr (fun _ => none))))), garr .int 200, garr .int 1200, garr .int 2800, garr .int 200, garr .int 200, garr .int 200, garr .int 200, garr .int 200, garr .int 200, .inr (0, [.ref 3, .ref 14, .ref 36, .int 1, .ref 48, .ref 49, .ref 50, .int 0, .int 0, .int 0, .ref 51, .ref 52]), garr .int 1800, garr .int 200, garr .int 200, garr .int 9, garr .int 16, .inr (1, [.int 1, .ref 3, .ref 14, .int 1, .int 0, .int 0, .ref 54, .ref 55, .ref 56, .ref 57, .int 0, .ref 58, .ref 59, .ref 60, .ref 61, .ref 62, .ref 63]), .inl (3, 200, .inr (.inr (.inr (.inr (fun _ => none))))), garr .int 200, garr .int 1200, garr .int 2800, garr .int 200, garr .int 200, garr .int 200, garr .int 200, garr .int 200, garr .int 200, .inr (0, [.ref 3, .ref 14, .ref 53, .int 1, .ref 65, .ref 66, .ref 67, .int 0, .int 0, .int 0, .ref 68, .ref 69]), garr .int 1800, garr .int 200, garr .int 200, garr .int 9, garr .int 16, .inr (1, [.int 0, .null, .null, .int 0, .int 0, .int 0, .null, .null, .null, .null, .int 0, .null, .null, .null, .null, .null, .null])]
def gs29 : List zc := [.inr (11, [.ref 1, .ref 3, .ref 11, .ref 14, .ref 23, .ref 25, .ref 34, .ref 35, .null, .null]), .inr (10, [.ref 2, .int 0]), garr .int 240, .inr (5, [.int 0, .int 0, .int 0, .int 0, .int 0, .ref 4, .ref 5, .ref 6, .ref 7, .ref 8, .ref 9, .ref 10]), garr .int 17, garr .int 17, garr .int 85, garr .int 6, garr .int 26, garr .int 8, garr .int 26, .inr (9, [.int 0, .ref 12, .ref 13]), garr .int 4, garr .int 96, .inr (4, [.ref 3, .int 0, .int 0, .int 0, .ref 15, .ref 16, .ref 17, .ref 18, .ref 19, .ref 20, .int 0, .ref 21, .ref 22]), garr .int 6, garr .int 6, garr .int 6, garr .int 102, garr .int 6, garr .int 378, garr .long 9, garr .long 9, .inr (6, [.int 0, .int 0, .int 0, .int 0, .ref 24]), garr .int 40, .inr (2, [.ref 3, .ref 26, .ref 27, .int 0, .int 0, .ref 28, .ref 31]), garr .int 200, garr .int 200, .inr (7, [.int 0, .ref 29, .ref 30]), garr .int 81, garr .int 81, .inr (7, [.int 0, .ref 32, .ref 33]), garr .int 81, garr .int 81, .inl (4, 3, .inr (.inr (.inr (.inr (va_up (va_up (fun _ => none) 0 (some 36)) 1 (some 53)))))), .inl (5, 3, .inr (.inr (.inr (.inr (va_up (va_up (fun _ => none) 0 (some 47)) 1 (some 64)))))), .inr (1, [.int 0, .ref 3, .ref 14, .int 1, .int 0, .int 0, .ref 37, .ref 38, .ref 39, .ref 40, .int 0, .ref 41, .ref 42, .ref 43, .ref 44, .ref 45, .ref 46]), .inl (3, 200, .inr (.inr (.inr (.inr (fun _ => none))))), garr .int 200, garr .int 1200, garr .int 2800, garr .int 200, garr .int 200, garr .int 200, garr .int 200, garr .int 200, garr .int 200, .inr (0, [.ref 3, .ref 14, .ref 36, .int 1, .ref 48, .ref 49, .ref 50, .int 0, .int 0, .int 0, .ref 51, .ref 52]), garr .int 1800, garr .int 200, garr .int 200, garr .int 9, garr .int 16, .inr (1, [.int 1, .ref 3, .ref 14, .int 1, .int 0, .int 0, .ref 54, .ref 55, .ref 56, .ref 57, .int 0, .ref 58, .ref 59, .ref 60, .ref 61, .ref 62, .ref 63]), .inl (3, 200, .inr (.inr (.inr (.inr (fun _ => none))))), garr .int 200, garr .int 1200, garr .int 2800, garr .int 200, garr .int 200, garr .int 200, garr .int 200, garr .int 200, garr .int 200, .inr (0, [.ref 3, .ref 14, .ref 53, .int 1, .ref 65, .ref 66, .ref 67, .int 0, .int 0, .int 0, .ref 68, .ref 69]), garr .int 1800, garr .int 200, garr .int 200, garr .int 9, garr .int 16, .inr (1, [.int 2, .ref 3, .ref 14, .int 1, .int 0, .int 0, .ref 71, .ref 72, .ref 73, .ref 74, .int 0, .ref 75, .ref 76, .ref 77, .ref 78, .ref 79, .ref 80]), .inl (3, 200, .inr (.inr (.inr (.inr (fun _ => none))))), garr .int 200, garr .int 1200, garr .int 2800, garr .int 200, garr .int 200, garr .int 200, garr .int 200, garr .int 200, garr .int 200]
set_option maxRecDepth 100000 in
set_option maxHeartbeats 4000000 in
theorem cX1_init_3 : Ek mX1_init [.ref 70, .int 2, .ref 3, .ref 14] gs28 gs29 := by
  refine Ek_of okIX1_init.1 okIX1_init.2.1 rfl ?_
  refine Rk_n 1 rfl trivial ?_
  refine Rk_obj rfl ko1_3 rfl ?_
  refine Rk_n 2 rfl trivial ?_
  refine Rk_put rfl rfl rfl rfl ⟨rfl, rfl, rfl⟩ (fun _ => ⟨rfl, rfl⟩) rfl ?_
  refine Rk_n 2 rfl trivial ?_
  refine Rk_anew 3 rfl (fun _ => rfl) kc1_15 (fun _ h => h.2.1) (by decide) rfl rfl rfl ?_
  refine Rk_put rfl rfl rfl rfl ⟨rfl, rfl, rfl⟩ (fun _ => ⟨rfl, rfl⟩) rfl ?_
  refine Rk_n 2 rfl trivial ?_
  refine Rk_newa rfl (Or.inl rfl) ka_int (by decide) rfl rfl rfl ?_
  refine Rk_put rfl rfl rfl rfl ⟨rfl, rfl, rfl⟩ (fun _ => ⟨rfl, rfl⟩) rfl ?_
  refine Rk_n 2 rfl trivial ?_
  refine Rk_newa rfl (Or.inl rfl) ka_int (by decide) rfl rfl rfl ?_
  refine Rk_put rfl rfl rfl rfl ⟨rfl, rfl, rfl⟩ (fun _ => ⟨rfl, rfl⟩) rfl ?_
  refine Rk_n 2 rfl trivial ?_
  refine Rk_newa rfl (Or.inl rfl) ka_int (by decide) rfl rfl rfl ?_
  refine Rk_put rfl rfl rfl rfl ⟨rfl, rfl, rfl⟩ (fun _ => ⟨rfl, rfl⟩) rfl ?_
  refine Rk_n 2 rfl trivial ?_
  refine Rk_newa rfl (Or.inl rfl) ka_int (by decide) rfl rfl rfl ?_
  refine Rk_put rfl rfl rfl rfl ⟨rfl, rfl, rfl⟩ (fun _ => ⟨rfl, rfl⟩) rfl ?_
  refine Rk_n 2 rfl trivial ?_
  refine Rk_newa rfl (Or.inl rfl) ka_int (by decide) rfl rfl rfl ?_
  refine Rk_put rfl rfl rfl rfl ⟨rfl, rfl, rfl⟩ (fun _ => ⟨rfl, rfl⟩) rfl ?_
  refine Rk_n 2 rfl trivial ?_
  refine Rk_newa rfl (Or.inl rfl) ka_int (by decide) rfl rfl rfl ?_
  refine Rk_put rfl rfl rfl rfl ⟨rfl, rfl, rfl⟩ (fun _ => ⟨rfl, rfl⟩) rfl ?_
  refine Rk_n 2 rfl trivial ?_
  refine Rk_newa rfl (Or.inl rfl) ka_int (by decide) rfl rfl rfl ?_
  refine Rk_put rfl rfl rfl rfl ⟨rfl, rfl, rfl⟩ (fun _ => ⟨rfl, rfl⟩) rfl ?_
  refine Rk_n 2 rfl trivial ?_
  refine Rk_newa rfl (Or.inl rfl) ka_int (by decide) rfl rfl rfl ?_
  refine Rk_put rfl rfl rfl rfl ⟨rfl, rfl, rfl⟩ (fun _ => ⟨rfl, rfl⟩) rfl ?_
  refine Rk_n 2 rfl trivial ?_
  refine Rk_newa rfl (Or.inl rfl) ka_int (by decide) rfl rfl rfl ?_
  refine Rk_put rfl rfl rfl rfl ⟨rfl, rfl, rfl⟩ (fun _ => ⟨rfl, rfl⟩) rfl ?_
  refine Rk_n 2 rfl trivial ?_
  refine Rk_put rfl rfl rfl rfl ⟨rfl, rfl, rfl⟩ (fun _ => ⟨rfl, rfl⟩) rfl ?_
  refine Rk_n 2 rfl trivial ?_
  refine Rk_put rfl rfl rfl rfl ⟨rfl, rfl, rfl⟩ (fun _ => ⟨rfl, rfl⟩) rfl ?_
  refine Rk_n 2 rfl trivial ?_
  refine Rk_put rfl rfl rfl rfl ⟨rfl, rfl, rfl⟩ (fun _ => ⟨rfl, rfl⟩) rfl ?_
  exact Rk_ret rfl rfl
def gs30 : List zc := [.inr (11, [.ref 1, .ref 3, .ref 11, .ref 14, .ref 23, .ref 25, .ref 34, .ref 35, .null, .null]), .inr (10, [.ref 2, .int 0]), garr .int 240, .inr (5, [.int 0, .int 0, .int 0, .int 0, .int 0, .ref 4, .ref 5, .ref 6, .ref 7, .ref 8, .ref 9, .ref 10]), garr .int 17, garr .int 17, garr .int 85, garr .int 6, garr .int 26, garr .int 8, garr .int 26, .inr (9, [.int 0, .ref 12, .ref 13]), garr .int 4, garr .int 96, .inr (4, [.ref 3, .int 0, .int 0, .int 0, .ref 15, .ref 16, .ref 17, .ref 18, .ref 19, .ref 20, .int 0, .ref 21, .ref 22]), garr .int 6, garr .int 6, garr .int 6, garr .int 102, garr .int 6, garr .int 378, garr .long 9, garr .long 9, .inr (6, [.int 0, .int 0, .int 0, .int 0, .ref 24]), garr .int 40, .inr (2, [.ref 3, .ref 26, .ref 27, .int 0, .int 0, .ref 28, .ref 31]), garr .int 200, garr .int 200, .inr (7, [.int 0, .ref 29, .ref 30]), garr .int 81, garr .int 81, .inr (7, [.int 0, .ref 32, .ref 33]), garr .int 81, garr .int 81, .inl (4, 3, .inr (.inr (.inr (.inr (va_up (va_up (va_up (fun _ => none) 0 (some 36)) 1 (some 53)) 2 (some 70)))))), .inl (5, 3, .inr (.inr (.inr (.inr (va_up (va_up (fun _ => none) 0 (some 47)) 1 (some 64)))))), .inr (1, [.int 0, .ref 3, .ref 14, .int 1, .int 0, .int 0, .ref 37, .ref 38, .ref 39, .ref 40, .int 0, .ref 41, .ref 42, .ref 43, .ref 44, .ref 45, .ref 46]), .inl (3, 200, .inr (.inr (.inr (.inr (fun _ => none))))), garr .int 200, garr .int 1200, garr .int 2800, garr .int 200, garr .int 200, garr .int 200, garr .int 200, garr .int 200, garr .int 200, .inr (0, [.ref 3, .ref 14, .ref 36, .int 1, .ref 48, .ref 49, .ref 50, .int 0, .int 0, .int 0, .ref 51, .ref 52]), garr .int 1800, garr .int 200, garr .int 200, garr .int 9, garr .int 16, .inr (1, [.int 1, .ref 3, .ref 14, .int 1, .int 0, .int 0, .ref 54, .ref 55, .ref 56, .ref 57, .int 0, .ref 58, .ref 59, .ref 60, .ref 61, .ref 62, .ref 63]), .inl (3, 200, .inr (.inr (.inr (.inr (fun _ => none))))), garr .int 200, garr .int 1200, garr .int 2800, garr .int 200, garr .int 200, garr .int 200, garr .int 200, garr .int 200, garr .int 200, .inr (0, [.ref 3, .ref 14, .ref 53, .int 1, .ref 65, .ref 66, .ref 67, .int 0, .int 0, .int 0, .ref 68, .ref 69]), garr .int 1800, garr .int 200, garr .int 200, garr .int 9, garr .int 16, .inr (1, [.int 2, .ref 3, .ref 14, .int 1, .int 0, .int 0, .ref 71, .ref 72, .ref 73, .ref 74, .int 0, .ref 75, .ref 76, .ref 77, .ref 78, .ref 79, .ref 80]), .inl (3, 200, .inr (.inr (.inr (.inr (fun _ => none))))), garr .int 200, garr .int 1200, garr .int 2800, garr .int 200, garr .int 200, garr .int 200, garr .int 200, garr .int 200, garr .int 200, .inr (0, [.null, .null, .null, .int 0, .null, .null, .null, .int 0, .int 0, .int 0, .null, .null])]
def gs31 : List zc := [.inr (11, [.ref 1, .ref 3, .ref 11, .ref 14, .ref 23, .ref 25, .ref 34, .ref 35, .null, .null]), .inr (10, [.ref 2, .int 0]), garr .int 240, .inr (5, [.int 0, .int 0, .int 0, .int 0, .int 0, .ref 4, .ref 5, .ref 6, .ref 7, .ref 8, .ref 9, .ref 10]), garr .int 17, garr .int 17, garr .int 85, garr .int 6, garr .int 26, garr .int 8, garr .int 26, .inr (9, [.int 0, .ref 12, .ref 13]), garr .int 4, garr .int 96, .inr (4, [.ref 3, .int 0, .int 0, .int 0, .ref 15, .ref 16, .ref 17, .ref 18, .ref 19, .ref 20, .int 0, .ref 21, .ref 22]), garr .int 6, garr .int 6, garr .int 6, garr .int 102, garr .int 6, garr .int 378, garr .long 9, garr .long 9, .inr (6, [.int 0, .int 0, .int 0, .int 0, .ref 24]), garr .int 40, .inr (2, [.ref 3, .ref 26, .ref 27, .int 0, .int 0, .ref 28, .ref 31]), garr .int 200, garr .int 200, .inr (7, [.int 0, .ref 29, .ref 30]), garr .int 81, garr .int 81, .inr (7, [.int 0, .ref 32, .ref 33]), garr .int 81, garr .int 81, .inl (4, 3, .inr (.inr (.inr (.inr (va_up (va_up (va_up (fun _ => none) 0 (some 36)) 1 (some 53)) 2 (some 70)))))), .inl (5, 3, .inr (.inr (.inr (.inr (va_up (va_up (fun _ => none) 0 (some 47)) 1 (some 64)))))), .inr (1, [.int 0, .ref 3, .ref 14, .int 1, .int 0, .int 0, .ref 37, .ref 38, .ref 39, .ref 40, .int 0, .ref 41, .ref 42, .ref 43, .ref 44, .ref 45, .ref 46]), .inl (3, 200, .inr (.inr (.inr (.inr (fun _ => none))))), garr .int 200, garr .int 1200, garr .int 2800, garr .int 200, garr .int 200, garr .int 200, garr .int 200, garr .int 200, garr .int 200, .inr (0, [.ref 3, .ref 14, .ref 36, .int 1, .ref 48, .ref 49, .ref 50, .int 0, .int 0, .int 0, .ref 51, .ref 52]), garr .int 1800, garr .int 200, garr .int 200, garr .int 9, garr .int 16, .inr (1, [.int 1, .ref 3, .ref 14, .int 1, .int 0, .int 0, .ref 54, .ref 55, .ref 56, .ref 57, .int 0, .ref 58, .ref 59, .ref 60, .ref 61, .ref 62, .ref 63]), .inl (3, 200, .inr (.inr (.inr (.inr (fun _ => none))))), garr .int 200, garr .int 1200, garr .int 2800, garr .int 200, garr .int 200, garr .int 200, garr .int 200, garr .int 200, garr .int 200, .inr (0, [.ref 3, .ref 14, .ref 53, .int 1, .ref 65, .ref 66, .ref 67, .int 0, .int 0, .int 0, .ref 68, .ref 69]), garr .int 1800, garr .int 200, garr .int 200, garr .int 9, garr .int 16, .inr (1, [.int 2, .ref 3, .ref 14, .int 1, .int 0, .int 0, .ref 71, .ref 72, .ref 73, .ref 74, .int 0, .ref 75, .ref 76, .ref 77, .ref 78, .ref 79, .ref 80]), .inl (3, 200, .inr (.inr (.inr (.inr (fun _ => none))))), garr .int 200, garr .int 1200, garr .int 2800, garr .int 200, garr .int 200, garr .int 200, garr .int 200, garr .int 200, garr .int 200, .inr (0, [.ref 3, .ref 14, .ref 70, .int 1, .ref 82, .ref 83, .ref 84, .int 0, .int 0, .int 0, .ref 85, .ref 86]), garr .int 1800, garr .int 200, garr .int 200, garr .int 9, garr .int 16]
set_option maxRecDepth 100000 in
set_option maxHeartbeats 4000000 in
theorem cX0_init_3 : Ek mX0_init [.ref 81, .ref 3, .ref 14, .ref 70] gs30 gs31 := by
  refine Ek_of okIX0_init.1 okIX0_init.2.1 rfl ?_
  refine Rk_n 1 rfl trivial ?_
  refine Rk_obj rfl ko0_3 rfl ?_
  refine Rk_n 2 rfl trivial ?_
  refine Rk_put rfl rfl rfl rfl ⟨rfl, rfl, rfl⟩ (fun _ => ⟨rfl, rfl⟩) rfl ?_
  refine Rk_n 2 rfl trivial ?_
  refine Rk_newa rfl (Or.inl rfl) ka_int (by decide) rfl rfl rfl ?_
  refine Rk_put rfl rfl rfl rfl ⟨rfl, rfl, rfl⟩ (fun _ => ⟨rfl, rfl⟩) rfl ?_
  refine Rk_n 2 rfl trivial ?_
  refine Rk_newa rfl (Or.inl rfl) ka_int (by decide) rfl rfl rfl ?_
  refine Rk_put rfl rfl rfl rfl ⟨rfl, rfl, rfl⟩ (fun _ => ⟨rfl, rfl⟩) rfl ?_
  refine Rk_n 2 rfl trivial ?_
  refine Rk_newa rfl (Or.inl rfl) ka_int (by decide) rfl rfl rfl ?_
  refine Rk_put rfl rfl rfl rfl ⟨rfl, rfl, rfl⟩ (fun _ => ⟨rfl, rfl⟩) rfl ?_
  refine Rk_n 2 rfl trivial ?_
  refine Rk_newa rfl (Or.inl rfl) ka_int (by decide) rfl rfl rfl ?_
  refine Rk_put rfl rfl rfl rfl ⟨rfl, rfl, rfl⟩ (fun _ => ⟨rfl, rfl⟩) rfl ?_
  refine Rk_n 2 rfl trivial ?_
  refine Rk_newa rfl (Or.inl rfl) ka_int (by decide) rfl rfl rfl ?_
  refine Rk_put rfl rfl rfl rfl ⟨rfl, rfl, rfl⟩ (fun _ => ⟨rfl, rfl⟩) rfl ?_
  refine Rk_n 2 rfl trivial ?_
  refine Rk_put rfl rfl rfl rfl ⟨rfl, rfl, rfl⟩ (fun _ => ⟨rfl, rfl⟩) rfl ?_
  refine Rk_n 2 rfl trivial ?_
  refine Rk_put rfl rfl rfl rfl ⟨rfl, rfl, rfl⟩ (fun _ => ⟨rfl, rfl⟩) rfl ?_
  refine Rk_n 2 rfl trivial ?_
  refine Rk_put rfl rfl rfl rfl ⟨rfl, rfl, rfl⟩ (fun _ => ⟨rfl, rfl⟩) rfl ?_
  exact Rk_ret rfl rfl
def gs32 : List zc := [.inr (11, [.ref 1, .ref 3, .ref 11, .ref 14, .ref 23, .ref 25, .ref 34, .ref 35, .null, .null]), .inr (10, [.ref 2, .int 0]), garr .int 240, .inr (5, [.int 0, .int 0, .int 0, .int 0, .int 0, .ref 4, .ref 5, .ref 6, .ref 7, .ref 8, .ref 9, .ref 10]), garr .int 17, garr .int 17, garr .int 85, garr .int 6, garr .int 26, garr .int 8, garr .int 26, .inr (9, [.int 0, .ref 12, .ref 13]), garr .int 4, garr .int 96, .inr (4, [.ref 3, .int 0, .int 0, .int 0, .ref 15, .ref 16, .ref 17, .ref 18, .ref 19, .ref 20, .int 0, .ref 21, .ref 22]), garr .int 6, garr .int 6, garr .int 6, garr .int 102, garr .int 6, garr .int 378, garr .long 9, garr .long 9, .inr (6, [.int 0, .int 0, .int 0, .int 0, .ref 24]), garr .int 40, .inr (2, [.ref 3, .ref 26, .ref 27, .int 0, .int 0, .ref 28, .ref 31]), garr .int 200, garr .int 200, .inr (7, [.int 0, .ref 29, .ref 30]), garr .int 81, garr .int 81, .inr (7, [.int 0, .ref 32, .ref 33]), garr .int 81, garr .int 81, .inl (4, 3, .inr (.inr (.inr (.inr (va_up (va_up (va_up (fun _ => none) 0 (some 36)) 1 (some 53)) 2 (some 70)))))), .inl (5, 3, .inr (.inr (.inr (.inr (va_up (va_up (va_up (fun _ => none) 0 (some 47)) 1 (some 64)) 2 (some 81)))))), .inr (1, [.int 0, .ref 3, .ref 14, .int 1, .int 0, .int 0, .ref 37, .ref 38, .ref 39, .ref 40, .int 0, .ref 41, .ref 42, .ref 43, .ref 44, .ref 45, .ref 46]), .inl (3, 200, .inr (.inr (.inr (.inr (fun _ => none))))), garr .int 200, garr .int 1200, garr .int 2800, garr .int 200, garr .int 200, garr .int 200, garr .int 200, garr .int 200, garr .int 200, .inr (0, [.ref 3, .ref 14, .ref 36, .int 1, .ref 48, .ref 49, .ref 50, .int 0, .int 0, .int 0, .ref 51, .ref 52]), garr .int 1800, garr .int 200, garr .int 200, garr .int 9, garr .int 16, .inr (1, [.int 1, .ref 3, .ref 14, .int 1, .int 0, .int 0, .ref 54, .ref 55, .ref 56, .ref 57, .int 0, .ref 58, .ref 59, .ref 60, .ref 61, .ref 62, .ref 63]), .inl (3, 200, .inr (.inr (.inr (.inr (fun _ => none))))), garr .int 200, garr .int 1200, garr .int 2800, garr .int 200, garr .int 200, garr .int 200, garr .int 200, garr .int 200, garr .int 200, .inr (0, [.ref 3, .ref 14, .ref 53, .int 1, .ref 65, .ref 66, .ref 67, .int 0, .int 0, .int 0, .ref 68, .ref 69]), garr .int 1800, garr .int 200, garr .int 200, garr .int 9, garr .int 16, .inr (1, [.int 2, .ref 3, .ref 14, .int 1, .int 0, .int 0, .ref 71, .ref 72, .ref 73, .ref 74, .int 0, .ref 75, .ref 76, .ref 77, .ref 78, .ref 79, .ref 80]), .inl (3, 200, .inr (.inr (.inr (.inr (fun _ => none))))), garr .int 200, garr .int 1200, garr .int 2800, garr .int 200, garr .int 200, garr .int 200, garr .int 200, garr .int 200, garr .int 200, .inr (0, [.ref 3, .ref 14, .ref 70, .int 1, .ref 82, .ref 83, .ref 84, .int 0, .int 0, .int 0, .ref 85, .ref 86]), garr .int 1800, garr .int 200, garr .int 200, garr .int 9, garr .int 16, .inr (8, [.null, .null, .int 0, .int 0, .null, .int 0, .null, .null, .null, .int 0, .null, .int 0, .int 0, .int 0, .int 0, .null, .null, .null, .null])]
def gs33 : List zc := [.inr (11, [.ref 1, .ref 3, .ref 11, .ref 14, .ref 23, .ref 25, .ref 34, .ref 35, .null, .null]), .inr (10, [.ref 2, .int 0]), garr .int 240, .inr (5, [.int 0, .int 0, .int 0, .int 0, .int 0, .ref 4, .ref 5, .ref 6, .ref 7, .ref 8, .ref 9, .ref 10]), garr .int 17, garr .int 17, garr .int 85, garr .int 6, garr .int 26, garr .int 8, garr .int 26, .inr (9, [.int 0, .ref 12, .ref 13]), garr .int 4, garr .int 96, .inr (4, [.ref 3, .int 0, .int 0, .int 0, .ref 15, .ref 16, .ref 17, .ref 18, .ref 19, .ref 20, .int 0, .ref 21, .ref 22]), garr .int 6, garr .int 6, garr .int 6, garr .int 102, garr .int 6, garr .int 378, garr .long 9, garr .long 9, .inr (6, [.int 0, .int 0, .int 0, .int 0, .ref 24]), garr .int 40, .inr (2, [.ref 3, .ref 26, .ref 27, .int 0, .int 0, .ref 28, .ref 31]), garr .int 200, garr .int 200, .inr (7, [.int 0, .ref 29, .ref 30]), garr .int 81, garr .int 81, .inr (7, [.int 0, .ref 32, .ref 33]), garr .int 81, garr .int 81, .inl (4, 3, .inr (.inr (.inr (.inr (va_up (va_up (va_up (fun _ => none) 0 (some 36)) 1 (some 53)) 2 (some 70)))))), .inl (5, 3, .inr (.inr (.inr (.inr (va_up (va_up (va_up (fun _ => none) 0 (some 47)) 1 (some 64)) 2 (some 81)))))), .inr (1, [.int 0, .ref 3, .ref 14, .int 1, .int 0, .int 0, .ref 37, .ref 38, .ref 39, .ref 40, .int 0, .ref 41, .ref 42, .ref 43, .ref 44, .ref 45, .ref 46]), .inl (3, 200, .inr (.inr (.inr (.inr (fun _ => none))))), garr .int 200, garr .int 1200, garr .int 2800, garr .int 200, garr .int 200, garr .int 200, garr .int 200, garr .int 200, garr .int 200, .inr (0, [.ref 3, .ref 14, .ref 36, .int 1, .ref 48, .ref 49, .ref 50, .int 0, .int 0, .int 0, .ref 51, .ref 52]), garr .int 1800, garr .int 200, garr .int 200, garr .int 9, garr .int 16, .inr (1, [.int 1, .ref 3, .ref 14, .int 1, .int 0, .int 0, .ref 54, .ref 55, .ref 56, .ref 57, .int 0, .ref 58, .ref 59, .ref 60, .ref 61, .ref 62, .ref 63]), .inl (3, 200, .inr (.inr (.inr (.inr (fun _ => none))))), garr .int 200, garr .int 1200, garr .int 2800, garr .int 200, garr .int 200, garr .int 200, garr .int 200, garr .int 200, garr .int 200, .inr (0, [.ref 3, .ref 14, .ref 53, .int 1, .ref 65, .ref 66, .ref 67, .int 0, .int 0, .int 0, .ref 68, .ref 69]), garr .int 1800, garr .int 200, garr .int 200, garr .int 9, garr .int 16, .inr (1, [.int 2, .ref 3, .ref 14, .int 1, .int 0, .int 0, .ref 71, .ref 72, .ref 73, .ref 74, .int 0, .ref 75, .ref 76, .ref 77, .ref 78, .ref 79, .ref 80]), .inl (3, 200, .inr (.inr (.inr (.inr (fun _ => none))))), garr .int 200, garr .int 1200, garr .int 2800, garr .int 200, garr .int 200, garr .int 200, garr .int 200, garr .int 200, garr .int 200, .inr (0, [.ref 3, .ref 14, .ref 70, .int 1, .ref 82, .ref 83, .ref 84, .int 0, .int 0, .int 0, .ref 85, .ref 86]), garr .int 1800, garr .int 200, garr .int 200, garr .int 9, garr .int 16, .inr (8, [.ref 3, .null, .int 0, .int 0, .ref 88, .int 0, .ref 89, .ref 90, .ref 91, .int 0, .ref 92, .int 0, .int 0, .int 0, .int 0, .ref 93, .ref 94, .ref 95, .ref 96]), garr .int 24, garr .int 100, garr .int 100, garr .int 100, garr .int 100, garr .int 300, garr .int 300, garr .int 300, garr .int 300]
set_option maxRecDepth 100000 in
set_option maxHeartbeats 4000000 in
theorem cX8_init_1 : Ek mX8_init [.ref 87, .ref 3] gs32 gs33 := by
  refine Ek_of okIX8_init.1 okIX8_init.2.1 rfl ?_
  refine Rk_n 1 rfl trivial ?_
  refine Rk_obj rfl ko8_3 rfl ?_
  refine Rk_n 2 rfl trivial ?_
  refine Rk_newa rfl (Or.inl rfl) ka_int (by decide) rfl rfl rfl ?_
  refine Rk_put rfl rfl rfl rfl ⟨rfl, rfl, rfl⟩ (fun _ => ⟨rfl, rfl⟩) rfl ?_
  refine Rk_n 2 rfl trivial ?_
  refine Rk_newa rfl (Or.inl rfl) ka_int (by decide) rfl rfl rfl ?_
  refine Rk_put rfl rfl rfl rfl ⟨rfl, rfl, rfl⟩ (fun _ => ⟨rfl, rfl⟩) rfl ?_
  refine Rk_n 2 rfl trivial ?_
  refine Rk_newa rfl (Or.inl rfl) ka_int (by decide) rfl rfl rfl ?_
  refine Rk_put rfl rfl rfl rfl ⟨rfl, rfl, rfl⟩ (fun _ => ⟨rfl, rfl⟩) rfl ?_
  refine Rk_n 2 rfl trivial ?_
  refine Rk_newa rfl (Or.inl rfl) ka_int (by decide) rfl rfl rfl ?_
  refine Rk_put rfl rfl rfl rfl ⟨rfl, rfl, rfl⟩ (fun _ => ⟨rfl, rfl⟩) rfl ?_
  refine Rk_n 2 rfl trivial ?_
  refine Rk_newa rfl (Or.inl rfl) ka_int (by decide) rfl rfl rfl ?_
  refine Rk_put rfl rfl rfl rfl ⟨rfl, rfl, rfl⟩ (fun _ => ⟨rfl, rfl⟩) rfl ?_
  refine Rk_n 2 rfl trivial ?_
  refine Rk_newa rfl (Or.inl rfl) ka_int (by decide) rfl rfl rfl ?_
  refine Rk_put rfl rfl rfl rfl ⟨rfl, rfl, rfl⟩ (fun _ => ⟨rfl, rfl⟩) rfl ?_
  refine Rk_n 2 rfl trivial ?_
  refine Rk_newa rfl (Or.inl rfl) ka_int (by decide) rfl rfl rfl ?_
  refine Rk_put rfl rfl rfl rfl ⟨rfl, rfl, rfl⟩ (fun _ => ⟨rfl, rfl⟩) rfl ?_
  refine Rk_n 2 rfl trivial ?_
  refine Rk_newa rfl (Or.inl rfl) ka_int (by decide) rfl rfl rfl ?_
  refine Rk_put rfl rfl rfl rfl ⟨rfl, rfl, rfl⟩ (fun _ => ⟨rfl, rfl⟩) rfl ?_
  refine Rk_n 2 rfl trivial ?_
  refine Rk_newa rfl (Or.inl rfl) ka_int (by decide) rfl rfl rfl ?_
  refine Rk_put rfl rfl rfl rfl ⟨rfl, rfl, rfl⟩ (fun _ => ⟨rfl, rfl⟩) rfl ?_
  refine Rk_n 2 rfl trivial ?_
  refine Rk_put rfl rfl rfl rfl ⟨rfl, rfl, rfl⟩ (fun _ => ⟨rfl, rfl⟩) rfl ?_
  exact Rk_ret rfl rfl
def gs34 : List zc := [.inr (11, [.ref 1, .ref 3, .ref 11, .ref 14, .ref 23, .ref 25, .ref 34, .ref 35, .ref 87, .null]), .inr (10, [.ref 2, .int 0]), garr .int 240, .inr (5, [.int 0, .int 0, .int 0, .int 0, .int 0, .ref 4, .ref 5, .ref 6, .ref 7, .ref 8, .ref 9, .ref 10]), garr .int 17, garr .int 17, garr .int 85, garr .int 6, garr .int 26, garr .int 8, garr .int 26, .inr (9, [.int 0, .ref 12, .ref 13]), garr .int 4, garr .int 96, .inr (4, [.ref 3, .int 0, .int 0, .int 0, .ref 15, .ref 16, .ref 17, .ref 18, .ref 19, .ref 20, .int 0, .ref 21, .ref 22]), garr .int 6, garr .int 6, garr .int 6, garr .int 102, garr .int 6, garr .int 378, garr .long 9, garr .long 9, .inr (6, [.int 0, .int 0, .int 0, .int 0, .ref 24]), garr .int 40, .inr (2, [.ref 3, .ref 26, .ref 27, .int 0, .int 0, .ref 28, .ref 31]), garr .int 200, garr .int 200, .inr (7, [.int 0, .ref 29, .ref 30]), garr .int 81, garr .int 81, .inr (7, [.int 0, .ref 32, .ref 33]), garr .int 81, garr .int 81, .inl (4, 3, .inr (.inr (.inr (.inr (va_up (va_up (va_up (fun _ => none) 0 (some 36)) 1 (some 53)) 2 (some 70)))))), .inl (5, 3, .inr (.inr (.inr (.inr (va_up (va_up (va_up (fun _ => none) 0 (some 47)) 1 (some 64)) 2 (some 81)))))), .inr (1, [.int 0, .ref 3, .ref 14, .int 1, .int 0, .int 0, .ref 37, .ref 38, .ref 39, .ref 40, .int 0, .ref 41, .ref 42, .ref 43, .ref 44, .ref 45, .ref 46]), .inl (3, 200, .inr (.inr (.inr (.inr (fun _ => none))))), garr .int 200, garr .int 1200, garr .int 2800, garr .int 200, garr .int 200, garr .int 200, garr .int 200, garr .int 200, garr .int 200, .inr (0, [.ref 3, .ref 14, .ref 36, .int 1, .ref 48, .ref 49, .ref 50, .int 0, .int 0, .int 0, .ref 51, .ref 52]), garr .int 1800, garr .int 200, garr .int 200, garr .int 9, garr .int 16, .inr (1, [.int 1, .ref 3, .ref 14, .int 1, .int 0, .int 0, .ref 54, .ref 55, .ref 56, .ref 57, .int 0, .ref 58, .ref 59, .ref 60, .ref 61, .ref 62, .ref 63]), .inl (3, 200, .inr (.inr (.inr (.inr (fun _ => none))))), garr .int 200, garr .int 1200, garr .int 2800, garr .int 200, garr .int 200, garr .int 200, garr .int 200, garr .int 200, garr .int 200, .inr (0, [.ref 3, .ref 14, .ref 53, .int 1, .ref 65, .ref 66, .ref 67, .int 0, .int 0, .int 0, .ref 68, .ref 69]), garr .int 1800, garr .int 200, garr .int 200, garr .int 9, garr .int 16, .inr (1, [.int 2, .ref 3, .ref 14, .int 1, .int 0, .int 0, .ref 71, .ref 72, .ref 73, .ref 74, .int 0, .ref 75, .ref 76, .ref 77, .ref 78, .ref 79, .ref 80]), .inl (3, 200, .inr (.inr (.inr (.inr (fun _ => none))))), garr .int 200, garr .int 1200, garr .int 2800, garr .int 200, garr .int 200, garr .int 200, garr .int 200, garr .int 200, garr .int 200, .inr (0, [.ref 3, .ref 14, .ref 70, .int 1, .ref 82, .ref 83, .ref 84, .int 0, .int 0, .int 0, .ref 85, .ref 86]), garr .int 1800, garr .int 200, garr .int 200, garr .int 9, garr .int 16, .inr (8, [.ref 3, .null, .int 0, .int 0, .ref 88, .int 0, .ref 89, .ref 90, .ref 91, .int 0, .ref 92, .int 0, .int 0, .int 0, .int 0, .ref 93, .ref 94, .ref 95, .ref 96]), garr .int 24, garr .int 100, garr .int 100, garr .int 100, garr .int 100, garr .int 300, garr .int 300, garr .int 300, garr .int 300, .inr (3, [.null, .null, .long 0, .int 0, .null])]
def gs35 : List zc := [.inr (11, [.ref 1, .ref 3, .ref 11, .ref 14, .ref 23, .ref 25, .ref 34, .ref 35, .ref 87, .null]), .inr (10, [.ref 2, .int 0]), garr .int 240, .inr (5, [.int 0, .int 0, .int 0, .int 0, .int 0, .ref 4, .ref 5, .ref 6, .ref 7, .ref 8, .ref 9, .ref 10]), garr .int 17, garr .int 17, garr .int 85, garr .int 6, garr .int 26, garr .int 8, garr .int 26, .inr (9, [.int 0, .ref 12, .ref 13]), garr .int 4, garr .int 96, .inr (4, [.ref 3, .int 0, .int 0, .int 0, .ref 15, .ref 16, .ref 17, .ref 18, .ref 19, .ref 20, .int 0, .ref 21, .ref 22]), garr .int 6, garr .int 6, garr .int 6, garr .int 102, garr .int 6, garr .int 378, garr .long 9, garr .long 9, .inr (6, [.int 0, .int 0, .int 0, .int 0, .ref 24]), garr .int 40, .inr (2, [.ref 3, .ref 26, .ref 27, .int 0, .int 0, .ref 28, .ref 31]), garr .int 200, garr .int 200, .inr (7, [.int 0, .ref 29, .ref 30]), garr .int 81, garr .int 81, .inr (7, [.int 0, .ref 32, .ref 33]), garr .int 81, garr .int 81, .inl (4, 3, .inr (.inr (.inr (.inr (va_up (va_up (va_up (fun _ => none) 0 (some 36)) 1 (some 53)) 2 (some 70)))))), .inl (5, 3, .inr (.inr (.inr (.inr (va_up (va_up (va_up (fun _ => none) 0 (some 47)) 1 (some 64)) 2 (some 81)))))), .inr (1, [.int 0, .ref 3, .ref 14, .int 1, .int 0, .int 0, .ref 37, .ref 38, .ref 39, .ref 40, .int 0, .ref 41, .ref 42, .ref 43, .ref 44, .ref 45, .ref 46]), .inl (3, 200, .inr (.inr (.inr (.inr (fun _ => none))))), garr .int 200, garr .int 1200, garr .int 2800, garr .int 200, garr .int 200, garr .int 200, garr .int 200, garr .int 200, garr .int 200, .inr (0, [.ref 3, .ref 14, .ref 36, .int 1, .ref 48, .ref 49, .ref 50, .int 0, .int 0, .int 0, .ref 51, .ref 52]), garr .int 1800, garr .int 200, garr .int 200, garr .int 9, garr .int 16, .inr (1, [.int 1, .ref 3, .ref 14, .int 1, .int 0, .int 0, .ref 54, .ref 55, .ref 56, .ref 57, .int 0, .ref 58, .ref 59, .ref 60, .ref 61, .ref 62, .ref 63]), .inl (3, 200, .inr (.inr (.inr (.inr (fun _ => none))))), garr .int 200, garr .int 1200, garr .int 2800, garr .int 200, garr .int 200, garr .int 200, garr .int 200, garr .int 200, garr .int 200, .inr (0, [.ref 3, .ref 14, .ref 53, .int 1, .ref 65, .ref 66, .ref 67, .int 0, .int 0, .int 0, .ref 68, .ref 69]), garr .int 1800, garr .int 200, garr .int 200, garr .int 9, garr .int 16, .inr (1, [.int 2, .ref 3, .ref 14, .int 1, .int 0, .int 0, .ref 71, .ref 72, .ref 73, .ref 74, .int 0, .ref 75, .ref 76, .ref 77, .ref 78, .ref 79, .ref 80]), .inl (3, 200, .inr (.inr (.inr (.inr (fun _ => none))))), garr .int 200, garr .int 1200, garr .int 2800, garr .int 200, garr .int 200, garr .int 200, garr .int 200, garr .int 200, garr .int 200, .inr (0, [.ref 3, .ref 14, .ref 70, .int 1, .ref 82, .ref 83, .ref 84, .int 0, .int 0, .int 0, .ref 85, .ref 86]), garr .int 1800, garr .int 200, garr .int 200, garr .int 9, garr .int 16, .inr (8, [.ref 3, .null, .int 0, .int 0, .ref 88, .int 0, .ref 89, .ref 90, .ref 91, .int 0, .ref 92, .int 0, .int 0, .int 0, .int 0, .ref 93, .ref 94, .ref 95, .ref 96]), garr .int 24, garr .int 100, garr .int 100, garr .int 100, garr .int 100, garr .int 300, garr .int 300, garr .int 300, garr .int 300, .inr (3, [.ref 3, .ref 14, .long 0, .int 0, .ref 98]), garr .int 65]
set_option maxRecDepth 100000 in
set_option maxHeartbeats 4000000 in
theorem cX3_init_1 : Ek mX3_init [.ref 97, .ref 3, .ref 14] gs34 gs35 := by
  refine Ek_of okIX3_init.1 okIX3_init.2.1 rfl ?_
  refine Rk_n 1 rfl trivial ?_
  refine Rk_obj rfl ko3_3 rfl ?_
  refine Rk_n 2 rfl trivial ?_
  refine Rk_newa rfl (Or.inl rfl) ka_int (by decide) rfl rfl rfl ?_
  refine Rk_put rfl rfl rfl rfl ⟨rfl, rfl, rfl⟩ (fun _ => ⟨rfl, rfl⟩) rfl ?_
  refine Rk_n 2 rfl trivial ?_
  refine Rk_put rfl rfl rfl rfl ⟨rfl, rfl, rfl⟩ (fun _ => ⟨rfl, rfl⟩) rfl ?_
  refine Rk_n 2 rfl trivial ?_
  refine Rk_put rfl rfl rfl rfl ⟨rfl, rfl, rfl⟩ (fun _ => ⟨rfl, rfl⟩) rfl ?_
  exact Rk_ret rfl rfl
def gs36 : List zc := [.inr (11, [.ref 1, .ref 3, .ref 11, .ref 14, .ref 23, .ref 25, .ref 34, .ref 35, .ref 87, .ref 97]), .inr (10, [.ref 2, .int 0]), garr .int 240, .inr (5, [.int 0, .int 0, .int 0, .int 0, .int 0, .ref 4, .ref 5, .ref 6, .ref 7, .ref 8, .ref 9, .ref 10]), garr .int 17, garr .int 17, garr .int 85, garr .int 6, garr .int 26, garr .int 8, garr .int 26, .inr (9, [.int 0, .ref 12, .ref 13]), garr .int 4, garr .int 96, .inr (4, [.ref 3, .int 0, .int 0, .int 0, .ref 15, .ref 16, .ref 17, .ref 18, .ref 19, .ref 20, .int 0, .ref 21, .ref 22]), garr .int 6, garr .int 6, garr .int 6, garr .int 102, garr .int 6, garr .int 378, garr .long 9, garr .long 9, .inr (6, [.int 0, .int 0, .int 0, .int 0, .ref 24]), garr .int 40, .inr (2, [.ref 3, .ref 26, .ref 27, .int 0, .int 0, .ref 28, .ref 31]), garr .int 200, garr .int 200, .inr (7, [.int 0, .ref 29, .ref 30]), garr .int 81, garr .int 81, .inr (7, [.int 0, .ref 32, .ref 33]), garr .int 81, garr .int 81, .inl (4, 3, .inr (.inr (.inr (.inr (va_up (va_up (va_up (fun _ => none) 0 (some 36)) 1 (some 53)) 2 (some 70)))))), .inl (5, 3, .inr (.inr (.inr (.inr (va_up (va_up (va_up (fun _ => none) 0 (some 47)) 1 (some 64)) 2 (some 81)))))), .inr (1, [.int 0, .ref 3, .ref 14, .int 1, .int 0, .int 0, .ref 37, .ref 38, .ref 39, .ref 40, .int 0, .ref 41, .ref 42, .ref 43, .ref 44, .ref 45, .ref 46]), .inl (3, 200, .inr (.inr (.inr (.inr (fun _ => none))))), garr .int 200, garr .int 1200, garr .int 2800, garr .int 200, garr .int 200, garr .int 200, garr .int 200, garr .int 200, garr .int 200, .inr (0, [.ref 3, .ref 14, .ref 36, .int 1, .ref 48, .ref 49, .ref 50, .int 0, .int 0, .int 0, .ref 51, .ref 52]), garr .int 1800, garr .int 200, garr .int 200, garr .int 9, garr .int 16, .inr (1, [.int 1, .ref 3, .ref 14, .int 1, .int 0, .int 0, .ref 54, .ref 55, .ref 56, .ref 57, .int 0, .ref 58, .ref 59, .ref 60, .ref 61, .ref 62, .ref 63]), .inl (3, 200, .inr (.inr (.inr (.inr (fun _ => none))))), garr .int 200, garr .int 1200, garr .int 2800, garr .int 200, garr .int 200, garr .int 200, garr .int 200, garr .int 200, garr .int 200, .inr (0, [.ref 3, .ref 14, .ref 53, .int 1, .ref 65, .ref 66, .ref 67, .int 0, .int 0, .int 0, .ref 68, .ref 69]), garr .int 1800, garr .int 200, garr .int 200, garr .int 9, garr .int 16, .inr (1, [.int 2, .ref 3, .ref 14, .int 1, .int 0, .int 0, .ref 71, .ref 72, .ref 73, .ref 74, .int 0, .ref 75, .ref 76, .ref 77, .ref 78, .ref 79, .ref 80]), .inl (3, 200, .inr (.inr (.inr (.inr (fun _ => none))))), garr .int 200, garr .int 1200, garr .int 2800, garr .int 200, garr .int 200, garr .int 200, garr .int 200, garr .int 200, garr .int 200, .inr (0, [.ref 3, .ref 14, .ref 70, .int 1, .ref 82, .ref 83, .ref 84, .int 0, .int 0, .int 0, .ref 85, .ref 86]), garr .int 1800, garr .int 200, garr .int 200, garr .int 9, garr .int 16, .inr (8, [.ref 3, .null, .int 0, .int 0, .ref 88, .int 0, .ref 89, .ref 90, .ref 91, .int 0, .ref 92, .int 0, .int 0, .int 0, .int 0, .ref 93, .ref 94, .ref 95, .ref 96]), garr .int 24, garr .int 100, garr .int 100, garr .int 100, garr .int 100, garr .int 300, garr .int 300, garr .int 300, garr .int 300, .inr (3, [.ref 3, .ref 14, .long 0, .int 0, .ref 98]), garr .int 65]
set_option maxRecDepth 100000 in
set_option maxHeartbeats 4000000 in
theorem cX11_init_1 : Ek mX11_init [.ref 0] gs3 gs36 := by
  refine Ek_of okIX11_init.1 okIX11_init.2.1 rfl ?_
  refine Rk_n 1 rfl trivial ?_
  refine Rk_obj rfl ko11_3 rfl ?_
  refine Rk_n 1 rfl trivial ?_
  refine Rk_new 10 rfl rfl kn11_9 rfl ?_
  refine Rk_n 1 rfl trivial ?_
  refine Rk_init okIX10_init cX10_init_1 rfl (Or.inr ⟨_, List.mem_of_getElem? (i := 0) rfl⟩) rfl rfl rfl rfl ?_
  refine Rk_put rfl rfl rfl rfl ⟨rfl, rfl, rfl⟩ (fun _ => ⟨rfl, rfl⟩) rfl ?_
  refine Rk_n 1 rfl trivial ?_
  refine Rk_new 5 rfl rfl kn11_16 rfl ?_
  refine Rk_n 1 rfl trivial ?_
  refine Rk_init okIX5_init cX5_init_1 rfl (Or.inr ⟨_, List.mem_of_getElem? (i := 1) rfl⟩) rfl rfl rfl rfl ?_
  refine Rk_put rfl rfl rfl rfl ⟨rfl, rfl, rfl⟩ (fun _ => ⟨rfl, rfl⟩) rfl ?_
  refine Rk_n 1 rfl trivial ?_
  refine Rk_new 9 rfl rfl kn11_23 rfl ?_
  refine Rk_n 1 rfl trivial ?_
  refine Rk_init okIX9_init cX9_init_1 rfl (Or.inr ⟨_, List.mem_of_getElem? (i := 2) rfl⟩) rfl rfl rfl rfl ?_
  refine Rk_put rfl rfl rfl rfl ⟨rfl, rfl, rfl⟩ (fun _ => ⟨rfl, rfl⟩) rfl ?_
  refine Rk_n 1 rfl trivial ?_
  refine Rk_new 4 rfl rfl kn11_30 rfl ?_
  refine Rk_n 3 rfl trivial ?_
  refine Rk_init okIX4_init cX4_init_1 rfl (Or.inl kI11_32) rfl rfl rfl rfl ?_
  refine Rk_put rfl rfl rfl rfl ⟨rfl, rfl, rfl⟩ (fun _ => ⟨rfl, rfl⟩) rfl ?_
  refine Rk_n 1 rfl trivial ?_
  refine Rk_new 6 rfl rfl kn11_39 rfl ?_
  refine Rk_n 1 rfl trivial ?_
  refine Rk_init okIX6_init cX6_init_1 rfl (Or.inr ⟨_, List.mem_of_getElem? (i := 3) rfl⟩) rfl rfl rfl rfl ?_
  refine Rk_put rfl rfl rfl rfl ⟨rfl, rfl, rfl⟩ (fun _ => ⟨rfl, rfl⟩) rfl ?_
  refine Rk_n 1 rfl trivial ?_
  refine Rk_new 2 rfl rfl kn11_46 rfl ?_
  refine Rk_n 3 rfl trivial ?_
  refine Rk_init okIX2_init cX2_init_1 rfl (Or.inl kI11_48) rfl rfl rfl rfl ?_
  refine Rk_put rfl rfl rfl rfl ⟨rfl, rfl, rfl⟩ (fun _ => ⟨rfl, rfl⟩) rfl ?_
  refine Rk_n 2 rfl trivial ?_
  refine Rk_anew 4 rfl (fun _ => rfl) kc11_53 (fun _ h => h.2.2.1) (by decide) rfl rfl rfl ?_
  refine Rk_put rfl rfl rfl rfl ⟨rfl, rfl, rfl⟩ (fun _ => ⟨rfl, rfl⟩) rfl ?_
  refine Rk_n 2 rfl trivial ?_
  refine Rk_anew 5 rfl (fun _ => rfl) kc11_59 (fun _ h => h.2.2.2) (by decide) rfl rfl rfl ?_
  refine Rk_put rfl rfl rfl rfl ⟨rfl, rfl, rfl⟩ (fun _ => ⟨rfl, rfl⟩) rfl ?_
  refine Rk_n 4 rfl trivial ?_
  refine Rk_bn rfl (by simp only [zbx]; decide) rfl ?_
  refine Rk_n 3 rfl trivial ?_
  refine Rk_new 1 rfl rfl kn11_53 rfl ?_
  refine Rk_n 6 rfl trivial ?_
  refine Rk_init okIX1_init cX1_init_1 rfl (Or.inl kI11_65) rfl rfl rfl rfl ?_
  refine Rk_aast rfl rfl rfl rfl (fun _ => rfl) (by unfold vp_in; decide) ?_
  refine Rk_n 3 rfl trivial ?_
  refine Rk_new 0 rfl rfl kn11_59 rfl ?_
  refine Rk_n 9 rfl ⟨by unfold vp_in; decide, trivial⟩ ?_
  refine Rk_init okIX0_init cX0_init_1 rfl (Or.inl kI11_68) rfl rfl rfl rfl ?_
  refine Rk_aast rfl rfl rfl rfl (fun _ => rfl) (by unfold vp_in; decide) ?_
  refine Rk_n 4 rfl trivial ?_
  refine Rk_bn rfl (by simp only [zbx]; decide) rfl ?_
  refine Rk_n 3 rfl trivial ?_
  refine Rk_new 1 rfl rfl kn11_53 rfl ?_
  refine Rk_n 6 rfl trivial ?_
  refine Rk_init okIX1_init cX1_init_2 rfl (Or.inl kI11_65) rfl rfl rfl rfl ?_
  refine Rk_aast rfl rfl rfl rfl (fun _ => rfl) (by unfold vp_in; decide) ?_
  refine Rk_n 3 rfl trivial ?_
  refine Rk_new 0 rfl rfl kn11_59 rfl ?_
  refine Rk_n 9 rfl ⟨by unfold vp_in; decide, trivial⟩ ?_
  refine Rk_init okIX0_init cX0_init_2 rfl (Or.inl kI11_68) rfl rfl rfl rfl ?_
  refine Rk_aast rfl rfl rfl rfl (fun _ => rfl) (by unfold vp_in; decide) ?_
  refine Rk_n 4 rfl trivial ?_
  refine Rk_bn rfl (by simp only [zbx]; decide) rfl ?_
  refine Rk_n 3 rfl trivial ?_
  refine Rk_new 1 rfl rfl kn11_53 rfl ?_
  refine Rk_n 6 rfl trivial ?_
  refine Rk_init okIX1_init cX1_init_3 rfl (Or.inl kI11_65) rfl rfl rfl rfl ?_
  refine Rk_aast rfl rfl rfl rfl (fun _ => rfl) (by unfold vp_in; decide) ?_
  refine Rk_n 3 rfl trivial ?_
  refine Rk_new 0 rfl rfl kn11_59 rfl ?_
  refine Rk_n 9 rfl ⟨by unfold vp_in; decide, trivial⟩ ?_
  refine Rk_init okIX0_init cX0_init_3 rfl (Or.inl kI11_68) rfl rfl rfl rfl ?_
  refine Rk_aast rfl rfl rfl rfl (fun _ => rfl) (by unfold vp_in; decide) ?_
  refine Rk_n 4 rfl trivial ?_
  refine Rk_b rfl (by simp only [zbx]; decide) rfl ?_
  refine Rk_n 1 rfl trivial ?_
  refine Rk_new 8 rfl rfl kn11_71 rfl ?_
  refine Rk_n 3 rfl trivial ?_
  refine Rk_init okIX8_init cX8_init_1 rfl (Or.inl kI11_73) rfl rfl rfl rfl ?_
  refine Rk_put rfl rfl rfl rfl ⟨rfl, rfl, rfl⟩ (fun _ => ⟨rfl, rfl⟩) rfl ?_
  refine Rk_n 1 rfl trivial ?_
  refine Rk_new 3 rfl rfl kn11_78 rfl ?_
  refine Rk_n 5 rfl trivial ?_
  refine Rk_init okIX3_init cX3_init_1 rfl (Or.inl kI11_80) rfl rfl rfl rfl ?_
  refine Rk_put rfl rfl rfl rfl ⟨rfl, rfl, rfl⟩ (fun _ => ⟨rfl, rfl⟩) rfl ?_
  exact Rk_ret rfl rfl
