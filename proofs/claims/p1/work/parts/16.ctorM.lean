def gs1 : List zc := [.inr (12, [.int 0, .null, .int 0, .int 0, .int 0, .null, .null, .null, .int 0, .int 0, .int 0, .int 0, .null, .null, .int 0, .int 0, .int 0, .int 0, .null, .null, .null, .null, .null, .int 0, .int 0, .int 0, .null, .null, .null, .int 0, .null, .null, .null, .null, .null, .null, .null, .int 0, .null, .null, .null, .null, .null, .null, .null, .null, .null, .null, .int 0, .null, .null, .null, .null, .null, .null, .null, .null, .int 0, .null, .null, .null, .null, .int 0, .int 0, .int 0, .int 0, .null, .null, .null, .null, .null, .int 0, .null, .int 0, .long 0, .int 0, .int 0, .int 0])]
def gs2 : List zc := [.inr (12, [.int 0, .ref 1, .int 0, .int 0, .int 0, .ref 2, .ref 3, .ref 4, .int 0, .int 0, .int 0, .int 0, .ref 5, .ref 6, .int 0, .int 0, .int 0, .int 0, .ref 7, .ref 8, .ref 9, .ref 10, .ref 11, .int 0, .int 0, .int 0, .ref 12, .ref 13, .ref 14, .int 0, .ref 15, .ref 16, .ref 17, .ref 18, .ref 19, .ref 20, .ref 21, .int 0, .ref 22, .ref 23, .ref 24, .ref 25, .ref 26, .ref 27, .ref 28, .ref 29, .ref 30, .ref 31, .int 0, .ref 32, .ref 33, .ref 34, .ref 35, .ref 36, .ref 37, .ref 38, .ref 39, .int 0, .ref 40, .ref 41, .ref 42, .ref 43, .int 0, .int 0, .int 0, .int 0, .ref 44, .ref 45, .ref 46, .ref 47, .ref 48, .int 0, .ref 49, .int 0, .long 0, .int 0, .int 0, .int 0]), garr .int 240, garr .int 16, garr .int 16, garr .int 80, garr .int 120, garr .int 5, garr .int 17, garr .int 17, garr .int 85, garr .int 6, garr .int 8, garr .int 6, garr .int 6, garr .int 6, garr .boolean 3, garr .int 378, garr .int 9, garr .int 9, garr .int 6, garr .int 40, garr .int 40, garr .int 61200, garr .int 61200, garr .int 8400, garr .int 5400, garr .int 600, garr .int 600, garr .int 3, garr .int 102, garr .int 200, garr .boolean 200, garr .int 200, garr .int 200, garr .int 20400, garr .int 2800, garr .int 200, garr .int 200, garr .int 200, garr .int 25, garr .int 101, garr .int 101, garr .int 101, garr .int 101, garr .int 301, garr .int 301, garr .int 301, garr .int 301, garr .int 101, garr .int 65]
set_option maxRecDepth 100000 in
set_option maxHeartbeats 4000000 in
theorem cX12_init_1 : Ek mX12_init [.ref 0] gs1 gs2 := by
  refine Ek_of okIX12_init.1 okIX12_init.2.1 rfl ?_
  refine Rk_n 1 rfl trivial ?_
  refine Rk_obj rfl ko12_3 rfl ?_
  refine Rk_n 2 rfl trivial ?_
  refine Rk_newa rfl (Or.inl rfl) ka_int (by decide) rfl rfl rfl ?_
  refine Rk_put rfl rfl rfl rfl ⟨rfl, rfl, rfl⟩ (fun _ => ⟨rfl, rfl⟩) rfl ?_
  refine Rk_n 2 rfl trivial ?_
  refine Rk_newa rfl (Or.inl rfl) ka_int (by decide) rfl rfl rfl ?_
  refine Rk_put rfl rfl rfl rfl ⟨rfl, rfl, rfl⟩ (fun _ => ⟨rfl, rfl⟩) rfl ?_
  refine Rk_n 2 rfl trivial ?_
  refine Rk_newa rfl (Or.inl rfl) ka_int (by decide) rfl rfl rfl ?_
  refine Rk_put rfl rfl rfl rfl ⟨rfl, rfl, rfl⟩ (fun _ => ⟨rfl, rfl⟩) rfl ?_
  refine Rk_n 2 rfl trivial ?_
  refine Rk_newa rfl (Or.inl rfl) ka_int (by decide) rfl rfl rfl ?_
  refine Rk_put rfl rfl rfl rfl ⟨rfl, rfl, rfl⟩ (fun _ => ⟨rfl, rfl⟩) rfl ?_
  refine Rk_n 2 rfl trivial ?_
  refine Rk_newa rfl (Or.inl rfl) ka_int (by decide) rfl rfl rfl ?_
  refine Rk_put rfl rfl rfl rfl ⟨rfl, rfl, rfl⟩ (fun _ => ⟨rfl, rfl⟩) rfl ?_
  refine Rk_n 2 rfl trivial ?_
  refine Rk_newa rfl (Or.inl rfl) ka_int (by decide) rfl rfl rfl ?_
  refine Rk_put rfl rfl rfl rfl ⟨rfl, rfl, rfl⟩ (fun _ => ⟨rfl, rfl⟩) rfl ?_
  refine Rk_n 2 rfl trivial ?_
  refine Rk_newa rfl (Or.inl rfl) ka_int (by decide) rfl rfl rfl ?_
  refine Rk_put rfl rfl rfl rfl ⟨rfl, rfl, rfl⟩ (fun _ => ⟨rfl, rfl⟩) rfl ?_
  refine Rk_n 2 rfl trivial ?_
  refine Rk_newa rfl (Or.inl rfl) ka_int (by decide) rfl rfl rfl ?_
  refine Rk_put rfl rfl rfl rfl ⟨rfl, rfl, rfl⟩ (fun _ => ⟨rfl, rfl⟩) rfl ?_
  refine Rk_n 2 rfl trivial ?_
  refine Rk_newa rfl (Or.inl rfl) ka_int (by decide) rfl rfl rfl ?_
  refine Rk_put rfl rfl rfl rfl ⟨rfl, rfl, rfl⟩ (fun _ => ⟨rfl, rfl⟩) rfl ?_
  refine Rk_n 2 rfl trivial ?_
  refine Rk_newa rfl (Or.inl rfl) ka_int (by decide) rfl rfl rfl ?_
  refine Rk_put rfl rfl rfl rfl ⟨rfl, rfl, rfl⟩ (fun _ => ⟨rfl, rfl⟩) rfl ?_
  refine Rk_n 2 rfl trivial ?_
  refine Rk_newa rfl (Or.inl rfl) ka_int (by decide) rfl rfl rfl ?_
  refine Rk_put rfl rfl rfl rfl ⟨rfl, rfl, rfl⟩ (fun _ => ⟨rfl, rfl⟩) rfl ?_
  refine Rk_n 2 rfl trivial ?_
  refine Rk_newa rfl (Or.inl rfl) ka_int (by decide) rfl rfl rfl ?_
  refine Rk_put rfl rfl rfl rfl ⟨rfl, rfl, rfl⟩ (fun _ => ⟨rfl, rfl⟩) rfl ?_
  refine Rk_n 2 rfl trivial ?_
  refine Rk_newa rfl (Or.inl rfl) ka_int (by decide) rfl rfl rfl ?_
  refine Rk_put rfl rfl rfl rfl ⟨rfl, rfl, rfl⟩ (fun _ => ⟨rfl, rfl⟩) rfl ?_
  refine Rk_n 2 rfl trivial ?_
  refine Rk_newa rfl (Or.inl rfl) ka_int (by decide) rfl rfl rfl ?_
  refine Rk_put rfl rfl rfl rfl ⟨rfl, rfl, rfl⟩ (fun _ => ⟨rfl, rfl⟩) rfl ?_
  refine Rk_n 2 rfl trivial ?_
  refine Rk_newa rfl (Or.inr (Or.inl rfl)) ka_boolean (by decide) rfl rfl rfl ?_
  refine Rk_put rfl rfl rfl rfl ⟨rfl, rfl, rfl⟩ (fun _ => ⟨rfl, rfl⟩) rfl ?_
  refine Rk_n 2 rfl trivial ?_
  refine Rk_newa rfl (Or.inl rfl) ka_int (by decide) rfl rfl rfl ?_
  refine Rk_put rfl rfl rfl rfl ⟨rfl, rfl, rfl⟩ (fun _ => ⟨rfl, rfl⟩) rfl ?_
  refine Rk_n 2 rfl trivial ?_
  refine Rk_newa rfl (Or.inl rfl) ka_int (by decide) rfl rfl rfl ?_
  refine Rk_put rfl rfl rfl rfl ⟨rfl, rfl, rfl⟩ (fun _ => ⟨rfl, rfl⟩) rfl ?_
  refine Rk_n 2 rfl trivial ?_
  refine Rk_newa rfl (Or.inl rfl) ka_int (by decide) rfl rfl rfl ?_
  refine Rk_put rfl rfl rfl rfl ⟨rfl, rfl, rfl⟩ (fun _ => ⟨rfl, rfl⟩) rfl ?_
  refine Rk_n 2 rfl trivial ?_
  refine Rk_newa rfl (Or.inl rfl) ka_int (by decide) rfl rfl rfl ?_
  refine Rk_put rfl rfl rfl rfl ⟨rfl, rfl, rfl⟩ (fun _ => ⟨rfl, rfl⟩) rfl ?_
  refine Rk_n 2 rfl trivial ?_
  refine Rk_newa rfl (Or.inl rfl) ka_int (by decide) rfl rfl rfl ?_
  refine Rk_put rfl rfl rfl rfl ⟨rfl, rfl, rfl⟩ (fun _ => ⟨rfl, rfl⟩) rfl ?_
  refine Rk_n 2 rfl trivial ?_
  refine Rk_newa rfl (Or.inl rfl) ka_int (by decide) rfl rfl rfl ?_
  refine Rk_put rfl rfl rfl rfl ⟨rfl, rfl, rfl⟩ (fun _ => ⟨rfl, rfl⟩) rfl ?_
  refine Rk_n 2 rfl trivial ?_
  refine Rk_newa rfl (Or.inl rfl) ka_int (by decide) rfl rfl rfl ?_
  refine Rk_put rfl rfl rfl rfl ⟨rfl, rfl, rfl⟩ (fun _ => ⟨rfl, rfl⟩) rfl ?_
  refine Rk_n 2 rfl trivial ?_
  refine Rk_newa rfl (Or.inl rfl) ka_int (by decide) rfl rfl rfl ?_
  refine Rk_put rfl rfl rfl rfl ⟨rfl, rfl, rfl⟩ (fun _ => ⟨rfl, rfl⟩) rfl ?_
  refine Rk_n 2 rfl trivial ?_
  refine Rk_newa rfl (Or.inl rfl) ka_int (by decide) rfl rfl rfl ?_
  refine Rk_put rfl rfl rfl rfl ⟨rfl, rfl, rfl⟩ (fun _ => ⟨rfl, rfl⟩) rfl ?_
  refine Rk_n 2 rfl trivial ?_
  refine Rk_newa rfl (Or.inl rfl) ka_int (by decide) rfl rfl rfl ?_
  refine Rk_put rfl rfl rfl rfl ⟨rfl, rfl, rfl⟩ (fun _ => ⟨rfl, rfl⟩) rfl ?_
  refine Rk_n 2 rfl trivial ?_
  refine Rk_newa rfl (Or.inl rfl) ka_int (by decide) rfl rfl rfl ?_
  refine Rk_put rfl rfl rfl rfl ⟨rfl, rfl, rfl⟩ (fun _ => ⟨rfl, rfl⟩) rfl ?_
  refine Rk_n 2 rfl trivial ?_
  refine Rk_newa rfl (Or.inl rfl) ka_int (by decide) rfl rfl rfl ?_
  refine Rk_put rfl rfl rfl rfl ⟨rfl, rfl, rfl⟩ (fun _ => ⟨rfl, rfl⟩) rfl ?_
  refine Rk_n 2 rfl trivial ?_
  refine Rk_newa rfl (Or.inl rfl) ka_int (by decide) rfl rfl rfl ?_
  refine Rk_put rfl rfl rfl rfl ⟨rfl, rfl, rfl⟩ (fun _ => ⟨rfl, rfl⟩) rfl ?_
  refine Rk_n 2 rfl trivial ?_
  refine Rk_newa rfl (Or.inl rfl) ka_int (by decide) rfl rfl rfl ?_
  refine Rk_put rfl rfl rfl rfl ⟨rfl, rfl, rfl⟩ (fun _ => ⟨rfl, rfl⟩) rfl ?_
  refine Rk_n 2 rfl trivial ?_
  refine Rk_newa rfl (Or.inl rfl) ka_int (by decide) rfl rfl rfl ?_
  refine Rk_put rfl rfl rfl rfl ⟨rfl, rfl, rfl⟩ (fun _ => ⟨rfl, rfl⟩) rfl ?_
  refine Rk_n 2 rfl trivial ?_
  refine Rk_newa rfl (Or.inr (Or.inl rfl)) ka_boolean (by decide) rfl rfl rfl ?_
  refine Rk_put rfl rfl rfl rfl ⟨rfl, rfl, rfl⟩ (fun _ => ⟨rfl, rfl⟩) rfl ?_
  refine Rk_n 2 rfl trivial ?_
  refine Rk_newa rfl (Or.inl rfl) ka_int (by decide) rfl rfl rfl ?_
  refine Rk_put rfl rfl rfl rfl ⟨rfl, rfl, rfl⟩ (fun _ => ⟨rfl, rfl⟩) rfl ?_
  refine Rk_n 2 rfl trivial ?_
  refine Rk_newa rfl (Or.inl rfl) ka_int (by decide) rfl rfl rfl ?_
  refine Rk_put rfl rfl rfl rfl ⟨rfl, rfl, rfl⟩ (fun _ => ⟨rfl, rfl⟩) rfl ?_
  refine Rk_n 2 rfl trivial ?_
  refine Rk_newa rfl (Or.inl rfl) ka_int (by decide) rfl rfl rfl ?_
  refine Rk_put rfl rfl rfl rfl ⟨rfl, rfl, rfl⟩ (fun _ => ⟨rfl, rfl⟩) rfl ?_
  refine Rk_n 2 rfl trivial ?_
  refine Rk_newa rfl (Or.inl rfl) ka_int (by decide) rfl rfl rfl ?_
  refine Rk_put rfl rfl rfl rfl ⟨rfl, rfl, rfl⟩ (fun _ => ⟨rfl, rfl⟩) rfl ?_
  refine Rk_n 2 rfl trivial ?_
  refine Rk_newa rfl (Or.inl rfl) ka_int (by decide) rfl rfl rfl ?_
  refine Rk_put rfl rfl rfl rfl ⟨rfl, rfl, rfl⟩ (fun _ => ⟨rfl, rfl⟩) rfl ?_
  refine Rk_n 2 rfl trivial ?_
  refine Rk_newa rfl (Or.inl rfl) ka_int (by decide) rfl rfl rfl ?_
  refine Rk_put rfl rfl rfl rfl ⟨rfl, rfl, rfl⟩ (fun _ => ⟨rfl, rfl⟩) rfl ?_
  refine Rk_n 2 rfl trivial ?_
  refine Rk_newa rfl (Or.inl rfl) ka_int (by decide) rfl rfl rfl ?_
  refine Rk_put rfl rfl rfl rfl ⟨rfl, rfl, rfl⟩ (fun _ => ⟨rfl, rfl⟩) rfl ?_
  refine Rk_n 2 rfl trivial ?_
  refine Rk_newa rfl (Or.inl rfl) ka_int (by decide) rfl rfl rfl ?_
  refine Rk_put rfl rfl rfl rfl ⟨rfl, rfl, rfl⟩ (fun _ => ⟨rfl, rfl⟩) rfl ?_
  refine Rk_n 2 rfl trivial ?_
  refine Rk_newa rfl (Or.inl rfl) ka_int (by decide) rfl rfl rfl ?_
  refine Rk_put rfl rfl rfl rfl ⟨rfl, rfl, rfl⟩ (fun _ => ⟨rfl, rfl⟩) rfl ?_
  refine Rk_n 2 rfl trivial ?_
  refine Rk_newa rfl (Or.inl rfl) ka_int (by decide) rfl rfl rfl ?_
  refine Rk_put rfl rfl rfl rfl ⟨rfl, rfl, rfl⟩ (fun _ => ⟨rfl, rfl⟩) rfl ?_
  refine Rk_n 2 rfl trivial ?_
  refine Rk_newa rfl (Or.inl rfl) ka_int (by decide) rfl rfl rfl ?_
  refine Rk_put rfl rfl rfl rfl ⟨rfl, rfl, rfl⟩ (fun _ => ⟨rfl, rfl⟩) rfl ?_
  refine Rk_n 2 rfl trivial ?_
  refine Rk_newa rfl (Or.inl rfl) ka_int (by decide) rfl rfl rfl ?_
  refine Rk_put rfl rfl rfl rfl ⟨rfl, rfl, rfl⟩ (fun _ => ⟨rfl, rfl⟩) rfl ?_
  refine Rk_n 2 rfl trivial ?_
  refine Rk_newa rfl (Or.inl rfl) ka_int (by decide) rfl rfl rfl ?_
  refine Rk_put rfl rfl rfl rfl ⟨rfl, rfl, rfl⟩ (fun _ => ⟨rfl, rfl⟩) rfl ?_
  refine Rk_n 2 rfl trivial ?_
  refine Rk_newa rfl (Or.inl rfl) ka_int (by decide) rfl rfl rfl ?_
  refine Rk_put rfl rfl rfl rfl ⟨rfl, rfl, rfl⟩ (fun _ => ⟨rfl, rfl⟩) rfl ?_
  refine Rk_n 2 rfl trivial ?_
  refine Rk_newa rfl (Or.inl rfl) ka_int (by decide) rfl rfl rfl ?_
  refine Rk_put rfl rfl rfl rfl ⟨rfl, rfl, rfl⟩ (fun _ => ⟨rfl, rfl⟩) rfl ?_
  refine Rk_n 2 rfl trivial ?_
  refine Rk_newa rfl (Or.inl rfl) ka_int (by decide) rfl rfl rfl ?_
  refine Rk_put rfl rfl rfl rfl ⟨rfl, rfl, rfl⟩ (fun _ => ⟨rfl, rfl⟩) rfl ?_
  refine Rk_n 2 rfl trivial ?_
  refine Rk_newa rfl (Or.inl rfl) ka_int (by decide) rfl rfl rfl ?_
  refine Rk_put rfl rfl rfl rfl ⟨rfl, rfl, rfl⟩ (fun _ => ⟨rfl, rfl⟩) rfl ?_
  refine Rk_n 2 rfl trivial ?_
  refine Rk_newa rfl (Or.inl rfl) ka_int (by decide) rfl rfl rfl ?_
  refine Rk_put rfl rfl rfl rfl ⟨rfl, rfl, rfl⟩ (fun _ => ⟨rfl, rfl⟩) rfl ?_
  exact Rk_ret rfl rfl
