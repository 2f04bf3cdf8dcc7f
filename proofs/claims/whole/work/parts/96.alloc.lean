/-! The class makes a kernel: kernelIn on an empty slot. -/
section GSym
variable {M : MD} {pc nx tg : Nat} {v0 : Int32} {l : List (Option Value)} {st : List Value} {L LE : List zc} {r : Option Value}
theorem Rk_gf {idx a ci j pl : Nat} {fs : List Value} {v : Value} (hfe : zfe M pc = some (.getfield idx, 3, nx, tg, v0)) (hfr : zFR M.1 idx = some (ci, j, pl)) (hc : L[a]? = some (.inr (ci, fs))) (hv : fs[j]? = some v) (k : Rk M (nx, l, v :: st, L) r LE) : Rk M (pc, l, .ref a :: st, L) r LE := by
  refine Rk_n 1 (P := True) (pc' := nx) (l' := l) (st' := v :: st) ?_ trivial k
  have ha : a < L.length := (List.getElem?_eq_some_iff.mp hc).1
  have hb : Nat.blt a (ZG.2.1 L) = true := Nat.ble_eq_true_of_le ha
  have hc' : ZG.1 L a = .inr (ci, fs) := gcel_lt hc
  simp only [zsn, zs1, hfe, zex, hfr, hc', Nat.beq_refl, hb, hv, Bool.and_self, cond_true]
theorem Rk_aal {a t nn : Nat} {x : Int32} {g : Nat → Option Nat} (hfe : zfe M pc = some (.aaload, 1, nx, tg, v0)) (hc : L[a]? = some (.inl (t, nn, .inr (.inr (.inr (.inr g)))))) (ht : (Nat.blt 2 t && Nat.blt t 6) = true) (hin : vp_in x nn) (k : Rk M (nx, l, va_rf (g x.toNatClampNeg) :: st, L) r LE) : Rk M (pc, l, .int x :: .ref a :: st, L) r LE := by
  refine Rk_n 1 (P := vp_in x nn ∧ True) (pc' := nx) (l' := l) (st' := va_rf (g x.toNatClampNeg) :: st) ?_ ⟨hin, trivial⟩ k
  have ha : a < L.length := (List.getElem?_eq_some_iff.mp hc).1
  have hb : Nat.blt a (ZG.2.1 L) = true := Nat.ble_eq_true_of_le ha
  have hc' : ZG.1 L a = .inl (t, nn, .inr (.inr (.inr (.inr g)))) := gcel_lt hc
  simp only [zsn, zs1, hfe, zex, hc', hb, Bool.true_and, ht, cond_true]
theorem Rk_aret {a : Nat} {C : String} (hfe : zfe M pc = some (.areturn, 1, nx, tg, v0)) (hr : M.2.2.2.2.1 = some (.object C)) : Rk M (pc, l, [.ref a], L) (some (.ref a)) L := fun g => ⟨Rn_aret hfe hr, g⟩
end GSym
theorem kn1_15 : Cond.classLink RX1 15 "MinimalTables$Kernel" ∈ zT ∧ Cond.instantiable "MinimalTables$Kernel" 3 ∈ zT ∧ Cond.initialized "MinimalTables$Kernel" ∈ zT := ⟨kc1_15, kn2_18.2.1, kn2_18.2.2⟩
/-- the three cells of a new kernel -/
def gK0 (c : Nat) : List zc := [.inr (7, [.int 0, .ref (c + 1), .ref (c + 2)]), garr .int 81, garr .int 81]
theorem zblt {a b : Nat} (h : a < b) : Nat.blt a b = true := Nat.ble_eq_true_of_le h
theorem k7_init (L : List zc) : Ek mX7_init [.ref L.length] (L ++ [.inr (7, gdef 7 3)]) (L ++ gK0 L.length) := by
  refine Ek_of okIX7_init.1 okIX7_init.2.1 rfl ?_
  refine Rk_n 1 rfl trivial ?_
  refine Rk_obj rfl ko7_3 rfl ?_
  refine Rk_n 2 rfl trivial ?_
  have e0 : (L ++ [(.inr (7, gdef 7 3) : zc)]).length = L.length + 1 := by simp
  refine Rk_newa (N := 81) rfl (Or.inl rfl) ka_int (by decide) rfl rfl ?_ ?_
  · rw [e0]
    show (((Nat.blt L.length (L.length + 1)) && true) && ((Nat.blt L.length (L.length + 1)) && true)) = true
    rw [zblt (Nat.lt_succ_self _)]; rfl
  rw [e0]
  have e1 : ((L ++ [(.inr (7, gdef 7 3) : zc)]) ++ [garr .int 81]) = L ++ [.inr (7, gdef 7 3), garr .int 81] := by simp
  rw [e1]
  refine Rk_put (ci := 7) (fs := gdef 7 3) rfl rfl (by rw [List.getElem?_append_right (Nat.le_refl _), Nat.sub_self]; rfl) rfl ⟨rfl, rfl, rfl⟩ (fun _ => ⟨rfl, rfl⟩) (zblt (by simp)) ?_
  have e2 : (L ++ [(.inr (7, gdef 7 3) : zc), garr .int 81]).set L.length (.inr (7, (gdef 7 3).set 1 (.ref (L.length + 1)))) = L ++ [.inr (7, [.int 0, .ref (L.length + 1), .null]), garr .int 81] := by
    rw [List.set_append_right _ _ (Nat.le_refl _), Nat.sub_self]; rfl
  rw [e2]
  refine Rk_n 2 rfl trivial ?_
  have e3 : (L ++ [(.inr (7, [.int 0, .ref (L.length + 1), .null]) : zc), garr .int 81]).length = L.length + 2 := by simp
  refine Rk_newa (N := 81) rfl (Or.inl rfl) ka_int (by decide) rfl rfl ?_ ?_
  · rw [e3]
    show (((Nat.blt L.length (L.length + 2)) && true) && ((Nat.blt L.length (L.length + 2)) && true)) = true
    rw [zblt (by omega)]; rfl
  rw [e3]
  have e4 : ((L ++ [(.inr (7, [.int 0, .ref (L.length + 1), .null]) : zc), garr .int 81]) ++ [garr .int 81]) = L ++ [.inr (7, [.int 0, .ref (L.length + 1), .null]), garr .int 81, garr .int 81] := by simp
  rw [e4]
  refine Rk_put (ci := 7) (fs := [.int 0, .ref (L.length + 1), .null]) rfl rfl (by rw [List.getElem?_append_right (Nat.le_refl _), Nat.sub_self]; rfl) rfl ⟨rfl, rfl, rfl⟩ (fun _ => ⟨rfl, rfl⟩) (zblt (by simp)) ?_
  have e5 : (L ++ [(.inr (7, [.int 0, .ref (L.length + 1), .null]) : zc), garr .int 81, garr .int 81]).set L.length (.inr (7, [Value.int 0, .ref (L.length + 1), .null].set 2 (.ref (L.length + 2)))) = L ++ gK0 L.length := by
    rw [List.set_append_right _ _ (Nat.le_refl _), Nat.sub_self]; rfl
  rw [e5]
  exact Rk_ret rfl rfl
theorem g_kernelIn {L : List zc} {fs : List Value} {kr : Nat → Option Nat} {i : Nat} (h36 : L[36]? = some (.inr (1, fs))) (hf : fs[6]? = some (.ref 37)) (h37 : L[37]? = some (.inl (3, 200, .inr (.inr (.inr (.inr kr)))))) (hi : i < 200) (hk : kr i = none) (g : GS L) :
    Ev ZG mX1_kernelIn [.ref 36, .int (nI i)] L (some (.ref L.length)) ((L ++ gK0 L.length).set 37 (.inl (3, 200, .inr (.inr (.inr (.inr (va_up kr i (some L.length)))))))) := by
  have hin : vp_in (nI i) 200 := nI_in (by omega) (by omega)
  have hic : (nI i).toNatClampNeg = i := nI_clamp (by omega)
  have h37l : 37 < L.length := (List.getElem?_eq_some_iff.mp h37).1
  refine Ev_of vX1_kernelIn.1 vX1_kernelIn.2.1 rfl (((?_ : Rk mX1_kernelIn (0, [some (.ref 36), some (.int (nI i))], [], L) _ _) g).1)
  refine Rk_n 1 rfl trivial ?_
  refine Rk_gf rfl rfl h36 hf ?_
  refine Rk_n 1 rfl trivial ?_
  refine Rk_aal rfl h37 rfl hin ?_
  rw [hic, hk]
  refine Rk_n 2 rfl trivial ?_
  refine Rk_gf rfl rfl h36 hf ?_
  refine Rk_n 1 rfl trivial ?_
  refine Rk_new 7 rfl rfl kn1_15 ?_ ?_
  · show (((Nat.blt 36 L.length) && true) && (true && ((Nat.blt 37 L.length) && true))) = true
    rw [zblt (show 36 < L.length by omega), zblt h37l]; rfl
  refine Rk_n 1 rfl trivial ?_
  refine Rk_init okIX7_init (k7_init L) rfl (Or.inr ⟨_, List.mem_of_getElem? (i := 5) rfl⟩) rfl rfl rfl ?_ ?_
  · have e0 : (L ++ [(.inr (7, gdef 7 3) : zc)]).length = L.length + 1 := by simp
    rw [e0]
    show (((Nat.blt 36 (L.length + 1)) && true) && ((Nat.blt L.length (L.length + 1)) && (true && ((Nat.blt 37 (L.length + 1)) && true)))) = true
    rw [zblt (show 36 < L.length + 1 by omega), zblt (show 37 < L.length + 1 by omega), zblt (Nat.lt_succ_self _)]; rfl
  have a36 : (L ++ gK0 L.length)[36]? = some (.inr (1, fs)) := by rw [List.getElem?_append_left (by omega)]; exact h36
  have a37 : (L ++ gK0 L.length)[37]? = some (.inl (3, 200, .inr (.inr (.inr (.inr kr))))) := by rw [List.getElem?_append_left (by omega)]; exact h37
  have ac : (L ++ gK0 L.length)[L.length]? = some (.inr (7, [.int 0, .ref (L.length + 1), .ref (L.length + 2)])) := by rw [List.getElem?_append_right (Nat.le_refl _), Nat.sub_self]; rfl
  refine Rk_aast (ci := 7) rfl a37 ac rfl (fun _ => rfl) hin ?_
  rw [hic]
  obtain ⟨L2, hL2⟩ : ∃ L2, L2 = (L ++ gK0 L.length).set 37 (.inl (3, 200, .inr (.inr (.inr (.inr (va_up kr i (some L.length))))))) := ⟨_, rfl⟩
  rw [← hL2]
  have b36 : L2[36]? = some (.inr (1, fs)) := by rw [hL2, List.getElem?_set_ne (by omega)]; exact a36
  have b37 : L2[37]? = some (.inl (3, 200, .inr (.inr (.inr (.inr (va_up kr i (some L.length))))))) := by rw [hL2, List.getElem?_set_self (by rw [List.length_append]; omega)]
  refine Rk_n 1 rfl trivial ?_
  refine Rk_gf rfl rfl b36 hf ?_
  refine Rk_n 1 rfl trivial ?_
  refine Rk_aal rfl b37 rfl hin ?_
  rw [hic, show va_up kr i (some L.length) i = some L.length by simp [va_up]]
  exact Rk_aret rfl rfl
