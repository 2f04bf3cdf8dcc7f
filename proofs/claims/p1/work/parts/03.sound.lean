/-! The machine's steps are steps of the JVM. -/
def zcn (o : Nat) : String := match (vwCl)[o]? with
  | some q => q.1
  | none => ""
/-- what the tables say of a method's own rows -/
def ZMo (M : MD) : Prop := zMb M = true ∧ (M.1 < 13 → zcn M.1 = M.2.1.cls)
def zall {α : Type} (f : Nat → Nat → Option α) (P : Nat → Nat → α → Bool) : Bool := (List.range 13).all fun o => (List.range 700).all fun i => match f o i with
  | none => true
  | some x => P o i x
def zFRp (o i : Nat) (x : Nat × Nat × Nat) : Bool := match (vwCl)[x.1]? with
  | none => false
  | some q => Nat.blt x.2.1 q.2.2 && decide (lw_tbl[x.2.2]? = some (Cond.fieldLink (zcn o) i (q.2.1 x.2.1).1 (q.2.1 x.2.1).2.1 (q.2.1 x.2.1).2.2.1)) && decide (parseFieldDescriptor (q.2.1 x.2.1).2.2.1 = some (ztyF x.1 x.2.1))
def zCTp (o i : Nat) (x : Int32 × Nat) : Bool := decide (lw_tbl[x.2]? = some (Cond.constant (zcn o) i x.1))
def zCLp (o i : Nat) (x : Int64 × Nat) : Bool := decide (lw_tbl[x.2]? = some (Cond.constantLong (zcn o) i x.1))
set_option maxRecDepth 100000 in
theorem zFRb_ok : zall zFRt zFRp = true := by decide +kernel
set_option maxRecDepth 100000 in
theorem zCTb_ok : zall zCTt zCTp = true := by decide +kernel
set_option maxRecDepth 100000 in
theorem zCLb_ok : zall zCLt zCLp = true := by decide +kernel
theorem zrow {α : Type} {f : Nat → Nat → Option α} {P : Nat → Nat → α → Bool} (h : zall f P = true) {o i : Nat} {x : α} (hx : (bif Nat.blt o 13 && Nat.blt i 700 then f o i else none) = some x) : P o i x = true ∧ o < 13 := by
  cases hb : (Nat.blt o 13 && Nat.blt i 700) with
  | false => rw [hb] at hx; cases hx
  | true =>
    rw [hb] at hx
    rw [Bool.and_eq_true] at hb
    have h1 : o < 13 := Nat.le_of_ble_eq_true hb.1
    have h2 := List.all_eq_true.mp (List.all_eq_true.mp h o (List.mem_range.mpr h1)) i (List.mem_range.mpr (Nat.le_of_ble_eq_true hb.2))
    have h3 : f o i = some x := hx
    rw [h3] at h2
    exact ⟨h2, h1⟩
theorem zFR_ok {o i ci k p : Nat} (h : zFR o i = some (ci, k, p)) : o < 13 ∧ ∃ (C : String) (T : u_T) (N : Nat), (vwCl)[ci]? = some (C, T, N) ∧ k < N ∧ Cond.fieldLink (zcn o) i (T k).1 (T k).2.1 (T k).2.2.1 ∈ zT ∧ parseFieldDescriptor (T k).2.2.1 = some (ztyF ci k) := by
  unfold zFR at h
  obtain ⟨h1, h2⟩ := zrow zFRb_ok h
  refine ⟨h2, ?_⟩
  unfold zFRp at h1
  dsimp only at h1
  cases hc : (vwCl)[ci]? with
  | none => rw [hc] at h1; cases h1
  | some q =>
    obtain ⟨C, T, N⟩ := q
    rw [hc] at h1
    simp only [Bool.and_eq_true, decide_eq_true_eq] at h1
    exact ⟨C, T, N, rfl, Nat.le_of_ble_eq_true h1.1.1, zT_place p h1.1.2 rfl, h1.2⟩
theorem zCT_ok {o i : Nat} {q : Int32 × Nat} (h : zCT o i = some q) : o < 13 ∧ Cond.constant (zcn o) i q.1 ∈ zT := by
  unfold zCT at h
  obtain ⟨h1, h2⟩ := zrow zCTb_ok h
  unfold zCTp at h1
  exact ⟨h2, zT_place q.2 (of_decide_eq_true h1) rfl⟩
theorem zCL_ok {o i : Nat} {q : Int64 × Nat} (h : zCL o i = some q) : o < 13 ∧ Cond.constantLong (zcn o) i q.1 ∈ zT := by
  unfold zCL at h
  obtain ⟨h1, h2⟩ := zrow zCLb_ok h
  unfold zCLp at h1
  exact ⟨h2, zT_place q.2 (of_decide_eq_true h1) rfl⟩
/-- each class's words are in the tables -/
def zClb (ci : Nat) : Bool := match (vwCl)[ci]?, zPl[ci]? with
  | some q, some ps => decide (u_ws q.1 q.2.1 q.2.2 = ps.filterMap (fun i => lw_tbl[i]?)) && (u_ws q.1 q.2.1 q.2.2).all goodWord
  | _, _ => false
set_option maxRecDepth 100000 in
theorem zCl_ok : (List.range 13).all zClb = true := by decide +kernel
theorem zcl_in {ci : Nat} {C : String} {T : u_T} {N : Nat} (h : (vwCl)[ci]? = some (C, T, N)) : ∀ w ∈ u_ws C T N, w ∈ zT := by
  intro w hw
  have hlt : ci < 13 := (List.getElem?_eq_some_iff.mp h).1
  have h1 := List.all_eq_true.mp zCl_ok ci (List.mem_range.mpr hlt)
  unfold zClb at h1
  rw [h] at h1
  cases hp : zPl[ci]? with
  | none => rw [hp] at h1; cases h1
  | some ps =>
    rw [hp] at h1
    simp only [Bool.and_eq_true, decide_eq_true_eq] at h1
    refine List.mem_filter.mpr ⟨?_, List.all_eq_true.mp h1.2 w hw⟩
    rw [h1.1] at hw
    obtain ⟨i, -, hi⟩ := List.mem_filterMap.mp hw
    exact List.mem_of_getElem? hi
theorem zcl_nm {ci : Nat} {C : String} {T : u_T} {N : Nat} (h : (vwCl)[ci]? = some (C, T, N)) : ∀ a, a < N → ∀ b, b < N → a ≠ b → (T a).2.1 ≠ (T b).2.1 := by
  match ci, h with
  | 0, h => cases h; exact nmX0
  | 1, h => cases h; exact nmX1
  | 2, h => cases h; exact nmX2
  | 3, h => cases h; exact nmX3
  | 4, h => cases h; exact nmX4
  | 5, h => cases h; exact nmX5
  | 6, h => cases h; exact nmX6
  | 7, h => cases h; exact nmX7
  | 8, h => cases h; exact nmX8
  | 9, h => cases h; exact nmX9
  | 10, h => cases h; exact nmX10
  | 11, h => cases h; exact nmX11
  | 12, h => cases h; exact nmX12
  | _ + 13, h => cases h
theorem zcl_ty {ci : Nat} {C : String} {T : u_T} {N : Nat} (h : (vwCl)[ci]? = some (C, T, N)) : ∀ k, k < N → parseFieldDescriptor (T k).2.2.1 = some (ztyF ci k) := by
  match ci, h with
  | 0, h => cases h; exact tyX0_ok
  | 1, h => cases h; exact tyX1_ok
  | 2, h => cases h; exact tyX2_ok
  | 3, h => cases h; exact tyX3_ok
  | 4, h => cases h; exact tyX4_ok
  | 5, h => cases h; exact tyX5_ok
  | 6, h => cases h; exact tyX6_ok
  | 7, h => cases h; exact tyX7_ok
  | 8, h => cases h; exact tyX8_ok
  | 9, h => cases h; exact tyX9_ok
  | 10, h => cases h; exact tyX10_ok
  | 11, h => cases h; exact tyX11_ok
  | 12, h => cases h; exact tyX12_ok
  | _ + 13, h => cases h
/-- words that are kept otherwise: links between nest mates, arrays over own classes -/
def zNests : List (String × Nat × MethodName × String) := [(RX11, 11, yX10_init, "MinimalTables"), (RX11, 18, yX5_init, "MinimalTables"), (RX11, 25, yX9_init, "MinimalTables"), (RX11, 41, yX6_init, "MinimalTables"), (RX2, 20, yX7_init, "MinimalTables"), (RX1, 78, yX7_init, "MinimalTables")]
def zNf (U : State) : Prop := (∀ q ∈ zNests, va_Nw (.methodLinkNest q.1 q.2.1 q.2.2.1 q.2.2.2) U) ∧ va_AO "MinimalTables$Kernel" U ∧ va_AO "MinimalTables$Automaton" U ∧ va_AO "MinimalTables$Actions" U
theorem zNf_warm {s U : State} (hW : s.WarmedH U.vm) (h : zNf s) : zNf U := ⟨fun q hq => va_Nw.warmM hW (h.1 q hq), va_AO.moved hW.alike h.2.1, va_AO.moved hW.alike h.2.2.1, va_AO.moved hW.alike h.2.2.2⟩
theorem zNf_same {u U : State} (hv : u.vm = U.vm) (h : zNf u) : zNf U := ⟨fun q hq => va_Nw.same rfl hv (h.1 q hq), va_AO.moved (by rw [hv]; exact Vm.Alike.refl _) h.2.1, va_AO.moved (by rw [hv]; exact Vm.Alike.refl _) h.2.2.1, va_AO.moved (by rw [hv]; exact Vm.Alike.refl _) h.2.2.2⟩
