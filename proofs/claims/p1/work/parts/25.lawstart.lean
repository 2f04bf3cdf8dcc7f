/-- the states with which class and reference begin -/
def sX0 : SX := (fun b k => bif Nat.beq k 3 && (Nat.beq b 36 || Nat.beq b 53 || Nat.beq b 70 || Nat.beq b 47 || Nat.beq b 64 || Nat.beq b 81) then 1 else 0, fun _ _ => 0, fun _ _ => 0, fun b k => bif Nat.beq b 14 then (bif Nat.beq k 11 then .ref 21 else .ref 22) else .null, 0, fun _ _ => none)
def sM0 : SM := (fun _ => 0, fun _ _ => 0, 0)
theorem cX34 : (va_up (va_up (va_up (fun _ => none) 0 (some 36)) 1 (some 53)) 2 (some 70) : Nat → Option Nat) = (fun i => (bif Nat.beq i 0 then some 36 else (bif Nat.beq i 1 then some 53 else (bif Nat.beq i 2 then some 70 else none)))) := by
  funext i
  match i with
  | 0 => rfl
  | 1 => rfl
  | 2 => rfl
  | i + 3 => rfl
theorem cX35 : (va_up (va_up (va_up (fun _ => none) 0 (some 47)) 1 (some 64)) 2 (some 81) : Nat → Option Nat) = (fun i => (bif Nat.beq i 0 then some 47 else (bif Nat.beq i 1 then some 64 else (bif Nat.beq i 2 then some 81 else none)))) := by
  funext i
  match i with
  | 0 => rfl
  | 1 => rfl
  | 2 => rfl
  | i + 3 => rfl
set_option maxHeartbeats 4000000 in
theorem cX_eq : ∀ k, k < 99 → gcel gs36 k = xcel sX0 k := by
  intro k hk
  match k, hk with
  | 0, _ => rfl
  | 1, _ => rfl
  | 2, _ => rfl
  | 3, _ => rfl
  | 4, _ => rfl
  | 5, _ => rfl
  | 6, _ => rfl
  | 7, _ => rfl
  | 8, _ => rfl
  | 9, _ => rfl
  | 10, _ => rfl
  | 11, _ => rfl
  | 12, _ => rfl
  | 13, _ => rfl
  | 14, _ => rfl
  | 15, _ => rfl
  | 16, _ => rfl
  | 17, _ => rfl
  | 18, _ => rfl
  | 19, _ => rfl
  | 20, _ => rfl
  | 21, _ => rfl
  | 22, _ => rfl
  | 23, _ => rfl
  | 24, _ => rfl
  | 25, _ => rfl
  | 26, _ => rfl
  | 27, _ => rfl
  | 28, _ => rfl
  | 29, _ => rfl
  | 30, _ => rfl
  | 31, _ => rfl
  | 32, _ => rfl
  | 33, _ => rfl
  | 34, _ => show (Sum.inl (4, 3, .inr (.inr (.inr (.inr _)))) : zc) = _; rw [cX34]; rfl
  | 35, _ => show (Sum.inl (5, 3, .inr (.inr (.inr (.inr _)))) : zc) = _; rw [cX35]; rfl
  | 36, _ => rfl
  | 37, _ => rfl
  | 38, _ => rfl
  | 39, _ => rfl
  | 40, _ => rfl
  | 41, _ => rfl
  | 42, _ => rfl
  | 43, _ => rfl
  | 44, _ => rfl
  | 45, _ => rfl
  | 46, _ => rfl
  | 47, _ => rfl
  | 48, _ => rfl
  | 49, _ => rfl
  | 50, _ => rfl
  | 51, _ => rfl
  | 52, _ => rfl
  | 53, _ => rfl
  | 54, _ => rfl
  | 55, _ => rfl
  | 56, _ => rfl
  | 57, _ => rfl
  | 58, _ => rfl
  | 59, _ => rfl
  | 60, _ => rfl
  | 61, _ => rfl
  | 62, _ => rfl
  | 63, _ => rfl
  | 64, _ => rfl
  | 65, _ => rfl
  | 66, _ => rfl
  | 67, _ => rfl
  | 68, _ => rfl
  | 69, _ => rfl
  | 70, _ => rfl
  | 71, _ => rfl
  | 72, _ => rfl
  | 73, _ => rfl
  | 74, _ => rfl
  | 75, _ => rfl
  | 76, _ => rfl
  | 77, _ => rfl
  | 78, _ => rfl
  | 79, _ => rfl
  | 80, _ => rfl
  | 81, _ => rfl
  | 82, _ => rfl
  | 83, _ => rfl
  | 84, _ => rfl
  | 85, _ => rfl
  | 86, _ => rfl
  | 87, _ => rfl
  | 88, _ => rfl
  | 89, _ => rfl
  | 90, _ => rfl
  | 91, _ => rfl
  | 92, _ => rfl
  | 93, _ => rfl
  | 94, _ => rfl
  | 95, _ => rfl
  | 96, _ => rfl
  | 97, _ => rfl
  | 98, _ => rfl
  | k + 99, hk => exact absurd hk (by omega)
theorem cM_eq : ∀ k, k < 50 → gcel gs2 k = mcel sM0 k := by
  intro k hk
  match k, hk with
  | 0, _ => rfl
  | 1, _ => rfl
  | 2, _ => rfl
  | 3, _ => rfl
  | 4, _ => rfl
  | 5, _ => rfl
  | 6, _ => rfl
  | 7, _ => rfl
  | 8, _ => rfl
  | 9, _ => rfl
  | 10, _ => rfl
  | 11, _ => rfl
  | 12, _ => rfl
  | 13, _ => rfl
  | 14, _ => rfl
  | 15, _ => rfl
  | 16, _ => rfl
  | 17, _ => rfl
  | 18, _ => rfl
  | 19, _ => rfl
  | 20, _ => rfl
  | 21, _ => rfl
  | 22, _ => rfl
  | 23, _ => rfl
  | 24, _ => rfl
  | 25, _ => rfl
  | 26, _ => rfl
  | 27, _ => rfl
  | 28, _ => rfl
  | 29, _ => rfl
  | 30, _ => rfl
  | 31, _ => rfl
  | 32, _ => rfl
  | 33, _ => rfl
  | 34, _ => rfl
  | 35, _ => rfl
  | 36, _ => rfl
  | 37, _ => rfl
  | 38, _ => rfl
  | 39, _ => rfl
  | 40, _ => rfl
  | 41, _ => rfl
  | 42, _ => rfl
  | 43, _ => rfl
  | 44, _ => rfl
  | 45, _ => rfl
  | 46, _ => rfl
  | 47, _ => rfl
  | 48, _ => rfl
  | 49, _ => rfl
  | k + 50, hk => exact absurd hk (by omega)
theorem wX_eq (dA : Nat → ClassId) (ad : Nat → Nat) : zws ZG dA ad gs36 = zws ZX dA ad sX0 := by
  show (List.range 99).map _ = (List.range 99).map _
  apply List.map_congr_left
  intro k hk
  show (ad k, zcc dA ad (gcel gs36 k)) = (ad k, zcc dA ad (xcel sX0 k))
  rw [cX_eq k (List.mem_range.mp hk)]
theorem wM_eq (dA : Nat → ClassId) (ad : Nat → Nat) : zws ZG dA ad gs2 = zws ZR dA ad sM0 := by
  show (List.range 50).map _ = (List.range 50).map _
  apply List.map_congr_left
  intro k hk
  show (ad k, zcc dA ad (gcel gs2 k)) = (ad k, zcc dA ad (mcel sM0 k))
  rw [cM_eq k (List.mem_range.mp hk)]
theorem zins : ∀ (ci : Nat) (q : vw_C), (vwCl)[ci]? = some q → ∃ n, Cond.instantiable q.1 n ∈ zT := by
  intro ci q hq
  match ci, hq with
  | 0, hq => cases hq; exact ⟨12, zT_at 2098 (by decide +kernel) rfl⟩
  | 1, hq => cases hq; exact ⟨17, zT_at 2032 (by decide +kernel) rfl⟩
  | 2, hq => cases hq; exact ⟨7, zT_at 1215 (by decide +kernel) rfl⟩
  | 3, hq => cases hq; exact ⟨5, zT_at 2218 (by decide +kernel) rfl⟩
  | 4, hq => cases hq; exact ⟨13, zT_at 1137 (by decide +kernel) rfl⟩
  | 5, hq => cases hq; exact ⟨12, zT_at 1049 (by decide +kernel) rfl⟩
  | 6, hq => cases hq; exact ⟨5, zT_at 1191 (by decide +kernel) rfl⟩
  | 7, hq => cases hq; exact ⟨3, zT_at 1221 (by decide +kernel) rfl⟩
  | 8, hq => cases hq; exact ⟨19, zT_at 2145 (by decide +kernel) rfl⟩
  | 9, hq => cases hq; exact ⟨3, zT_at 1119 (by decide +kernel) rfl⟩
  | 10, hq => cases hq; exact ⟨2, zT_at 1031 (by decide +kernel) rfl⟩
  | 11, hq => cases hq; exact ⟨10, zT_at 1023 (by decide +kernel) rfl⟩
  | 12, hq => cases hq; exact ⟨78, zT_at 6105 (by decide +kernel) rfl⟩
  | _ + 13, hq => cases hq
section LawStart
variable {p : Program} {s : State} {m : MethodId} {meth : Method} {c : Code} {b L : Nat} {xs : Nat → Int32}
theorem zAt {w : Cond} (C0 : lw_At p s m meth c b L xs) (q : Nat) (h : zat q = some w) : w.before #[Value.ref b] s = true := C0.2.2.2.2.2.1 w (zch_in (List.mem_of_getElem? h))
set_option maxRecDepth 100000 in
theorem law_N (C0 : lw_At p s m meth c b L xs) : zNf s := by
  refine ⟨fun q hq => ?_, va_AO.of (zAt C0 2038 (by decide +kernel)), va_AO.of (zAt C0 2029 (by decide +kernel)), va_AO.of (zAt C0 2031 (by decide +kernel))⟩
  obtain ⟨k, hk⟩ := List.getElem?_of_mem hq
  match k, hk with
  | 0, hk => cases hk; exact va_Nw.of rfl (zAt C0 1032 (by decide +kernel))
  | 1, hk => cases hk; exact va_Nw.of rfl (zAt C0 1050 (by decide +kernel))
  | 2, hk => cases hk; exact va_Nw.of rfl (zAt C0 1120 (by decide +kernel))
  | 3, hk => cases hk; exact va_Nw.of rfl (zAt C0 1192 (by decide +kernel))
  | 4, hk => cases hk; exact va_Nw.of rfl (zAt C0 1222 (by decide +kernel))
  | 5, hk => cases hk; exact va_Nw.of rfl (zAt C0 4111 (by decide +kernel))
  | _ + 6, hk => cases hk
theorem arr_P (C0 : lw_At p s m meth c b L xs) {ty : FieldType} (hw : Cond.arrayClass ty ∈ zT) : ∃ cA : ClassId, ArrOfT s cA ty ∧ s.vm.findClass ("[" ++ ty.toString) = some cA := by
  obtain ⟨cA, kA, comp, h1, h2, h3⟩ := Cond.arrayClass_spec (lts C0 _ hw)
  exact ⟨cA, fun N z => ⟨(fun k h => by cases h), kA, h2, comp, h3⟩, h1⟩
theorem arr_O {C : String} (h : va_AO C s) : ∃ cA : ClassId, ArrOfT s cA (.object C) ∧ va_RA s cA (.object C) := by
  obtain ⟨comp, cA, kA, h1, -, h2, h3, h4⟩ := Cond.arrayOver_spec (va_AO.use (A := #[]) h)
  exact ⟨cA, fun N z => ⟨(fun k h => by cases h), kA, h2, comp, h3⟩, kA, comp, h2, h3, h1, h4⟩
theorem law_K (C0 : lw_At p s m meth c b L xs) : ∃ (dC : Nat → ClassId) (dI : Nat → Nat → Nat) (dA : Nat → ClassId), va_K (dC, dI) vwCl (ztys dA) s := by
  have h : ∀ ci : Nat, ∃ (cC : ClassId) (iS : Nat → Nat), ∀ q : vw_C, (vwCl)[ci]? = some q → u_Kn s q.1 q.2.1 q.2.2 cC iS := by
    intro ci
    cases hq : (vwCl)[ci]? with
    | none => exact ⟨0, fun _ => 0, fun q h => by cases h⟩
    | some q =>
      obtain ⟨n, hn⟩ := zins ci q hq
      obtain ⟨cC, iS, hk⟩ := u_known (C := q.1) (T := q.2.1) (N := q.2.2) (n := n) (lts C0) (zcl_in (C := q.1) (T := q.2.1) (N := q.2.2) hq) (lts C0 _ hn)
      exact ⟨cC, iS, fun q' h => by cases h; exact hk⟩
  obtain ⟨c0, i0, r0⟩ := arr_P C0 ka_int
  obtain ⟨c1, i1, r1⟩ := arr_P C0 ka_boolean
  obtain ⟨c2, i2, r2⟩ := arr_P C0 ka_long
  have hN := law_N C0
  obtain ⟨c3, i3, r3⟩ := arr_O hN.2.1
  obtain ⟨c4, i4, r4⟩ := arr_O hN.2.2.1
  obtain ⟨c5, i5, r5⟩ := arr_O hN.2.2.2
  refine ⟨fun ci => Classical.choose (h ci), fun ci => Classical.choose (Classical.choose_spec (h ci)), fun k => bif Nat.beq k 0 then c0 else bif Nat.beq k 1 then c1 else bif Nat.beq k 2 then c2 else bif Nat.beq k 3 then c3 else bif Nat.beq k 4 then c4 else c5, fun ci q hq => Classical.choose_spec (Classical.choose_spec (h ci)) q hq, fun k q hk => ?_⟩
  match k, hk with
  | 0, hk => cases hk; exact ⟨i0, r0⟩
  | 1, hk => cases hk; exact ⟨i1, r1⟩
  | 2, hk => cases hk; exact ⟨i2, r2⟩
  | 3, hk => cases hk; exact ⟨i3, r3⟩
  | 4, hk => cases hk; exact ⟨i4, r4⟩
  | 5, hk => cases hk; exact ⟨i5, r5⟩
  | _ + 6, hk => cases hk
end LawStart
theorem knL_8 : Cond.classLink R_law 8 "MinimalTables" ∈ zT ∧ Cond.instantiable "MinimalTables" 10 ∈ zT ∧ Cond.initialized "MinimalTables" ∈ zT := ⟨zT_at 1022 (by decide +kernel) rfl, zT_at 1023 (by decide +kernel) rfl, zT_at 1001 (by decide +kernel) rfl⟩
theorem knL_16 : Cond.classLink R_law 16 "MinimalTablesModel" ∈ zT ∧ Cond.instantiable "MinimalTablesModel" 78 ∈ zT ∧ Cond.initialized "MinimalTablesModel" ∈ zT := ⟨zT_at 6104 (by decide +kernel) rfl, zT_at 6105 (by decide +kernel) rfl, zT_at 1013 (by decide +kernel) rfl⟩
theorem kIL_15 : Cond.methodLink R_law 15 yX11_init ∈ zT := zT_at 1024 (by decide +kernel) rfl
theorem kIL_18 : Cond.methodLink R_law 18 yX12_init ∈ zT := zT_at 6106 (by decide +kernel) rfl
