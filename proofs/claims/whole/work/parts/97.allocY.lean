/-! kernelIn on an empty slot, in the class's world. -/
theorem zca_id (a : vp_A) : zca (fun k => k) a = a := by
  obtain ⟨n, a⟩ := a
  rcases a with a | a | a | a | a
  · rfl
  · rfl
  · rfl
  · rfl
  · show (n, _) = (n, _)
    congr 5
    funext i
    show (a i).map (fun k => k) = a i
    cases a i <;> rfl
theorem ze_idf (v : Value) : ze (fun k => k) v = v := by cases v <;> rfl
theorem zmp_id (c : zc) : zmp (fun k => k) c = c := by
  rcases c with ⟨t, a⟩ | ⟨ci, fs⟩
  · show Sum.inl (t, zca (fun k => k) a) = _
    rw [zca_id]
  · show Sum.inr (ci, fs.map (ze fun k => k)) = _
    rw [show fs.map (ze fun k => k) = fs from (List.map_congr_left fun v _ => ze_idf v).trans (List.map_id fs)]
/-- a run over the list of all cells is a run in the class's world -/
theorem Ev_list {P : YP} {M : MD} {as : List Value} {L L' : List zc} {s s' : SX} {r : Option Value} (h : Ev ZG M as L r L') (hl : L.length = 3 * s.2.2.2.2.1 + 99) (hl' : L'.length = 3 * s'.2.2.2.2.1 + 99) (hn : s.2.2.2.2.1 ≤ s'.2.2.2.2.1) (hs : gslt L' - gslt L = 165 * (s'.2.2.2.2.1 - s.2.2.2.2.1))
    (hc : ∀ k, k < L.length → L[k]? = some (ycel P s k)) (hc' : ∀ k, k < L'.length → L'[k]? = some (ycel P s' k)) : Ev (ZY P) M as s r s' := by
  have key := Ev_emb (Z1 := ZG) (Z2 := ZY P) (s2 := s) (s2' := s') (fun k => k) h
    ⟨by show 3 * s.2.2.2.2.1 + 99 ≤ 3 * s'.2.2.2.2.1 + 99; omega, by show 27150 + 165 * s.2.2.2.2.1 ≤ 27150 + 165 * s'.2.2.2.2.1; omega⟩
    (by show (3 * s'.2.2.2.2.1 + 99) - (3 * s.2.2.2.2.1 + 99) = L'.length - L.length; omega)
    (by show (27150 + 165 * s'.2.2.2.2.1) - (27150 + 165 * s.2.2.2.2.1) = gslt L' - gslt L; omega)
    (fun k hk => by show k < 3 * s.2.2.2.2.1 + 99; have hk : k < L.length := hk; omega)
    (fun k hk => by show k < 3 * s'.2.2.2.2.1 + 99; have hk : k < L'.length := hk; omega)
    (fun k hk => by show 3 * s.2.2.2.2.1 + 99 ≤ k; have hk : L.length ≤ k := hk; omega)
    (fun j k _ _ e => e)
    (fun k hk => by rw [zmp_id]; exact (gcel_lt (hc k hk)).symm)
    (fun k hk => by rw [zmp_id]; exact (gcel_lt (hc' k hk)).symm)
    (fun b hb => Or.inl ⟨b, by show b < L'.length; have hb : b < 3 * s'.2.2.2.2.1 + 99 := hb; omega, rfl⟩)
    (fun ad ad1 a1 a2 a3 => ⟨ad1, fun b hb => a1 b (by show b < L.length; have hb : b < 3 * s.2.2.2.2.1 + 99 := hb; omega), fun b hb => a2 b (by show L'.length ≤ b; have hb : 3 * s'.2.2.2.2.1 + 99 ≤ b := hb; omega), fun _ => rfl⟩)
    (fun dA ad ad' b hb hne => absurd rfl (hne b (by show b < L.length; have hb : b < 3 * s.2.2.2.2.1 + 99 := hb; omega)))
  rw [show as.map (ze fun k => k) = as from (List.map_congr_left fun v _ => ze_idf v).trans (List.map_id as), show r.map (ze fun k => k) = r from by cases r with | none => rfl | some v => show some (ze _ v) = some v; rw [ze_idf]] at key
  exact key
/-- all cells of a state -/
def yL (P : YP) (s : SX) : List zc := (List.range (3 * s.2.2.2.2.1 + 99)).map (ycel P s)
theorem yL_len (P : YP) (s : SX) : (yL P s).length = 3 * s.2.2.2.2.1 + 99 := by simp [yL]
theorem yL_at {P : YP} {s : SX} {k : Nat} (h : k < 3 * s.2.2.2.2.1 + 99) : (yL P s)[k]? = some (ycel P s k) := by simp [yL, h]
/-- the state's references are in bounds -/
def YS (P : YP) (s : SX) : Prop := ∀ k, k < 3 * s.2.2.2.2.1 + 99 → gsc (3 * s.2.2.2.2.1 + 99) (ycel P s k)
theorem YS_GS {P : YP} {s : SX} (h : YS P s) : GS (yL P s) := by
  intro c hc
  rw [yL_len]
  obtain ⟨k, hk, rfl⟩ := List.mem_map.mp hc
  exact h k (List.mem_range.mp hk)
/-- one kernel more, in the slot i -/
def ynew (s : SX) (i : Nat) : SX := (updI s.1 (3 * s.2.2.2.2.1 + 99) 0 0, fun b => if b = 3 * s.2.2.2.2.1 + 100 then fun _ => 0 else if b = 3 * s.2.2.2.2.1 + 101 then fun _ => 0 else s.2.1 b, s.2.2.1, s.2.2.2.1, s.2.2.2.2.1 + 1, fun b => if b = 37 then va_up (s.2.2.2.2.2 37) i (some (3 * s.2.2.2.2.1 + 99)) else s.2.2.2.2.2 b)
theorem ynew_old {P : YP} {s : SX} {i k : Nat} (h : k < 3 * s.2.2.2.2.1 + 99) (hk : k ≠ 37) : ycel P (ynew s i) k = ycel P s k := by
  show yc P (updI s.1 (3 * s.2.2.2.2.1 + 99) 0 0 k) (if k = 3 * s.2.2.2.2.1 + 100 then fun _ => 0 else if k = 3 * s.2.2.2.2.1 + 101 then fun _ => 0 else s.2.1 k) (s.2.2.1 k) (s.2.2.2.1 k) (if k = 37 then va_up (s.2.2.2.2.2 37) i (some (3 * s.2.2.2.2.1 + 99)) else s.2.2.2.2.2 k) k = yc P (s.1 k) (s.2.1 k) (s.2.2.1 k) (s.2.2.2.1 k) (s.2.2.2.2.2 k) k
  rw [updI_ne (by omega), if_neg (by omega), if_neg (by omega), if_neg hk]
theorem ynew_row {P : YP} {s : SX} {i : Nat} : ycel P (ynew s i) 37 = .inl (3, 200, .inr (.inr (.inr (.inr (va_up (s.2.2.2.2.2 37) i (some (3 * s.2.2.2.2.1 + 99))))))) := rfl
theorem ynew_k {P : YP} {s : SX} {i : Nat} : ycel P (ynew s i) (3 * s.2.2.2.2.1 + 99) = .inr (7, [.int 0, .ref (3 * s.2.2.2.2.1 + 99 + 1), .ref (3 * s.2.2.2.2.1 + 99 + 2)]) ∧ ycel P (ynew s i) (3 * s.2.2.2.2.1 + 99 + 1) = garr .int 81 ∧ ycel P (ynew s i) (3 * s.2.2.2.2.1 + 99 + 2) = garr .int 81 := by
  have hk : isKc (3 * s.2.2.2.2.1 + 99) (s.2.2.2.2.1 + 1) := Or.inr (Or.inr ⟨by omega, by omega, by omega⟩)
  obtain ⟨h1, h2, h3⟩ := isK_cell (P := P) (s := ynew s i) hk
  rw [h1, h2, h3]
  refine ⟨?_, ?_, ?_⟩
  · rw [show (ynew s i).1 (3 * s.2.2.2.2.1 + 99) 0 = 0 from by show updI s.1 (3 * s.2.2.2.2.1 + 99) 0 0 (3 * s.2.2.2.2.1 + 99) 0 = 0; rw [updI_eq]; rfl]
  · rw [show (ynew s i).2.1 (3 * s.2.2.2.2.1 + 99 + 1) = fun _ => 0 from if_pos rfl]; rfl
  · rw [show (ynew s i).2.1 (3 * s.2.2.2.2.1 + 99 + 2) = fun _ => 0 from (if_neg (by omega)).trans (if_pos rfl)]; rfl
theorem y_kernelNew {P : YP} {s : SX} {i : Nat} (hY : YS P s) (hi : i < 200) (h : s.2.2.2.2.2 37 i = none) : Ev (ZY P) mX1_kernelIn [.ref 36, .int (nI i)] s (some (.ref (3 * s.2.2.2.2.1 + 99))) (ynew s i) := by
  have hl := yL_len P s
  have ev := g_kernelIn (L := yL P s) (kr := s.2.2.2.2.2 37) (i := i) ((yL_at (by omega)).trans rfl) rfl ((yL_at (by omega)).trans rfl) hi h (YS_GS hY)
  rw [hl] at ev
  have hlen : (yL P s ++ gK0 (3 * s.2.2.2.2.1 + 99)).length = 3 * s.2.2.2.2.1 + 102 := by rw [List.length_append, hl]; rfl
  refine Ev_list ev hl (by rw [List.length_set, hlen]; show _ = 3 * (s.2.2.2.2.1 + 1) + 99; omega) (Nat.le_succ _) ?_ (fun k hk => yL_at (by omega)) ?_
  · rw [gslt_set (by rw [gcel_lt (by rw [List.getElem?_append_left (by omega)]; exact (yL_at (by omega)).trans rfl)]; rfl) (by omega)]
    show gslt _ - _ = 165 * (s.2.2.2.2.1 + 1 - s.2.2.2.2.1)
    rw [Nat.add_sub_cancel_left]
    show gslt (yL P s ++ ([_] ++ ([_] ++ [_]))) - _ = _
    rw [← List.append_assoc, ← List.append_assoc, gslt_push, gslt_push, gslt_push]
    show gslt (yL P s) + 3 + 81 + 81 - gslt (yL P s) = 165 * 1
    omega
  · intro k hk
    rw [List.length_set, hlen] at hk
    by_cases e : k = 37
    · subst e
      rw [List.getElem?_set_self (by omega)]
      rfl
    rw [List.getElem?_set_ne (fun q => e q.symm)]
    by_cases hk2 : k < 3 * s.2.2.2.2.1 + 99
    · rw [List.getElem?_append_left (by omega), yL_at hk2, ynew_old hk2 e]
    rw [List.getElem?_append_right (by omega), hl]
    obtain ⟨h1, h2, h3⟩ := ynew_k (P := P) (s := s) (i := i)
    have : k = 3 * s.2.2.2.2.1 + 99 ∨ k = 3 * s.2.2.2.2.1 + 99 + 1 ∨ k = 3 * s.2.2.2.2.1 + 99 + 2 := by omega
    rcases this with z | z | z
    · rw [z, Nat.sub_self, h1]; rfl
    · rw [z, Nat.add_sub_cancel_left, h2]; rfl
    · rw [z, Nat.add_sub_cancel_left, h3]; rfl
theorem gsc_ynew {P : YP} {s : SX} {i : Nat} (hY : YS P s) : YS P (ynew s i) := by
  intro k hk
  have hk : k < 3 * (s.2.2.2.2.1 + 1) + 99 := hk
  show gsc (3 * (s.2.2.2.2.1 + 1) + 99) _
  by_cases e : k = 37
  · subst e
    rw [ynew_row]
    intro j c hc
    have h37 : gsc (3 * s.2.2.2.2.1 + 99) (ycel P s 37) := hY 37 (by omega)
    have hc : (if j = i then some (3 * s.2.2.2.2.1 + 99) else s.2.2.2.2.2 37 j) = some c := hc
    split at hc
    · have := Option.some.inj hc; omega
    · have := (show gsc (3 * s.2.2.2.2.1 + 99) (.inl (3, 200, .inr (.inr (.inr (.inr (s.2.2.2.2.2 37)))))) from h37) j c hc
      omega
  by_cases hk2 : k < 3 * s.2.2.2.2.1 + 99
  · rw [ynew_old hk2 e]
    exact gsc_up (hY k hk2) (by omega)
  obtain ⟨h1, h2, h3⟩ := ynew_k (P := P) (s := s) (i := i)
  have : k = 3 * s.2.2.2.2.1 + 99 ∨ k = 3 * s.2.2.2.2.1 + 99 + 1 ∨ k = 3 * s.2.2.2.2.1 + 99 + 2 := by omega
  rcases this with z | z | z
  · rw [z, h1]
    intro v hv
    simp only [List.mem_cons, List.not_mem_nil, or_false] at hv
    rcases hv with rfl | rfl | rfl
    · rfl
    · exact zblt (by omega)
    · exact zblt (by omega)
  · rw [z, h2]; trivial
  · rw [z, h3]; trivial
