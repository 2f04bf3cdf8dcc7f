section LawEnter
variable {p : Program} {l0 : Launch} {e : Env} {s : State} {m : MethodId} {below : List Frame} {meth : Method} {c : Code} {b L : Nat} {xs : Nat → Int32} {H : Heap} {locs : List Loc} {cells slots : Nat} {Q : State → Prop}
theorem va_D_app {A : Nat → Prop} {w1 w2 : va_W} (h1 : va_D A w1) (h2 : va_D A w2) (ha : wap w1 w2) : va_D A (w1 ++ w2) := by
  refine ⟨fun i j x y hi hj hxy => ?_, fun k x hk => ?_⟩
  · by_cases a : i < w1.length
    · rw [List.getElem?_append_left a] at hi
      by_cases c : j < w1.length
      · rw [List.getElem?_append_left c] at hj
        exact h1.1 i j x y hi hj hxy
      · rw [List.getElem?_append_right (Nat.le_of_not_lt c)] at hj
        exact absurd hxy (ha x (List.mem_of_getElem? hi) y (List.mem_of_getElem? hj))
    · rw [List.getElem?_append_right (Nat.le_of_not_lt a)] at hi
      by_cases c : j < w1.length
      · rw [List.getElem?_append_left c] at hj
        exact absurd hxy.symm (ha y (List.mem_of_getElem? hj) x (List.mem_of_getElem? hi))
      · rw [List.getElem?_append_right (Nat.le_of_not_lt c)] at hj
        have := h2.1 _ _ x y hi hj hxy
        omega
  · rcases List.mem_append.mp (List.mem_of_getElem? hk) with h | h
    · obtain ⟨k2, h3⟩ := List.getElem?_of_mem h
      exact h1.2 k2 x h3
    · obtain ⟨k2, h3⟩ := List.getElem?_of_mem h
      exact h2.2 k2 x h3
theorem va_P_app {D : va_G} {cl : List vw_C} {w1 w2 : va_W} {H : Heap} (h1 : va_P D cl w1 H) (h2 : va_P D cl w2 H) : va_P D cl (w1 ++ w2) H := by
  intro k x hk
  rcases List.mem_append.mp (List.mem_of_getElem? hk) with h | h
  · exact va_P_at h1 h
  · exact va_P_at h2 h
theorem va_P_sub {D : va_G} {cl : List vw_C} {w1 w2 : va_W} {H : Heap} (h1 : va_P D cl w1 H) (hs : ∀ x ∈ w2, x ∈ w1) : va_P D cl w2 H := fun _ x hk => va_P_at h1 (hs x (List.mem_of_getElem? hk))
/-- a row of one long is made -/
theorem LW_long {dC : Nat → ClassId} {dI : Nat → Nat → Nat} {dA : Nat → ClassId} {wo : va_W} {l : List (Option Value)} {pc n1 n2 n3 t1 t2 t3 : Nat} {v1 v2 v3 : Int32} {j : Fin 4}
    (C0 : lw_At p s m meth c b L xs) (hK : va_K (dC, dI) vwCl (ztys dA) s) (hPo : va_P (dC, dI) vwCl wo H) (hDo : va_D (A0 s) wo) (hS : va_S (A0 s) s.heap H locs)
    (f1 : zfe mL_law pc = some (.iconst 1, 1, n1, t1, v1)) (f2 : zfe mL_law n1 = some (.newarray .long, 2, n2, t2, v2)) (f3 : zfe mL_law n2 = some (.astore_n j, 1, n3, t3, v3)) (hj : Nat.blt j.val l.length = true) (hc1 : cells + 1 ≤ 600002) (hs1 : slots + 1 ≤ 7302231)
    (k : ∀ (H1 : Heap) (q : Nat), va_P (dC, dI) vwCl wo H1 → va_P (dC, dI) vwCl [(q, .inl (dA 2, 1, .inr (.inl fun _ => 0)))] H1 → s.heap.size ≤ q → wap wo [(q, .inl (dA 2, 1, .inr (.inl fun _ => 0)))] → va_S (A0 s) s.heap H1 locs → LW p l0 e s m b below meth c H1 locs (cells + 1) (slots + 1) Q (n3, zst1 l j.val (.ref q), [])) : LW p l0 e s m b below meth c H locs cells slots Q (pc, l, []) := by
  have hx := C0.1
  have hb := C0.2.1
  obtain ⟨d1, rfl, hv1⟩ := lD f1
  obtain ⟨d2, rfl, -⟩ := lD f2
  obtain ⟨d3, rfl, -⟩ := lD f3
  have e1 : Int32.ofInt 1 = v1 := of_decide_eq_true hv1
  intro ls hl
  dsimp only at hl ⊢
  refine lv_iconst (v := 1) hx hb d1 rfl ?_
  refine va_newa (atype := .long) (ty := .long) (a0 := (1, .inr (.inl fun _ => 0))) hx hb (lts C0 _ ka_long) rfl hK hPo hDo hS (fun _ h => h) (fun cA => rfl) (by decide) rfl (by decide) hc1 hs1 d2 (fun q cA H1 hK1 a1 a2 a3 => ?_)
  have r1 : s.vm.findClass ("[" ++ FieldType.long.toString) = some cA := (hK1.2 6 (cA, .long) rfl).2
  have r2 : s.vm.findClass ("[" ++ FieldType.long.toString) = some (dA 2) := (hK.2 2 (dA 2, .long) rfl).2
  have r3 : cA = dA 2 := Option.some.inj (r1.symm.trans r2)
  subst r3
  have hq : s.heap.size ≤ q := a2.2 wo.length (q, .inl (dA 2, 1, .inr (.inl fun _ => 0))) (by rw [List.getElem?_append_right (Nat.le_refl _), Nat.sub_self]; rfl)
  have hap : wap wo [(q, .inl (dA 2, 1, .inr (.inl fun _ => 0)))] := by
    intro p2 hp2 p1 hp1 ee
    rw [List.mem_singleton] at hp1
    subst hp1
    obtain ⟨k2, hk2⟩ := List.getElem?_of_mem hp2
    have hl2 := (List.getElem?_eq_some_iff.mp hk2).1
    have := a2.1 wo.length k2 (q, .inl (dA 2, 1, .inr (.inl fun _ => 0))) p2 (by rw [List.getElem?_append_right (Nat.le_refl _), Nat.sub_self]; rfl) (by rw [List.getElem?_append_left hl2]; exact hk2) ee.symm
    omega
  have key := k H1 q (va_P_sub a1 (fun x hx => List.mem_append_left _ hx)) (va_P_sub a1 (fun x hx => List.mem_append_right _ hx)) hq hap a3
  exact lv_astore_n hx hb d3 rfl (zlv_has hl) (by rw [← hl.1]; exact Nat.le_of_ble_eq_true hj) rfl (fun ls' h' => key ls' (zlv_st1 (v := .ref q) hl h'))
theorem gs36_l : gs36.length = 99 := rfl
theorem gs2_l : gs2.length = 50 := rfl
theorem gs36_s : gslt gs36 = 27150 := by decide +kernel
theorem gs2_s : gslt gs2 ≤ 200000 := by decide +kernel
set_option maxHeartbeats 4000000 in
set_option maxRecDepth 100000 in
/-- from the law's entry to its loop -/
theorem law_enter (C0 : lw_At p s m meth c b L xs) (hL : L ≤ 3072) (Iv : Nat → SX → SM → Prop) (h0 : Iv 0 sX0 sM0)
    (hsim : ∀ (dC : Nat → ClassId) (dI : Nat → Nat → Nat) (dA : Nat → ClassId) (qo : Nat), ∀ j sX sM, 6 * j + 6 ≤ L → Iv j sX sM → Sim sX sM (Iv (j + 1)) ∧ Iv (j + 1) sX sM ∧ R4 p l0 e s m b below meth c L xs (lw_Z below #[Value.ref b] s) dC dI dA qo sX sM (Iv (j + 1))) (hn : ∀ j sX sM, Iv j sX sM → sX.2.2.2.2.1 ≤ 600) :
    W p l0 e room_1 s m #[Value.ref b] below meth c s.heap [] 0 0 (lw_Z below #[Value.ref b] s) (entryFrame m ([Value.ref b] : List Value).toArray 7) := by
  obtain ⟨dC, dI, dA, hK⟩ := law_K C0
  have hN := law_N C0
  have hl0 := lv_entry ([.ref b]) (n := 7) (Nat.le_of_ble_eq_true rfl)
  rw [lg_entry_eq]
  generalize (lg_sl ([.ref b]) ++ List.replicate (7 - (lg_sl ([.ref b])).length) Slot.unset).toArray = ls at hl0 ⊢
  have hl : zlv (fun k => k) ls 7 [some (.ref b), none, none, none, none, none, none] := by
    refine ⟨rfl, hl0.1, hl0.2.1, fun i v hi => ?_⟩
    match i, hi with
    | 0, hi => cases hi; exact hl0.2.2 (0, .ref b) List.mem_cons_self
    | 1, hi => cases hi
    | 2, hi => cases hi
    | 3, hi => cases hi
    | 4, hi => cases hi
    | 5, hi => cases hi
    | 6, hi => cases hi
    | i + 7, hi => simp at hi
  have hP0 : va_P (dC, dI) vwCl [] s.heap := fun k q h => by simp at h
  have hD0 : va_D (A0 s) [] := ⟨fun i j p q h => by simp at h, fun k q h => by simp at h⟩
  have key : LW p l0 e s m b below meth c s.heap [] 0 0 (lw_Z below #[Value.ref b] s) (0, [some (.ref b), none, none, none, none, none, none], []) := by
    refine LW_make (wo := []) (ci := 11) (N := 10) (M := mX11_init) (L1 := gs36) C0 hN hK hP0 hD0 va_S.rf okIX11_init cX11_init_1 rfl knL_8 kIL_15 rfl rfl rfl rfl rfl rfl (by rw [gs36_l]; omega) (by rw [gs36_s]; omega) (fun H1 locs1 adX hX1 _ _ => ?_)
    refine LW_make (wo := zws ZG dA adX gs36) (ci := 12) (N := 78) (M := mX12_init) (L1 := gs2) C0 hN hK hX1.1 hX1.2.2.1 hX1.2.2.2.1 okIX12_init cX12_init_1 rfl knL_16 kIL_18 rfl rfl rfl rfl rfl rfl (by rw [gs36_l, gs2_l]; omega) (by rw [gs36_s]; have := gs2_s; omega) (fun H2 locs2 adM hM2 hPX2 hap2 => ?_)
    refine LW_long (wo := zws ZG dA adX gs36 ++ zws ZG dA adM gs2) C0 hK (va_P_app hPX2 hM2.1) (va_D_app hX1.2.2.1 hM2.2.2.1 (wap_symm hap2)) hM2.2.2.2.1 rfl rfl rfl rfl (by rw [gs36_l, gs2_l]; omega) (by rw [gs36_s]; have := gs2_s; omega) (fun H3 q hPo hPq hq hap3 hS3 => ?_)
    refine LW_n C0 hS3 2 rfl trivial ?_
    have hI : LI dC dI dA s H3 locs2 adX adM q sX0 sM0 (fun _ => 0) := by
      refine ⟨⟨?_, ?_, hPq⟩, hK, ⟨?_, ?_, hq⟩, ⟨?_, ?_, ?_⟩, hS3, hX1.2.2.2.2.2, hM2.2.2.2.2.2, hN⟩
      · rw [← wX_eq]; exact va_P_sub hPo (fun x hx => List.mem_append_left _ hx)
      · rw [← wM_eq]; exact va_P_sub hPo (fun x hx => List.mem_append_right _ hx)
      · rw [← wX_eq]; exact hX1.2.2.1
      · rw [← wM_eq]; exact hM2.2.2.1
      · rw [← wX_eq, ← wM_eq]; exact wap_symm hap2
      · rw [← wX_eq]; exact fun x hx => hap3 x (List.mem_append_left _ hx)
      · rw [← wM_eq]; exact fun x hx => hap3 x (List.mem_append_right _ hx)
    refine LW_w ?_ ?_ (law_loop C0 hL Iv (hsim dC dI dA q) hn 513 0 0 sX0 sM0 (fun _ => 0) adX adM (adX 0) (adM 0) H3 locs2 rfl (by omega) rfl rfl rfl h0 hI)
    · rw [gs36_l, gs2_l]; show _ ≤ 200 + 3 * 0 + 8 * 0; omega
    · rw [gs36_s]; have := gs2_s; show _ ≤ 300000 + 165 * 0 + 64 * 0; omega
  exact key ls hl
end LawEnter
