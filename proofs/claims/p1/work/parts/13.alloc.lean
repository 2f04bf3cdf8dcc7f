/-! The making of cells: a world that is a list of cells; constructors. -/
def gcel (L : List zc) (k : Nat) : zc := match L[k]? with
  | some c => c
  | none => .inl (0, 0, .inl fun _ => 0)
def gslots (c : zc) : Nat := match c with
  | .inl a => a.2.1
  | .inr o => o.2.length
def gslt (L : List zc) : Nat := (L.map gslots).sum
def ZG : ZW (List zc) := (gcel, List.length, gslt, fun _ _ _ _ => none, fun _ _ _ _ => none, fun _ _ _ _ => none)
theorem ZG_ok : ZOk ZG := ⟨fun _ _ _ _ _ h => (by cases h), fun _ _ _ _ _ h => (by cases h), fun _ _ _ _ _ h => (by cases h)⟩
/-- references of a cell: below n -/
def gsc (n : Nat) (c : zc) : Prop := match c with
  | .inr o => ∀ v ∈ o.2, zsv n v = true
  | .inl (_, _, .inr (.inr (.inr (.inr g)))) => ∀ i k, g i = some k → k < n
  | .inl _ => True
def GS (L : List zc) : Prop := ∀ c ∈ L, gsc L.length c
theorem zsv_up {n m : Nat} {v : Value} (h : zsv n v = true) (hn : n ≤ m) : zsv m v = true := by
  cases v with
  | ref k => exact Nat.ble_eq_true_of_le (Nat.le_trans (Nat.le_of_ble_eq_true h) hn)
  | _ => rfl
theorem gsc_up {n m : Nat} {c : zc} (h : gsc n c) (hn : n ≤ m) : gsc m c := by
  unfold gsc at h ⊢
  split at h
  · exact fun v hv => zsv_up (h v hv) hn
  · exact fun i k hk => Nat.lt_of_lt_of_le (h i k hk) hn
  · trivial
theorem zcc_ad {dA : Nat → ClassId} {ad ad' : Nat → Nat} {n : Nat} {c : zc} (h : gsc n c) (ha : ∀ k, k < n → ad' k = ad k) : zcc dA ad' c = zcc dA ad c := by
  unfold gsc at h
  split at h
  · rename_i o
    show (Sum.inr (o.1, o.2.map (ze ad')) : va_E) = .inr (o.1, o.2.map (ze ad))
    congr 2
    exact List.map_congr_left fun v hv => zsv_ok (h v hv) ha
  · rename_i t nn g
    show (Sum.inl (dA t, nn, .inr (.inr (.inr (.inr (fun i => (g i).map ad'))))) : va_E) = .inl (dA t, nn, .inr (.inr (.inr (.inr (fun i => (g i).map ad)))))
    have : (fun i => (g i).map ad') = (fun i => (g i).map ad) := by
      funext i
      cases hg : g i with
      | none => rfl
      | some k => show some (ad' k) = some (ad k); rw [ha k (h i k hg)]
    rw [this]
  · rename_i a ha2
    obtain ⟨t, nn, q⟩ := a
    unfold zcc zca
    rcases q with g | g | g | g | g
    · rfl
    · rfl
    · rfl
    · rfl
    · exact absurd rfl (ha2 t nn g)
theorem gcel_lt {L : List zc} {k : Nat} {c : zc} (h : L[k]? = some c) : gcel L k = c := by unfold gcel; rw [h]
theorem gcel_some {L : List zc} {k : Nat} (h : k < L.length) : L[k]? = some (gcel L k) := by unfold gcel; rw [List.getElem?_eq_getElem h]
theorem gws_push {dA : Nat → ClassId} {ad ad' : Nat → Nat} {L : List zc} {c : zc} (hL : GS L) (ha : ∀ k, k < L.length → ad' k = ad k) : zws ZG dA ad' (L ++ [c]) = zws ZG dA ad L ++ [(ad' L.length, zcc dA ad' c)] := by
  show (List.range (L ++ [c]).length).map (fun k => (ad' k, zcc dA ad' (gcel (L ++ [c]) k))) = (List.range L.length).map (fun k => (ad k, zcc dA ad (gcel L k))) ++ _
  rw [List.length_append, List.length_singleton, List.range_succ, List.map_append]
  congr 1
  · apply List.map_congr_left
    intro k hk
    have hk := List.mem_range.mp hk
    have e1 : gcel (L ++ [c]) k = gcel L k := gcel_lt (by rw [List.getElem?_append_left hk]; exact gcel_some hk)
    rw [e1, ha k hk, zcc_ad (hL _ (List.mem_of_getElem? (gcel_some hk))) ha]
  · have e1 : gcel (L ++ [c]) L.length = c := gcel_lt (by rw [List.getElem?_append_right (Nat.le_refl _), Nat.sub_self]; rfl)
    simp [e1]
theorem GS_push {L : List zc} {c : zc} (hL : GS L) (hc : gsc (L.length + 1) c) : GS (L ++ [c]) := by
  intro x hx
  rw [List.length_append, List.length_singleton]
  rcases List.mem_append.mp hx with h | h
  · exact gsc_up (hL x h) (Nat.le_succ _)
  · rw [List.mem_singleton.mp h]; exact hc
theorem GS_set {L : List zc} {c : zc} {a : Nat} (hL : GS L) (hc : gsc L.length c) : GS (L.set a c) := by
  intro x hx
  rw [List.length_set]
  rcases List.mem_or_eq_of_mem_set hx with h | h
  · exact hL x h
  · rw [h]; exact hc
theorem gslt_push (L : List zc) (c : zc) : gslt (L ++ [c]) = gslt L + gslots c := by simp [gslt]
def Rk (M : MD) (f : ZF (List zc)) (r : Option Value) (sE : List zc) : Prop := GS f.2.2.2 → Rn ZG M f r sE ∧ GS sE
section GRules
variable {M M' : MD} {pc nx n tg : Nat} {v : Int32} {l l' : List (Option Value)} {st st' : List Value} {L L1 LE : List zc} {r r1 : Option Value}
theorem Rk_n (n : Nat) {P : Prop} {pc' : Nat} (h : zsn ZG M n (pc, l, st, L) = some (P, (pc', l', st', L))) (hP : P) (k : Rk M (pc', l', st', L) r LE) : Rk M (pc, l, st, L) r LE := fun g => ⟨Rn_n ZG_ok n h hP (k g).1, (k g).2⟩
theorem Rk_b {fa fb : ZF (List zc)} {c : Prop} (h : zb1 M (pc, l, st, L) = some (c, fa, fb)) (hc : c) (ha : fa.2.2.2 = L) (k : Rk M fa r LE) : Rk M (pc, l, st, L) r LE := fun g => ⟨Rn_b h (fun _ => (k (by rw [ha]; exact g)).1) (fun q => absurd hc q), (k (by rw [ha]; exact g)).2⟩
theorem Rk_bn {fa fb : ZF (List zc)} {c : Prop} (h : zb1 M (pc, l, st, L) = some (c, fa, fb)) (hc : ¬ c) (ha : fb.2.2.2 = L) (k : Rk M fb r LE) : Rk M (pc, l, st, L) r LE := fun g => ⟨Rn_b h (fun q => absurd q hc) (fun _ => (k (by rw [ha]; exact g)).1), (k (by rw [ha]; exact g)).2⟩
theorem Rk_ret (hfe : zfe M pc = some (.return_, 1, nx, tg, v)) (hr : M.2.2.2.2.1 = none) : Rk M (pc, l, [], L) none L := fun g => ⟨Rn_vret hfe hr, g⟩
/-- one cell more -/
theorem Rk_push {c : zc} (hs : zsf L.length l st = true) (hc : gsc (L.length + 1) c) (st2 : List Value)
    (hx : ∀ (p : Program) (l0 : Launch) (e : Env) (R : Room) (s0 : State) (m : MethodId) (args : Array Value) (below : List Frame) (meth : Method) (c0 : Code) (H : Heap) (locs : List Loc) (cells slots : Nat) (Q : State → Prop) (ls : Array Slot) (A : Nat → Prop) (dC : Nat → ClassId) (dI : Nat → Nat → Nat) (dA : Nat → ClassId) (ad : Nat → Nat),
      ZC M p s0 m args meth c0 → ZH ZG dC dI dA ad A s0 H locs L → zlv ad ls M.2.2.2.1 l → cells + 1 ≤ R.cells → slots + gslots c ≤ R.slots →
      (∀ (q : Nat) (H' : Heap), va_P (dC, dI) vwCl (zws ZG dA ad L ++ [(q, zcc dA (fun k => if k = L.length then q else ad k) c)]) H' → va_D A (zws ZG dA ad L ++ [(q, zcc dA (fun k => if k = L.length then q else ad k) c)]) → va_S A s0.heap H' locs → W p l0 e R s0 m args below meth c0 H' locs (cells + 1) (slots + gslots c) Q (F0 m nx ls (.ref q :: st.map (ze ad)))) →
      W p l0 e R s0 m args below meth c0 H locs cells slots Q (F0 m pc ls ((st2 ++ st).map (ze ad))))
    (k : Rk M (nx, l, .ref L.length :: st, L ++ [c]) r LE) : Rk M (pc, l, st2 ++ st, L) r LE := by
  intro g
  have hGS := GS_push g hc
  obtain ⟨⟨⟨k1, k1'⟩, k2⟩, kE⟩ := k hGS
  have k1 : (L ++ [c]).length ≤ LE.length := k1
  have k1' : gslt (L ++ [c]) ≤ gslt LE := k1'
  rw [List.length_append, List.length_singleton] at k1
  rw [gslt_push] at k1'
  refine ⟨⟨⟨Nat.le_trans (Nat.le_succ _) k1, Nat.le_trans (Nat.le_add_right _ _) k1'⟩, ?_⟩, kE⟩
  intro p l0 e R s0 m args below meth c0 H locs ls A dC dI dA ad ad0 nn k0 n0 hC hR hH hlv ha hk
  have hR3 : LE.length - k0 ≤ R.cells := hR.2.2.1
  have hR4 : gslt LE - n0 ≤ R.slots := hR.2.2.2
  have hk1 : k0 ≤ L.length := hk.1
  have hk2 : n0 ≤ gslt L := hk.2
  have ha1 : nn ≤ L.length := ha.1
  refine hx p l0 e R s0 m args below meth c0 H locs _ _ _ ls A dC dI dA ad hC hH hlv (show L.length - k0 + 1 ≤ R.cells by omega) (show gslt L - n0 + gslots c ≤ R.slots by omega) (fun q H' h1 h2 h3 => ?_)
  have hag : ∀ k, k < L.length → (fun k => if k = L.length then q else ad k) k = ad k := fun k hk => if_neg (Nat.ne_of_lt hk)
  have g' : GS L := g
  have ews := gws_push (L := L) (dA := dA) (ad := ad) (ad' := fun k => if k = L.length then q else ad k) (c := c) g' hag
  rw [if_pos rfl] at ews
  have key := k2 p l0 e R s0 m args below meth c0 H' locs ls A dC dI dA (fun k => if k = L.length then q else ad k) ad0 nn k0 n0 hC hR
    ⟨by show va_P _ _ (zws ZG dA _ (L ++ [c])) H'; rw [ews]; exact h1, hH.2.1, by show va_D A (zws ZG dA _ (L ++ [c])); rw [ews]; exact h2, h3, hH.2.2.2.2.1, fun k hk => by
      have hk : (L ++ [c]).length ≤ k := hk
      rw [List.length_append, List.length_singleton] at hk
      show (if k = L.length then q else ad k) = 0
      rw [if_neg (by omega)]
      exact hH.2.2.2.2.2 k (show L.length ≤ k by omega)⟩
    (zlv_ad hlv hag hs) ⟨by show nn ≤ (L ++ [c]).length; rw [List.length_append]; exact Nat.le_trans ha1 (Nat.le_add_right _ _), fun k hk => (hag k (Nat.lt_of_lt_of_le hk ha1)).trans (ha.2 k hk)⟩
    ⟨by show k0 ≤ (L ++ [c]).length; rw [List.length_append]; exact Nat.le_trans hk1 (Nat.le_add_right _ _), by show n0 ≤ gslt (L ++ [c]); rw [gslt_push]; exact Nat.le_trans hk2 (Nat.le_add_right _ _)⟩
  have e1 : (L ++ [c]).length - k0 = L.length - k0 + 1 := by rw [List.length_append, List.length_singleton]; omega
  have e2 : gslt (L ++ [c]) - n0 = gslt L - n0 + gslots c := by rw [gslt_push]; omega
  have e3 : (Value.ref L.length :: st).map (ze (fun k => if k = L.length then q else ad k)) = .ref q :: st.map (ze ad) := by
    rw [List.map_cons, ← zst_ad (l := l) hag hs]
    show Value.ref (if L.length = L.length then q else ad L.length) :: _ = _
    rw [if_pos rfl]
  have key : W p l0 e R s0 m args below meth c0 H' locs ((L ++ [c]).length - k0) (gslt (L ++ [c]) - n0) _ (F0 m nx ls ((Value.ref L.length :: st).map (ze (fun k => if k = L.length then q else ad k)))) := key
  rw [e1, e2, e3] at key
  exact key
def gdef (ci N : Nat) : List Value := (List.range N).map fun j => defaultValue (ztyF ci j)
theorem ze_dflt (ad : Nat → Nat) (t : FieldType) : ze ad (defaultValue t) = defaultValue t := by cases t <;> rfl
theorem gdef_ze (ad : Nat → Nat) (ci N : Nat) : (gdef ci N).map (ze ad) = gdef ci N := by
  unfold gdef
  rw [List.map_map]
  exact List.map_congr_left fun j _ => ze_dflt ad _
theorem gdef_sv (n ci N : Nat) : ∀ w ∈ gdef ci N, zsv n w = true := by
  intro w hw
  obtain ⟨j, -, rfl⟩ := List.mem_map.mp hw
  cases ztyF ci j <;> rfl
theorem Rk_new {idx N : Nat} {C : String} {T : u_T} (ci : Nat) (hfe : zfe M pc = some (.new idx, 3, nx, tg, v)) (hc : (vwCl)[ci]? = some (C, T, N)) (hw : Cond.classLink M.2.1.cls idx C ∈ zT ∧ Cond.instantiable C N ∈ zT ∧ Cond.initialized C ∈ zT) (hs : zsf L.length l st = true)
    (k : Rk M (nx, l, .ref L.length :: st, L ++ [.inr (ci, gdef ci N)]) r LE) : Rk M (pc, l, st, L) r LE := by
  refine Rk_push (c := .inr (ci, gdef ci N)) (st2 := []) hs (gdef_sv _ ci N) ?_ k
  intro p l0 e R s0 m args below meth c0 H locs cells slots Q ls A dC dI dA ad hC hH hlv h1 h2 kk
  obtain ⟨hd, hnx, -⟩ := zD hC hfe
  have hlen : gslots (.inr (ci, gdef ci N)) = N := by simp [gslots, gdef]
  rw [hlen] at h2 kk
  subst hnx
  refine va_new (fs := gdef ci N) hC.1 hC.2.1 hC.2.2.2.2.1 (zcl_in hc) (ztyF ci) (zcl_ty hc) hC.2.2.2.2.2.1 (hC.2.2.2.2.1 _ hw.1) (hC.2.2.2.2.1 _ hw.2.1) (hC.2.2.2.2.1 _ hw.2.2) hH.2.1 hH.1 hH.2.2.1 hH.2.2.2.1 hH.2.2.2.2.1 hc (fun j hj => by simp [vp_V, gdef, hj]) h1 h2 hd (fun q H1 a1 a2 a3 => ?_)
  refine kk q H1 ?_ ?_ a3
  · show va_P _ _ (_ ++ [(q, .inr (ci, (gdef ci N).map (ze _)))]) H1
    rw [gdef_ze]; exact a1
  · show va_D _ (_ ++ [(q, .inr (ci, (gdef ci N).map (ze _)))])
    rw [gdef_ze]; exact a2
/-- an array of whole numbers: its kind, its cell -/
def garr (t : ArrayType) (N : Nat) : zc := match t with
  | .boolean => .inl (1, N, .inl fun _ => 0)
  | .long => .inl (2, N, .inr (.inl fun _ => 0))
  | _ => .inl (0, N, .inl fun _ => 0)
theorem Rk_newa {N : Nat} {x : Int32} {t : ArrayType} (hfe : zfe M pc = some (.newarray t, 2, nx, tg, v)) (ht : t = .int ∨ t = .boolean ∨ t = .long) (hw : Cond.arrayClass (newarray.typeOf t) ∈ zT) (hx : ¬ x < 0) (hN : x.toNatClampNeg = N) (hb : Nat.ble N 60000000 = true) (hs : zsf L.length l st = true)
    (k : Rk M (nx, l, .ref L.length :: st, L ++ [garr t N]) r LE) : Rk M (pc, l, .int x :: st, L) r LE := by
  have hb := Nat.le_of_ble_eq_true hb
  refine Rk_push (c := garr t N) (st2 := [.int x]) hs (by rcases ht with rfl | rfl | rfl <;> trivial) ?_ k
  intro p l0 e R s0 m args below meth c0 H locs cells slots Q ls A dC dI dA ad hC hH hlv h1 h2 kk
  obtain ⟨hd, hnx, -⟩ := zD hC hfe
  subst hnx
  rcases ht with rfl | rfl | rfl
  · refine va_newa (atype := .int) (ty := .int) (a0 := (N, .inl fun _ => 0)) hC.1 hC.2.1 (hC.2.2.2.2.1 _ hw) rfl hH.2.1 hH.1 hH.2.2.1 hH.2.2.2.1 hH.2.2.2.2.1 (fun cA => rfl) hx hN (by show N * 4 ≤ _; omega) h1 h2 hd (fun q cA H1 hK a1 a2 a3 => ?_)
    have e1 : s0.vm.findClass ("[" ++ FieldType.int.toString) = some cA := (hK.2 6 (cA, .int) rfl).2
    have e2 : s0.vm.findClass ("[" ++ FieldType.int.toString) = some (dA 0) := (hH.2.1.2 0 (dA 0, .int) rfl).2
    have e3 : cA = dA 0 := Option.some.inj (e1.symm.trans e2)
    subst e3
    exact kk q H1 a1 a2 a3
  · refine va_newa (atype := .boolean) (ty := .boolean) (a0 := (N, .inl fun _ => 0)) hC.1 hC.2.1 (hC.2.2.2.2.1 _ hw) rfl hH.2.1 hH.1 hH.2.2.1 hH.2.2.2.1 hH.2.2.2.2.1 (fun cA => rfl) hx hN (by show N * 1 ≤ _; omega) h1 h2 hd (fun q cA H1 hK a1 a2 a3 => ?_)
    have e1 : s0.vm.findClass ("[" ++ FieldType.boolean.toString) = some cA := (hK.2 6 (cA, .boolean) rfl).2
    have e2 : s0.vm.findClass ("[" ++ FieldType.boolean.toString) = some (dA 1) := (hH.2.1.2 1 (dA 1, .boolean) rfl).2
    have e3 : cA = dA 1 := Option.some.inj (e1.symm.trans e2)
    subst e3
    exact kk q H1 a1 a2 a3
  · refine va_newa (atype := .long) (ty := .long) (a0 := (N, .inr (.inl fun _ => 0))) hC.1 hC.2.1 (hC.2.2.2.2.1 _ hw) rfl hH.2.1 hH.1 hH.2.2.1 hH.2.2.2.1 hH.2.2.2.2.1 (fun cA => rfl) hx hN (by show N * 8 ≤ _; omega) h1 h2 hd (fun q cA H1 hK a1 a2 a3 => ?_)
    have e1 : s0.vm.findClass ("[" ++ FieldType.long.toString) = some cA := (hK.2 6 (cA, .long) rfl).2
    have e2 : s0.vm.findClass ("[" ++ FieldType.long.toString) = some (dA 2) := (hH.2.1.2 2 (dA 2, .long) rfl).2
    have e3 : cA = dA 2 := Option.some.inj (e1.symm.trans e2)
    subst e3
    exact kk q H1 a1 a2 a3
/-- an array of references -/
theorem Rk_anew {N idx : Nat} {x : Int32} {C : String} (t : Nat) (hfe : zfe M pc = some (.anewarray idx, 3, nx, tg, v)) (ht : ∀ dA : Nat → ClassId, (ztys dA)[t]? = some (dA t, .object C)) (hw : Cond.classLink M.2.1.cls idx C ∈ zT) (hov : ∀ U, zNf U → va_AO C U) (hx : ¬ x < 0) (hN : x.toNatClampNeg = N) (hb : Nat.ble N 60000000 = true) (hs : zsf L.length l st = true)
    (k : Rk M (nx, l, .ref L.length :: st, L ++ [.inl (t, N, .inr (.inr (.inr (.inr fun _ => none))))]) r LE) : Rk M (pc, l, .int x :: st, L) r LE := by
  have hb := Nat.le_of_ble_eq_true hb
  refine Rk_push (c := .inl (t, N, .inr (.inr (.inr (.inr fun _ => none))))) (st2 := [.int x]) hs (fun i k h => by cases h) ?_ k
  intro p l0 e R s0 m args below meth c0 H locs cells slots Q ls A dC dI dA ad hC hH hlv h1 h2 kk
  obtain ⟨hd, hnx, -⟩ := zD hC hfe
  subst hnx
  refine va_newq (C := C) hC.1 hC.2.1 hC.2.2.2.2.2.1 (hC.2.2.2.2.1 _ hw) (hov _ hC.2.2.2.2.2.2.2.2.2) hH.2.1 hH.1 hH.2.2.1 hH.2.2.2.1 hH.2.2.2.2.1 hx hN (by omega) h1 h2 hd (fun q cA H1 hK a1 a2 a3 => ?_)
  obtain ⟨-, -, -, -, -, e1⟩ := (hK.2 6 (cA, .object C) rfl).2
  obtain ⟨-, -, -, -, -, e2⟩ := (hH.2.1.2 t (dA t, .object C) (ht dA)).2
  have e3 : cA = dA t := Option.some.inj (e1.symm.trans e2)
  subst e3
  exact kk q H1 a1 a2 a3
end GRules
