section ZInv
variable {S : Type} {Z : ZW S} {M M' : MD} {pc nx n tg : Nat} {i : Instr} {v : Int32} {l l' : List (Option Value)} {st st' : List Value} {s s' sE s1 : S} {r r1 : Option Value}
/-- what the tables say of a method that is called; n: how many arguments its descriptor has -/
def ZMs (M : MD) (n : Nat) : Prop := Cond.code M.2.1 M.2.2.1 M.2.2.2.1 M.2.2.2.2.1 ∈ zT ∧ Cond.initialized M.2.1.cls ∈ zT ∧ (M.2.1.cls ≠ "java/lang/invoke/MethodHandle" ∧ M.2.1.cls ≠ "java/lang/invoke/VarHandle" ∧ (parseMethodDescriptor M.2.1.desc).map (fun d => d.parameters.length) = some n)
def ZMv (M : MD) (n : Nat) : Prop := ZMs M n ∧ Cond.instanceMethod M.2.1 ∈ zT ∧ Cond.selects M.2.1.cls M.2.1 M.2.1 ∈ zT ∧ M.1 < 13 ∧ zcn M.1 = M.2.1.cls
def ZMt (M : MD) (n : Nat) : Prop := ZMs M n ∧ Cond.static M.2.1 ∈ zT
/-- room for a call, what stands below it on the stack -/
def zcr (M M' : MD) (st : List Value) : Bool := Nat.ble (M'.2.2.2.2.2.1.1 + 1) M.2.2.2.2.2.1.1 && Nat.ble (8 + (M'.2.2.2.1 + 11) + M'.2.2.2.2.2.1.2.1) M.2.2.2.2.2.1.2.1 && Nat.ble ((st.map fun v => v.category).sum) 8
/-- the receiver is of the callee's class -/
def zrc (Z : ZW S) (M' : MD) (s : S) (b : Nat) : Bool := match Z.1 s b with
  | .inr (ci, _) => Nat.beq ci M'.1 && Nat.blt b (Z.2.1 s)
  | _ => false
/-- references below m only -/
def zsv (m : Nat) (v : Value) : Bool := match v with
  | .ref k => Nat.blt k m
  | _ => true
def zsf (m : Nat) (l : List (Option Value)) (st : List Value) : Bool := (l.all fun o => match o with
  | some v => zsv m v
  | none => true) && st.all (zsv m)
theorem zsv_ok {m : Nat} {v : Value} {ad ad' : Nat → Nat} (h : zsv m v = true) (ha : ∀ k, k < m → ad' k = ad k) : ze ad' v = ze ad v := by
  cases v with
  | ref k => show Value.ref (ad' k) = Value.ref (ad k); rw [ha k (Nat.le_of_ble_eq_true h)]
  | _ => rfl
theorem zcat_sum (ad : Nat → Nat) (st : List Value) : ((st.map (ze ad)).map fun v => v.category).sum = (st.map fun v => v.category).sum := by
  rw [List.map_map]
  congr 1
  apply List.map_congr_left
  intro v _
  exact ze_cat ad v
theorem zPc_blind {as : List Value} {dC : Nat → ClassId} {dI : Nat → Nat → Nat} {dA : Nat → ClassId} {ad : Nat → Nat} {sz : Nat} : FrameBlind (va_Pc (as.map (ze ad)) (fun U => U.heap.size = sz ∧ va_P (dC, dI) vwCl (zws Z dA ad s) U.heap ∧ va_K (dC, dI) vwCl (ztys dA) U ∧ va_D (fun _ => True) (zws Z dA ad s) ∧ (∀ k, Z.2.1 s ≤ k → ad k = 0) ∧ zNf U)) :=
  fun a U g mk q => by
    obtain ⟨q0, q1, qP, qK, qD, qE, qF⟩ := q
    exact ⟨q0, q1, qP, va_K.moved (u := U) (U := U.calling g mk a) (Vm.Alike.refl U.vm) qK, qD, qE, zNf_same (u := U) (U := U.calling g mk a) rfl qF⟩
/-- behind a call -/
theorem zback {p : Program} {l0 : Launch} {e : Env} {R : Room} {s0 : State} {m : MethodId} {args a : Array Value} {below : List Frame} {meth : Method} {c : Code} {H : Heap} {locs : List Loc} {cells slots mc ms : Nat} {Q : State → Prop} {ls : Array Slot} {A : Nat → Prop} {dC : Nat → ClassId} {dI : Nat → Nat → Nat} {dA : Nat → ClassId} {ad : Nat → Nat} {st0 rest : List Value}
    (hH : ZH Z dC dI dA ad A s0 H locs s)
    (hr : va_Run p l0 e R s0 m args below meth c H locs cells slots mc ms (F0 m pc ls st0) rest (zQ Z dC dI dA ad (Z.2.1 s) (va_A (zws Z dA ad s) H.size) r1 s1 a) (va_A (zws Z dA ad s) H.size))
    (kk : ∀ (H1 : Heap) (locs1 : List Loc) (ad' : Nat → Nat), (∀ k, k < Z.2.1 s → ad' k = ad k) → ZH Z dC dI dA ad' A s0 H1 locs1 s1 → W p l0 e R s0 m args below meth c H1 locs1 (cells + mc) (slots + ms) Q (F0 m (pc + 3) ls ((r1.map (ze ad')).toList ++ rest))) : W p l0 e R s0 m args below meth c H locs cells slots Q (F0 m pc ls st0) := by
  obtain ⟨hP, hK, hD, hS, hA, had⟩ := hH
  have hsub : ∀ q, va_A (zws Z dA ad s) H.size q → A q := by
    intro q hq
    rcases hq with ⟨k, e, hk⟩ | hq
    · exact hD.2 k _ hk
    · exact hA q (Nat.le_trans hS.1 hq)
  intro T hT X
  obtain ⟨v, st₀, t, T', L, h0, X', hL, e1, e2, ⟨⟨ad', ha1, ha2, hv, hP1, hK1, hD1⟩, hz, hk⟩, stp⟩ := hr T hT X
  cases hv
  rw [h0] at hz hk
  have hS' : va_S A s0.heap T'.heap (locs ++ L) := ⟨Nat.le_trans hS.1 (by rw [e1]; exact hz), fun q h1 h2 => by
      rw [e1, hk q (Nat.lt_of_lt_of_le h1 hS.1) (fun z => h2 (hsub q z))]; exact hS.2.1 q h1 h2, fun q hq => by
      rcases List.mem_append.mp hq with h | h
      · exact hS.2.2 q h
      · exact hsub _ (hL q h)⟩
  obtain ⟨t2, a1, b1⟩ := kk T'.heap (locs ++ L) ad' ha1 ⟨by rw [e1]; exact hP1, hK, hD1.weaken (fun _ _ _ h => hsub _ h), hS', hA, ha2⟩ T' rfl X'
  exact ⟨t2, stp t2 a1, b1⟩
theorem zlv_ad {ad ad' : Nat → Nat} {ls : Array Slot} {nL m : Nat} (h : zlv ad ls nL l) (ha : ∀ k, k < m → ad' k = ad k) (hs : zsf m l st = true) : zlv ad' ls nL l := by
  refine ⟨h.1, h.2.1, h.2.2.1, fun i v hi => ?_⟩
  rw [h.2.2.2 i v hi]
  unfold zsf at hs
  rw [Bool.and_eq_true] at hs
  have := List.all_eq_true.mp hs.1 (some v) (List.mem_of_getElem? hi)
  rw [zsv_ok this ha]
theorem zst_ad {ad ad' : Nat → Nat} {m : Nat} (ha : ∀ k, k < m → ad' k = ad k) (hs : zsf m l st = true) : st.map (ze ad) = st.map (ze ad') := by
  unfold zsf at hs
  rw [Bool.and_eq_true] at hs
  apply List.map_congr_left
  intro v hv
  exact (zsv_ok (List.all_eq_true.mp hs.2 v hv) ha).symm
theorem zad_eq {ad ad' : Nat → Nat} {m : Nat} (ha : ∀ k, k < m → ad' k = ad k) (h1 : ∀ k, m ≤ k → ad' k = 0) (h2 : ∀ k, m ≤ k → ad k = 0) : ad' = ad := by
  funext k
  by_cases h : k < m
  · exact ha k h
  · rw [h1 k (Nat.le_of_not_lt h), h2 k (Nat.le_of_not_lt h)]
theorem zgoodW {own : String} {idx : Nat} (hl : Cond.methodLink own idx M'.2.1 ∈ zT) (hM : ZMv M' n) : GoodIn zT (wsV own idx M'.2.1.cls M'.2.1 (Cond.code M'.2.1 M'.2.2.1 M'.2.2.2.1 M'.2.2.2.2.1 :: zT)) := by
  intro w hw
  have : w ∈ zT := by
    unfold wsV at hw
    rcases List.mem_append.mp hw with h | h
    · simp only [List.mem_cons, List.not_mem_nil, or_false] at h
      rcases h with rfl | rfl | rfl | rfl
      · exact hl
      · exact hM.2.1
      · exact hM.2.2.1
      · exact hM.1.2.1
    · rcases List.mem_cons.mp h with rfl | h
      · exact hM.1.1
      · exact h
  exact ⟨this, zT_good this⟩
theorem zgoodS {own : String} {idx : Nat} (hl : Cond.methodLink own idx M'.2.1 ∈ zT) (hM : ZMt M' n) : GoodIn zT (va_wsS own idx M'.2.1 (Cond.code M'.2.1 M'.2.2.1 M'.2.2.2.1 M'.2.2.2.2.1 :: zT)) := by
  intro w hw
  have : w ∈ zT := by
    unfold va_wsS at hw
    rcases List.mem_append.mp hw with h | h
    · simp only [List.mem_cons, List.not_mem_nil, or_false] at h
      rcases h with rfl | rfl | rfl
      · exact hl
      · exact hM.2
      · exact hM.1.2.1
    · rcases List.mem_cons.mp h with rfl | h
      · exact hM.1.1
      · exact h
  exact ⟨this, zT_good this⟩
/-- a call of a method of an object; 'hg': the world keeps its number of cells, or what the frame refers to is old -/
theorem Rn_callV {idx b : Nat} {as stk : List Value} (hfe : zfe M pc = some (.invokevirtual idx, 3, nx, tg, v)) (hlk : Cond.methodLink M.2.1.cls idx M'.2.1 ∈ zT) (hM : ZMv M' n) (ev : Ev Z M' (.ref b :: as) s r1 s1)
    (hst : stk = as.reverse ++ .ref b :: st) (hn : as.length = n) (hcr : zcr M M' st = true) (hrc : zrc Z M' s b = true) (hg : Z.2.1 s1 = Z.2.1 s ∨ zsf (Z.2.1 s) l st = true)
    (k : Rn Z M (nx, l, r1.toList ++ st, s1) r sE) : Rn Z M (pc, l, stk, s) r sE := by
  subst hst
  obtain ⟨⟨k1, k1'⟩, k2⟩ := k
  obtain ⟨⟨v1, v1'⟩, v2⟩ := ev
  dsimp only at k1 k1' k2
  refine ⟨⟨Nat.le_trans v1 k1, Nat.le_trans v1' k1'⟩, ?_⟩
  intro p l0 e R s0 m args below meth c H locs ls A dC dI dA ad ad0 nn k0 n0 hC hR hH hlv ha hk
  dsimp only at hH hlv ha hk ⊢
  obtain ⟨hd, hnx, -⟩ := zD hC hfe
  unfold zcr at hcr
  simp only [Bool.and_eq_true] at hcr
  obtain ⟨⟨hr1, hr2⟩, hr3⟩ := hcr
  have hr1 := Nat.le_of_ble_eq_true hr1
  have hr2 := Nat.le_of_ble_eq_true hr2
  have hr3 := Nat.le_of_ble_eq_true hr3
  obtain ⟨hb1, ci, fs, hb2, hb3⟩ : b < Z.2.1 s ∧ ∃ ci fs, Z.1 s b = .inr (ci, fs) ∧ ci = M'.1 := by
    unfold zrc at hrc
    split at hrc
    · rename_i ci fs hc
      rw [Bool.and_eq_true] at hrc
      exact ⟨Nat.le_of_ble_eq_true hrc.2, ci, fs, hc, Nat.eq_of_beq_eq_true hrc.1⟩
    · cases hrc
  have hat : (zws Z dA ad s)[b]? = some (ad b, .inr (ci, fs.map (ze ad))) := by rw [zws_at hb1, hb2]; rfl
  obtain ⟨q, hq, hqn⟩ : ∃ q, (vwCl)[ci]? = some q ∧ q.1 = M'.2.1.cls := by
    have h1 := hM.2.2.2.2
    have h2 := hM.2.2.2.1
    rw [← hb3] at h1 h2
    unfold zcn at h1
    cases hv : (vwCl)[ci]? with
    | none =>
      rw [List.getElem?_eq_none_iff] at hv
      exact absurd h2 (Nat.not_lt.mpr hv)
    | some q => rw [hv] at h1; exact ⟨q, rfl, h1⟩
  have hrecv : ∃ cell : Cell, H[ad b]? = some cell ∧ cell.vm.isStatics = false ∧ s0.vm.findClass M'.2.1.cls = some cell.cls := by
    rw [← hqn]
    exact va_recv hH.2.1 hH.1 hq hat
  have hrun := va_runV (b := ad b) (As := as.map (ze ad)) (rest := st.map (ze ad)) (cells := Z.2.1 s - k0) (slots := Z.2.2.1 s - n0) (locs := locs) (g := F0 m pc ls (((as.reverse ++ Value.ref b :: st)).map (ze ad))) (e := e) (below := below) (meth := meth) (R := R) ⟨hC.1, hC.2.1, hC.2.2.1, hC.2.2.2.2.2.1, hC.2.2.2.2.1⟩ (v2 l0 dC dI dA ad H.size)
    (cwV n hC.2.2.2.2.1 (zgoodW hlk hM) rfl rfl rfl ⟨rfl, hM.1.2.2⟩ ⟨Nat.le_trans hr1 hR.1, Nat.le_trans hr2 hR.2.1⟩)
    ⟨zPc_blind, hrecv, fun U hU hW => ⟨rfl, by rw [hU], by rw [hU]; exact hH.1, va_K.moved hW.alike hH.2.1, hH.2.2.1.weaken (fun _ _ _ _ => trivial), hH.2.2.2.2.2, zNf_warm hW hC.2.2.2.2.2.2.2.2.2⟩⟩ rfl (by simpa using hn) hlv.2.1 (by simp [ze]) (lv_room (by rw [zcat_sum]; exact hr3)) hd
    ⟨Nat.le_trans (by omega) hR.2.2.1, Nat.le_trans (by omega) hR.2.2.2⟩
  refine zback hH hrun (fun H1 locs1 ad' hag hH1 => ?_)
  have e1 : Z.2.1 s - k0 + (Z.2.1 s1 - Z.2.1 s) = Z.2.1 s1 - k0 := by omega
  have e2 : Z.2.2.1 s - n0 + (Z.2.2.1 s1 - Z.2.2.1 s) = Z.2.2.1 s1 - n0 := by omega
  have hl2 : zlv ad' ls M.2.2.2.1 l ∧ st.map (ze ad) = st.map (ze ad') := by
    rcases hg with hg | hg
    · have : ad' = ad := zad_eq hag (fun k hk => hH1.2.2.2.2.2 k (by rw [hg]; exact hk)) hH.2.2.2.2.2
      rw [this]
      exact ⟨hlv, rfl⟩
    · exact ⟨zlv_ad hlv hag hg, zst_ad hag hg⟩
  have key := k2 p l0 e R s0 m args below meth c H1 locs1 ls A dC dI dA ad' ad0 nn k0 n0 hC hR hH1 hl2.1 ⟨Nat.le_trans ha.1 v1, fun k hk => by rw [hag k (Nat.lt_of_lt_of_le hk ha.1), ha.2 k hk]⟩ ⟨Nat.le_trans hk.1 v1, Nat.le_trans hk.2 v1'⟩
  rw [e1, e2, hl2.2, ← hnx]
  have e3 : (r1.toList ++ st).map (ze ad') = (r1.map (ze ad')).toList ++ st.map (ze ad') := by cases r1 <;> simp
  rw [← e3]
  exact key
theorem Rn_callS {idx : Nat} {as stk : List Value} (hfe : zfe M pc = some (.invokestatic idx, 3, nx, tg, v)) (hlk : Cond.methodLink M.2.1.cls idx M'.2.1 ∈ zT) (hM : ZMt M' n) (ev : Ev Z M' as s r1 s1)
    (hst : stk = as.reverse ++ st) (hn : as.length = n) (hcr : zcr M M' st = true) (hg : Z.2.1 s1 = Z.2.1 s ∨ zsf (Z.2.1 s) l st = true)
    (k : Rn Z M (nx, l, r1.toList ++ st, s1) r sE) : Rn Z M (pc, l, stk, s) r sE := by
  subst hst
  obtain ⟨⟨k1, k1'⟩, k2⟩ := k
  obtain ⟨⟨v1, v1'⟩, v2⟩ := ev
  dsimp only at k1 k1' k2
  refine ⟨⟨Nat.le_trans v1 k1, Nat.le_trans v1' k1'⟩, ?_⟩
  intro p l0 e R s0 m args below meth c H locs ls A dC dI dA ad ad0 nn k0 n0 hC hR hH hlv ha hk
  dsimp only at hH hlv ha hk ⊢
  obtain ⟨hd, hnx, -⟩ := zD hC hfe
  unfold zcr at hcr
  simp only [Bool.and_eq_true] at hcr
  obtain ⟨⟨hr1, hr2⟩, hr3⟩ := hcr
  have hr1 := Nat.le_of_ble_eq_true hr1
  have hr2 := Nat.le_of_ble_eq_true hr2
  have hr3 := Nat.le_of_ble_eq_true hr3
  have hrun := va_runS (As := as.map (ze ad)) (rest := st.map (ze ad)) (H := H) (cells := Z.2.1 s - k0) (slots := Z.2.2.1 s - n0) (locs := locs) (g := F0 m pc ls (((as.reverse ++ st)).map (ze ad))) (e := e) (below := below) (meth := meth) (R := R) ⟨hC.1, hC.2.1, hC.2.2.1, hC.2.2.2.2.2.1, hC.2.2.2.2.1⟩ (v2 l0 dC dI dA ad H.size)
    (va_cwS n hC.2.2.2.2.1 (zgoodS hlk hM) rfl rfl rfl hM.1.2.2 ⟨Nat.le_trans hr1 hR.1, Nat.le_trans hr2 hR.2.1⟩)
    ⟨zPc_blind, fun U hU hW => ⟨rfl, by rw [hU], by rw [hU]; exact hH.1, va_K.moved hW.alike hH.2.1, hH.2.2.1.weaken (fun _ _ _ _ => trivial), hH.2.2.2.2.2, zNf_warm hW hC.2.2.2.2.2.2.2.2.2⟩⟩ rfl (by simpa using hn) hlv.2.1 (by simp) (lv_room (by rw [zcat_sum]; exact hr3)) hd
    ⟨Nat.le_trans (by omega) hR.2.2.1, Nat.le_trans (by omega) hR.2.2.2⟩
  refine zback hH hrun (fun H1 locs1 ad' hag hH1 => ?_)
  have e1 : Z.2.1 s - k0 + (Z.2.1 s1 - Z.2.1 s) = Z.2.1 s1 - k0 := by omega
  have e2 : Z.2.2.1 s - n0 + (Z.2.2.1 s1 - Z.2.2.1 s) = Z.2.2.1 s1 - n0 := by omega
  have hl2 : zlv ad' ls M.2.2.2.1 l ∧ st.map (ze ad) = st.map (ze ad') := by
    rcases hg with hg | hg
    · have : ad' = ad := zad_eq hag (fun k hk => hH1.2.2.2.2.2 k (by rw [hg]; exact hk)) hH.2.2.2.2.2
      rw [this]
      exact ⟨hlv, rfl⟩
    · exact ⟨zlv_ad hlv hag hg, zst_ad hag hg⟩
  have key := k2 p l0 e R s0 m args below meth c H1 locs1 ls A dC dI dA ad' ad0 nn k0 n0 hC hR hH1 hl2.1 ⟨Nat.le_trans ha.1 v1, fun k hk => by rw [hag k (Nat.lt_of_lt_of_le hk ha.1), ha.2 k hk]⟩ ⟨Nat.le_trans hk.1 v1, Nat.le_trans hk.2 v1'⟩
  rw [e1, e2, hl2.2, ← hnx]
  have e3 : (r1.toList ++ st).map (ze ad') = (r1.map (ze ad')).toList ++ st.map (ze ad') := by cases r1 <;> simp
  rw [← e3]
  exact key
end ZInv
