section GRules2
variable {M M' : MD} {pc nx n tg : Nat} {v : Int32} {l l' : List (Option Value)} {st st' : List Value} {L L1 LE : List zc} {r r1 : Option Value}
theorem gws_set {dA : Nat → ClassId} {ad : Nat → Nat} {a : Nat} {c : zc} (ha : a < L.length) : zws ZG dA ad (L.set a c) = (zws ZG dA ad L).set a (ad a, zcc dA ad c) := by
  have h := zws_set (Z := ZG) (dA := dA) (ad := ad) (s := L) (s' := L.set a c) (a := a) (by show (L.set a c).length = L.length; simp) (fun b hb => by
    show gcel (L.set a c) b = gcel L b
    unfold gcel
    rw [List.getElem?_set_ne (fun q => hb q.symm)])
  have e : ZG.1 (L.set a c) a = c := gcel_lt (by rw [List.getElem?_set]; simp [ha])
  rw [e] at h
  exact h
theorem gslt_set {a : Nat} {c : zc} (h : gslots c = gslots (gcel L a)) (ha : a < L.length) : gslt (L.set a c) = gslt L := by
  unfold gslt
  rw [List.map_set, h]
  congr 1
  apply List.ext_getElem?
  intro k
  by_cases hk : k = a
  · subst hk
    rw [List.getElem?_set]
    simp only [if_true, List.length_map, ha, List.getElem?_map, gcel_some ha, Option.map_some]
  · rw [List.getElem?_set_ne (fun q => hk q.symm)]
/-- one cell written -/
theorem Rk_set {c : zc} {a : Nat} {st2 : List Value} (ha : a < L.length) (hc : gsc L.length c) (hsl : gslots c = gslots (gcel L a))
    (hx : ∀ (p : Program) (l0 : Launch) (e : Env) (R : Room) (s0 : State) (m : MethodId) (args : Array Value) (below : List Frame) (meth : Method) (c0 : Code) (H : Heap) (locs : List Loc) (cells slots : Nat) (Q : State → Prop) (ls : Array Slot) (A : Nat → Prop) (dC : Nat → ClassId) (dI : Nat → Nat → Nat) (dA : Nat → ClassId) (ad : Nat → Nat),
      ZC M p s0 m args meth c0 → ZH ZG dC dI dA ad A s0 H locs L → zlv ad ls M.2.2.2.1 l →
      (∀ (H' : Heap) (locs' : List Loc), va_P (dC, dI) vwCl ((zws ZG dA ad L).set a (ad a, zcc dA ad c)) H' → va_D A ((zws ZG dA ad L).set a (ad a, zcc dA ad c)) → va_S A s0.heap H' locs' → W p l0 e R s0 m args below meth c0 H' locs' cells slots Q (F0 m nx ls (st.map (ze ad)))) →
      W p l0 e R s0 m args below meth c0 H locs cells slots Q (F0 m pc ls (st2.map (ze ad))))
    (k : Rk M (nx, l, st, L.set a c) r LE) : Rk M (pc, l, st2, L) r LE := by
  intro g
  obtain ⟨kR, kE⟩ := k (GS_set g hc)
  refine ⟨Rn_gen (s' := L.set a c) (l' := l) (st' := st) (nx := nx) ⟨by show (L.set a c).length = L.length; simp, gslt_set hsl ha⟩ (fun p l0 e R s0 m args below meth c0 H locs cells slots Q ls A dC dI dA ad hC hH hlv w => ?_) kR, kE⟩
  refine hx p l0 e R s0 m args below meth c0 H locs cells slots Q ls A dC dI dA ad hC hH hlv (fun H' locs' h1 h2 h3 => w H' locs' ls ?_ hlv)
  rw [← gws_set ha] at h1 h2
  exact ⟨h1, hH.2.1, h2, h3, hH.2.2.2.2.1, fun k hk => hH.2.2.2.2.2 k (by have hk : (L.set a c).length ≤ k := hk; rw [List.length_set] at hk; exact hk)⟩
/-- a field of an object, in its constructor; final or not -/
theorem Rk_put {idx ci j pl a : Nat} {w : Value} {fs : List Value} (hfe : zfe M pc = some (.putfield idx, 3, nx, tg, v)) (hfr : zFR M.1 idx = some (ci, j, pl)) (hcell : L[a]? = some (.inr (ci, fs))) (hj : Nat.blt j fs.length = true)
    (hown : zcn ci = M.2.1.cls ∧ ((vwCl)[ci]?).map (fun q => (q.2.1 j).1) = some M.2.1.cls ∧ M.2.1.name = "<init>") (hfit : ∀ ad, narrow (ztyF ci j) (ze ad w) = ze ad w ∧ fits (ztyF ci j) (ze ad w) = true) (hsv : zsv L.length w = true)
    (k : Rk M (nx, l, st, L.set a (.inr (ci, fs.set j w))) r LE) : Rk M (pc, l, w :: .ref a :: st, L) r LE := by
  have ha : a < L.length := (List.getElem?_eq_some_iff.mp hcell).1
  have hjl : j < fs.length := Nat.le_of_ble_eq_true hj
  intro g
  have hsc : gsc L.length (.inr (ci, fs.set j w)) := by
    intro u hu
    rcases List.mem_or_eq_of_mem_set hu with h | h
    · exact (show gsc L.length (.inr (ci, fs)) from g _ (List.mem_of_getElem? hcell)) u h
    · rw [h]; exact hsv
  refine Rk_set (c := .inr (ci, fs.set j w)) ha hsc (by rw [gcel_lt hcell]; simp [gslots]) ?_ k g
  intro p l0 e R s0 m args below meth c0 H locs cells slots Q ls A dC dI dA ad hC hH hlv kk
  obtain ⟨hd, hnx, -⟩ := zD hC hfe
  obtain ⟨ho, C, T, N, hc, hk, hl1, hty⟩ := zFR_ok hfr
  have hat : (zws ZG dA ad L)[a]? = some (ad a, .inr (ci, fs.map (ze ad))) := by
    have : ZG.1 L a = .inr (ci, fs) := gcel_lt hcell
    rw [zws_at (show a < ZG.2.1 L from ha), this]; rfl
  have hdec : (T j).1 = M.2.1.cls := by
    have := hown.2.1
    rw [hc] at this
    exact Option.some.inj this
  obtain ⟨f1, f2⟩ := hfit ad
  have ee : (Sum.inr (ci, (fs.set j w).map (ze ad)) : va_E) = .inr (ci, (fs.map (ze ad)).set j (ze ad w)) := by rw [List.map_set]
  have kk2 : ∀ (H' : Heap) (locs' : List Loc), va_P (dC, dI) vwCl ((zws ZG dA ad L).set a (ad a, .inr (ci, (fs.map (ze ad)).set j (ze ad w)))) H' → va_D A ((zws ZG dA ad L).set a (ad a, .inr (ci, (fs.map (ze ad)).set j (ze ad w)))) → va_S A s0.heap H' locs' → W p l0 e R s0 m args below meth c0 H' locs' cells slots Q (F0 m (pc + 3) ls (st.map (ze ad))) := by
    intro H' locs' h1 h2 h3
    rw [← ee] at h1 h2
    rw [← hnx]
    exact kk H' locs' h1 h2 h3
  have hl2 := hC.2.2.2.2.1 _ hl1
  have hz : zcn M.1 = M.2.1.cls := hC.2.2.2.2.2.2.2.1.2 ho
  rw [hz] at hl2
  cases hfin : (T j).2.2.2 with
  | true => exact va_putF (v := ze ad w) (ty := ztyF ci j) hC.1 hC.2.1 hC.2.2.2.2.1 (zcl_in hc) (ztyF ci) (zcl_ty hc) (zcl_nm hc) hC.2.2.2.2.2.1 hH.2.1 hH.1 hH.2.2.1 hH.2.2.2.1 a hat hc j hk hl2 (fun _ q => q) hfin (hC.2.2.2.2.2.2.2.2.1.trans hown.2.2) hdec hty f1 f2 (by simpa using hjl) hd kk2
  | false => exact va_put (v := ze ad w) (ty := ztyF ci j) hC.1 hC.2.1 hC.2.2.2.2.1 (zcl_in hc) (ztyF ci) (zcl_ty hc) (zcl_nm hc) hC.2.2.2.2.2.1 hH.2.1 hH.1 hH.2.2.1 hH.2.2.2.1 a hat hc j hk hl2 (fun _ q => q) hfin hty f1 f2 (by simpa using hjl) hd kk2
/-- a reference into an array of references -/
theorem Rk_aast {t a b ci nn : Nat} {x : Int32} {g : Nat → Option Nat} {q : vw_C} {vs : List Value} (hfe : zfe M pc = some (.aastore, 1, nx, tg, v)) (hcell : L[a]? = some (.inl (t, nn, .inr (.inr (.inr (.inr g)))))) (hv : L[b]? = some (.inr (ci, vs))) (hq : (vwCl)[ci]? = some q) (ht : ∀ dA : Nat → ClassId, (ztys dA)[t]? = some (dA t, .object q.1)) (hin : vp_in x nn)
    (k : Rk M (nx, l, st, L.set a (.inl (t, nn, .inr (.inr (.inr (.inr (va_up g x.toNatClampNeg (some b)))))))) r LE) : Rk M (pc, l, .ref b :: .int x :: .ref a :: st, L) r LE := by
  have ha : a < L.length := (List.getElem?_eq_some_iff.mp hcell).1
  have hb : b < L.length := (List.getElem?_eq_some_iff.mp hv).1
  intro gs
  have hsc : gsc L.length (.inl (t, nn, .inr (.inr (.inr (.inr (va_up g x.toNatClampNeg (some b))))))) := by
    intro i k hk
    have hk : (if i = x.toNatClampNeg then some b else g i) = some k := hk
    split at hk
    · cases hk; exact hb
    · exact (show gsc L.length (.inl (t, nn, .inr (.inr (.inr (.inr g))))) from gs _ (List.mem_of_getElem? hcell)) i k hk
  refine Rk_set (c := .inl (t, nn, .inr (.inr (.inr (.inr (va_up g x.toNatClampNeg (some b))))))) ha hsc (by rw [gcel_lt hcell]; rfl) ?_ k gs
  intro p l0 e R s0 m args below meth c0 H locs cells slots Q ls A dC dI dA ad hC hH hlv kk
  obtain ⟨hd, hnx, -⟩ := zD hC hfe
  subst hnx
  have hat : (zws ZG dA ad L)[a]? = some (ad a, .inl (dA t, nn, .inr (.inr (.inr (.inr (fun i => (g i).map ad)))))) := by
    have : ZG.1 L a = _ := gcel_lt hcell
    rw [zws_at (show a < ZG.2.1 L from ha), this]; rfl
  have hbt : (zws ZG dA ad L)[b]? = some (ad b, .inr (ci, vs.map (ze ad))) := by
    have : ZG.1 L b = _ := gcel_lt hv
    rw [zws_at (show b < ZG.2.1 L from hb), this]; rfl
  have ee : (fun i => (va_up g x.toNatClampNeg (some b) i).map ad) = va_up (fun i => (g i).map ad) x.toNatClampNeg (some (ad b)) := by
    funext i
    unfold va_up
    split <;> rfl
  refine va_astq (r := q) hC.1 hC.2.1 hH.2.1 hH.1 hH.2.2.1 hH.2.2.2.1 a t b ci hat (ht dA) hbt hq hin hd (fun H1 locs1 h1 h2 h3 => ?_)
  rw [← ee] at h1 h2
  exact kk H1 locs1 h1 h2 h3
/-- Object's constructor -/
theorem Rk_obj {idx a : Nat} (hfe : zfe M pc = some (.invokespecial idx, 3, nx, tg, v)) (hw : Cond.methodLink M.2.1.cls idx Lib.objectInit ∈ zT ∧ Cond.instanceMethod Lib.objectInit ∈ zT ∧ Cond.code Lib.objectInit ⟨#[0xb1]⟩ 1 none ∈ zT) (hcr : zcm M 12 st = true)
    (k : Rk M (nx, l, st, L) r LE) : Rk M (pc, l, .ref a :: st, L) r LE := by
  intro g
  obtain ⟨⟨k1, k2⟩, kE⟩ := k g
  refine ⟨⟨k1, ?_⟩, kE⟩
  intro p l0 e R s0 m args below meth c H locs ls A dC dI dA ad ad0 nn k0 n0 hC hR hH hlv ha hk
  obtain ⟨hd, hnx, -⟩ := zD hC hfe
  unfold zcm at hcr
  rw [Bool.and_eq_true] at hcr
  have key := k2 p l0 e R s0 m args below meth c H locs ls A dC dI dA ad ad0 nn k0 n0 hC hR hH hlv ha hk
  subst hnx
  have h2 := Nat.le_of_ble_eq_true hcr.2
  refine W.objInit (g := F0 m pc ls (.ref (ad a) :: st.map (ze ad))) hC.1 hC.2.1 hC.2.2.2.2.2.1 (hC.2.2.2.2.1 _ hw.1) (hC.2.2.2.2.1 _ hw.2.1) (hC.2.2.2.2.1 _ hw.2.2) rfl (hlv.2.1.trans hC.2.2.1.symm) rfl hd (Nat.le_trans (Nat.le_of_ble_eq_true hcr.1) hR.1) ?_ key
  have e0 : 2 * (F0 m pc ls (.ref (ad a) :: st.map (ze ad))).monitorRoom + ((st.map (ze ad)).map fun v => v.category).sum + 12 = (st.map fun v => v.category).sum + 12 := by rw [zcat_sum]; simp [JFrame.monitorRoom]
  rw [e0]
  exact Nat.le_trans h2 hR.2.1
/-- a constructor, proved -/
def Ek (M : MD) (as : List Value) (L L1 : List zc) : Prop := GS L → Ev ZG M as L none L1 ∧ GS L1
theorem Ek_of {as : List Value} (hM : ZMo M) (hp : plainName M.2.1.cls = true) (hn : Nat.ble (zarg as).length M.2.2.2.1 = true) (h : Rk M (0, zargs M.2.2.2.1 as, [], L) none L1) : Ek M as L L1 := fun g => ⟨Ev_of hM hp hn (h g).1, (h g).2⟩
/-- what the tables say of a constructor that is called; the link plain, or between nest mates -/
def ZMi (M : MD) (n : Nat) : Prop := ZMo M ∧ plainName M.2.1.cls = true ∧ ZMs M n ∧ Cond.instanceMethod M.2.1 ∈ zT ∧ M.2.1.name = "<init>" ∧ M.2.2.2.2.1 = none
theorem zgoodI (hM : ZMs M' n) : GoodIn zT (Cond.code M'.2.1 M'.2.2.1 M'.2.2.2.1 M'.2.2.2.2.1 :: zT) := by
  intro w hw
  have : w ∈ zT := by
    rcases List.mem_cons.mp hw with rfl | h
    · exact hM.1
    · exact h
  exact ⟨this, zT_good this⟩
theorem Rk_init (hM : ZMi M' n) {idx b : Nat} {as stk : List Value} (ev : Ek M' (.ref b :: as) L L1) (hfe : zfe M pc = some (.invokespecial idx, 3, nx, tg, v)) (hlk : Cond.methodLink M.2.1.cls idx M'.2.1 ∈ zT ∨ ∃ host, (M.2.1.cls, idx, M'.2.1, host) ∈ zNests)
    (hst : stk = as.reverse ++ .ref b :: st) (hn : as.length = n) (hcr : zcr M M' st = true) (hs : zsf L.length l st = true)
    (k : Rk M (nx, l, st, L1) r LE) : Rk M (pc, l, stk, L) r LE := by
  subst hst
  intro g
  obtain ⟨⟨⟨v1, v1'⟩, v2⟩, g1⟩ := ev g
  obtain ⟨⟨⟨k1, k1'⟩, k2⟩, kE⟩ := k g1
  dsimp only at k1 k1' k2
  refine ⟨⟨⟨Nat.le_trans v1 k1, Nat.le_trans v1' k1'⟩, ?_⟩, kE⟩
  intro p l0 e R s0 m args below meth c H locs ls A dC dI dA ad ad0 nn k0 n0 hC hR hH hlv ha hk
  dsimp only at hH hlv ha hk ⊢
  obtain ⟨hd, hnx, -⟩ := zD hC hfe
  unfold zcr at hcr
  simp only [Bool.and_eq_true] at hcr
  obtain ⟨⟨hr1, hr2⟩, hr3⟩ := hcr
  have hr1 := Nat.le_of_ble_eq_true hr1
  have hr2 := Nat.le_of_ble_eq_true hr2
  have hr3 := Nat.le_of_ble_eq_true hr3
  obtain ⟨hM1, hM2, hM3, hM4, hM5, hM6⟩ := hM
  have hv2 := v2 l0 dC dI dA ad H.size
  rw [hM6] at hv2
  have hgood := zgoodI hM3
  rw [hM6] at hgood
  have hini := hC.2.2.2.2.1 _ hM3.2.1
  have hins := hC.2.2.2.2.1 _ hM4
  have hrun : va_Run p l0 e R s0 m args below meth c H locs (ZG.2.1 L - k0) (ZG.2.2.1 L - n0) (ZG.2.1 L1 - ZG.2.1 L) (ZG.2.2.1 L1 - ZG.2.2.1 L) (F0 m pc ls (((as.reverse ++ Value.ref b :: st)).map (ze ad))) (st.map (ze ad)) (zQ ZG dC dI dA ad (ZG.2.1 L) (va_A (zws ZG dA ad L) H.size) none L1 (Value.ref (ad b) :: as.map (ze ad)).toArray) (va_A (zws ZG dA ad L) H.size) := by
    have hpre : PreS s0 H (va_Pc ((Value.ref b :: as).map (ze ad)) (fun U => U.heap.size = H.size ∧ va_P (dC, dI) vwCl (zws ZG dA ad L) U.heap ∧ va_K (dC, dI) vwCl (ztys dA) U ∧ va_D (fun _ => True) (zws ZG dA ad L) ∧ (∀ k, ZG.2.1 L ≤ k → ad k = 0) ∧ zNf U)) (Value.ref (ad b) :: as.map (ze ad)) :=
      ⟨zPc_blind, fun U hU hW => ⟨rfl, by rw [hU], by rw [hU]; exact hH.1, va_K.moved hW.alike hH.2.1, hH.2.2.1.weaken (fun _ _ _ _ => trivial), hH.2.2.2.2.2, zNf_warm hW hC.2.2.2.2.2.2.2.2.2⟩⟩
    rcases hlk with hlk | ⟨host, hlk⟩
    · exact va_runI (b := ad b) (As := as.map (ze ad)) (rest := st.map (ze ad)) ⟨hC.1, hC.2.1, hC.2.2.1, hC.2.2.2.2.2.1, hC.2.2.2.2.1⟩ hv2 (cwI n hC.2.2.2.2.1 hgood rfl rfl rfl hini (hC.2.2.2.2.1 _ hlk) hins hM5 hM3.2.2 ⟨Nat.le_trans hr1 hR.1, Nat.le_trans hr2 hR.2.1⟩) hpre rfl (by simpa using hn) hlv.2.1 (by simp [ze]) (lv_room (by rw [zcat_sum]; exact hr3)) hd ⟨Nat.le_trans (by omega) hR.2.2.1, Nat.le_trans (by omega) hR.2.2.2⟩
    · exact va_runIN (b := ad b) (As := as.map (ze ad)) (rest := st.map (ze ad)) ⟨hC.1, hC.2.1, hC.2.2.1, hC.2.2.2.2.2.1, hC.2.2.2.2.1⟩ hv2 ⟨va_cnB n hC.2.2.2.2.1 hgood rfl rfl rfl (hC.2.2.2.2.2.2.2.2.2.1 _ hlk) hini hM3.2.2 ⟨Nat.le_trans hr1 hR.1, Nat.le_trans hr2 hR.2.1⟩, hM5, hins⟩ hpre rfl (by simpa using hn) hlv.2.1 (by simp [ze]) (lv_room (by rw [zcat_sum]; exact hr3)) hd ⟨Nat.le_trans (by omega) hR.2.2.1, Nat.le_trans (by omega) hR.2.2.2⟩
  refine zback hH hrun (fun H1 locs1 ad' hag hH1 => ?_)
  have e1 : ZG.2.1 L - k0 + (ZG.2.1 L1 - ZG.2.1 L) = ZG.2.1 L1 - k0 := by omega
  have e2 : ZG.2.2.1 L - n0 + (ZG.2.2.1 L1 - ZG.2.2.1 L) = ZG.2.2.1 L1 - n0 := by omega
  have key := k2 p l0 e R s0 m args below meth c H1 locs1 ls A dC dI dA ad' ad0 nn k0 n0 hC hR hH1 (zlv_ad hlv hag hs) ⟨Nat.le_trans ha.1 v1, fun k hk => by rw [hag k (Nat.lt_of_lt_of_le hk ha.1), ha.2 k hk]⟩ ⟨Nat.le_trans hk.1 v1, Nat.le_trans hk.2 v1'⟩
  rw [e1, e2, zst_ad (l := l) hag hs, ← hnx]
  exact key
end GRules2
