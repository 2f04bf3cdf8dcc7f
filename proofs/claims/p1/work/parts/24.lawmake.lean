section LawMake
variable {p : Program} {l0 : Launch} {e : Env} {s : State} {m : MethodId} {below : List Frame} {meth : Method} {c : Code} {b L : Nat} {xs : Nat → Int32} {H : Heap} {locs : List Loc} {cells slots : Nat} {Q : State → Prop}
/-- an object is made, its constructor run, its address kept in a local -/
theorem LW_make {dC : Nat → ClassId} {dI : Nat → Nat → Nat} {dA : Nat → ClassId} {wo : va_W} {M : MD} {ci N idx idx2 pc n1 n2 n3 n4 t1 t2 t3 t4 : Nat} {v1 v2 v3 v4 : Int32} {j : Fin 4} {C : String} {T : u_T} {L1 : List zc} {l : List (Option Value)}
    (C0 : lw_At p s m meth c b L xs) (hN : zNf s) (hK : va_K (dC, dI) vwCl (ztys dA) s) (hPo : va_P (dC, dI) vwCl wo H) (hDo : va_D (A0 s) wo) (hS : va_S (A0 s) s.heap H locs)
    (hM : ZMi M 0) (ek : Ek M [.ref 0] [.inr (ci, gdef ci N)] L1) (hc : (vwCl)[ci]? = some (C, T, N)) (hw : Cond.classLink R_law idx C ∈ zT ∧ Cond.instantiable C N ∈ zT ∧ Cond.initialized C ∈ zT) (hlk : Cond.methodLink R_law idx2 M.2.1 ∈ zT)
    (f1 : zfe mL_law pc = some (.new idx, 3, n1, t1, v1)) (f2 : zfe mL_law n1 = some (.dup, 1, n2, t2, v2)) (f3 : zfe mL_law n2 = some (.invokespecial idx2, 3, n3, t3, v3)) (f4 : zfe mL_law n3 = some (.astore_n j, 1, n4, t4, v4))
    (hj : Nat.blt j.val l.length = true) (hcr : zcr mL_law M [.ref 0] = true) (hc1 : cells + 1 + (L1.length - 1) ≤ 600002) (hs1 : slots + N + (gslt L1 - N) ≤ 7302231)
    (k : ∀ (H1 : Heap) (locs1 : List Loc) (ad : Nat → Nat), ZH ZG dC dI dA ad (A0 s) s H1 locs1 L1 → va_P (dC, dI) vwCl wo H1 → wap (zws ZG dA ad L1) wo → LW p l0 e s m b below meth c H1 locs1 (cells + 1 + (L1.length - 1)) (slots + N + (gslt L1 - N)) Q (n4, zst1 l j.val (.ref (ad 0)), [])) : LW p l0 e s m b below meth c H locs cells slots Q (pc, l, []) := by
  have hx := C0.1
  have hb := C0.2.1
  have hml := C0.2.2.2.1
  have hown := C0.2.2.2.2.1
  have hts := lts C0
  obtain ⟨d1, rfl, -⟩ := lD f1
  obtain ⟨d2, rfl, -⟩ := lD f2
  obtain ⟨d3, rfl, -⟩ := lD f3
  obtain ⟨d4, rfl, -⟩ := lD f4
  intro ls hl
  dsimp only at hl ⊢
  have hfs : ∀ i, i < N → defaultValue (ztyF ci i) = vp_V (gdef ci N) i := fun i hi => by simp [vp_V, gdef, hi]
  refine va_new (fs := gdef ci N) hx hb hts (zcl_in hc) (ztyF ci) (zcl_ty hc) hown (hts _ hw.1) (hts _ hw.2.1) (hts _ hw.2.2) hK hPo hDo hS (fun _ h => h) hc hfs (show cells + 1 ≤ 600002 by omega) (show slots + N ≤ 7302231 by omega) d1 (fun q H1 a1 a2 a3 => ?_)
  refine lv_dup hx hb d2 rfl ?_
  -- the world of one object
  have hP1 : va_P (dC, dI) vwCl [(q, .inr (ci, gdef ci N))] H1 := fun k x hk => by
    have hz : k < 1 := (List.getElem?_eq_some_iff.mp hk).1
    have : k = 0 := by omega
    subst this
    exact a1 wo.length x (by rw [List.getElem?_append_right (Nat.le_refl _), Nat.sub_self]; exact hk)
  have hPo1 : va_P (dC, dI) vwCl wo H1 := fun k x hk => a1 k x (by rw [List.getElem?_append_left (List.getElem?_eq_some_iff.mp hk).1]; exact hk)
  have hq : A0 s q := a2.2 wo.length (q, .inr (ci, gdef ci N)) (by rw [List.getElem?_append_right (Nat.le_refl _), Nat.sub_self]; rfl)
  have hD1 : va_D (A0 s) [(q, .inr (ci, gdef ci N))] := ⟨fun i j p1 p2 h1 h2 _ => by
      have z1 : i < 1 := (List.getElem?_eq_some_iff.mp h1).1
      have z2 : j < 1 := (List.getElem?_eq_some_iff.mp h2).1
      omega, fun k x hk => by
      have hz : k < 1 := (List.getElem?_eq_some_iff.mp hk).1
      have : k = 0 := by omega
      subst this
      cases hk
      exact hq⟩
  have hap : wap [(q, .inr (ci, gdef ci N))] wo := by
    intro p1 hp1 p2 hp2 ee
    rw [List.mem_singleton] at hp1
    subst hp1
    obtain ⟨k2, hk2⟩ := List.getElem?_of_mem hp2
    have hl2 := (List.getElem?_eq_some_iff.mp hk2).1
    have := a2.1 wo.length k2 (q, .inr (ci, gdef ci N)) p2 (by rw [List.getElem?_append_right (Nat.le_refl _), Nat.sub_self]; rfl) (by rw [List.getElem?_append_left hl2]; exact hk2) ee
    omega
  have ews : zws ZG dA (fun k => if k = 0 then q else 0) [.inr (ci, gdef ci N)] = [(q, .inr (ci, gdef ci N))] := by
    show [(q, (Sum.inr (ci, (gdef ci N).map (ze _)) : va_E))] = _
    rw [gdef_ze]
  have hH : ZH ZG dC dI dA (fun k => if k = 0 then q else 0) (A0 s) s H1 locs [.inr (ci, gdef ci N)] := ⟨by rw [ews]; exact hP1, hK, by rw [ews]; exact hD1, a3, fun _ h => h, fun k hk => if_neg (fun z => by subst z; exact absurd (show 1 ≤ 0 from hk) (by omega))⟩
  have hGS : GS [.inr (ci, gdef ci N)] := fun x hx2 => by
    rw [List.mem_singleton] at hx2
    subst hx2
    exact gdef_sv _ ci N
  obtain ⟨ev, hGE⟩ := ek hGS
  obtain ⟨hM1, hM2, hM3, hM4, hM5, hM6⟩ := hM
  have hv2 := ev.2 l0 dC dI dA (fun k => if k = 0 then q else 0) H1.size
  rw [hM6] at hv2
  have hgood := zgoodI hM3
  rw [hM6] at hgood
  unfold zcr at hcr
  simp only [Bool.and_eq_true] at hcr
  obtain ⟨⟨hr1, hr2⟩, -⟩ := hcr
  have hr1 : M.2.2.2.2.2.1.1 + 1 ≤ 12 := Nat.le_of_ble_eq_true hr1
  have hr2 : 8 + (M.2.2.2.1 + 11) + M.2.2.2.2.2.1.2.1 ≤ 466 := Nat.le_of_ble_eq_true hr2
  have hgN : gslt [.inr (ci, gdef ci N)] = N := by simp [gslt, gslots, gdef]
  have hrun := va_runI (b := q) (As := []) (rest := [.ref q]) (H := H1) (cells := cells + 1) (slots := slots + N) (locs := locs) (g := F0 m (pc + 3 + 1) ls [.ref q, .ref q]) (e := e) (below := below) (meth := meth) (R := room_1) ⟨hx, hb, hml, hown, hts⟩ hv2
    (cwI 0 hts hgood rfl rfl rfl (hts _ hM3.2.1) (hts _ hlk) (hts _ hM4) hM5 hM3.2.2 ⟨hr1, hr2⟩)
    ⟨zPc_blind, fun U hU hW => ⟨rfl, by rw [hU], by rw [hU]; exact hH.1, va_K.moved hW.alike hK, hH.2.2.1.weaken (fun _ _ _ _ => trivial), hH.2.2.2.2.2, zNf_warm hW hN⟩⟩ rfl rfl hl.2.1 rfl (lv_room (by simp [Value.category])) d3
    ⟨by show cells + 1 + (L1.length - 1) ≤ 600002; exact hc1, by show slots + N + (gslt L1 - gslt [.inr (ci, gdef ci N)]) ≤ 7302231; rw [hgN]; exact hs1⟩
  refine zback2 hH hrun (fun H2 locs2 ad' hag hH2 hk2 hD2 => ?_)
  rw [ews] at hk2 hD2
  have h0 : ad' 0 = q := (hag 0 (show 0 < 1 from Nat.one_pos)).trans (if_pos rfl)
  have key := k H2 locs2 ad' hH2 (wap_keep hPo1 hap hk2) (wap_new hPo1 hap hD2)
  rw [h0] at key
  have e2 : slots + N + (ZG.2.2.1 L1 - ZG.2.2.1 [.inr (ci, gdef ci N)]) = slots + N + (gslt L1 - N) := by
    show slots + N + (gslt L1 - gslt [.inr (ci, gdef ci N)]) = _
    rw [hgN]
  rw [e2]
  exact lv_astore_n hx hb d4 rfl (zlv_has hl) (by rw [← hl.1]; exact Nat.le_of_ble_eq_true hj) rfl (fun ls' h' => key ls' (zlv_st1 (v := .ref q) hl h'))
end LawMake
