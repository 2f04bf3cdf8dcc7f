/-! rule, where the class throws. -/
abbrev NSE : String := "java/util/NoSuchElementException"
abbrev NSX : String := "java/lang/RuntimeException"
abbrev NSN : List String := ["java/lang/Exception"]
abbrev NST : String := "no such RULE, or nothing that is told of it"
def NSW : List Cond := (zt_at RX11 147 NSE NSX NSN 13 prog_24_method_4_code).filter vx_no
set_option maxRecDepth 100000 in
theorem NSW_bad : ∀ w ∈ NSW.filter (fun w => !goodWord w), w ∈ [Cond.declares (Bundle.initS NSX), Cond.declares (Bundle.initS "java/lang/Exception"), Cond.declares (Bundle.initS Bundle.tN)] := by decide +kernel
set_option maxRecDepth 100000 in
theorem NSW_good : ∀ w ∈ NSW.filter goodWord, w ∈ lw_tbl := by decide +kernel
theorem NSW_zT : ∀ w ∈ NSW.filter goodWord, w ∈ zT := fun w h => List.mem_filter.mpr ⟨NSW_good w h, (List.mem_filter.mp h).2⟩
set_option maxRecDepth 100000 in
theorem NSW_ot : ∀ w ∈ Cond.classLink RX11 143 NSE :: Cond.initialized NSE :: NSW, vx_ot w = true := by decide +kernel
theorem kNS_1 : Cond.classLink RX11 143 NSE ∈ zT := zT_at 6037 (by decide +kernel) rfl
theorem kNS_2 : Cond.initialized NSE ∈ zT := zT_at 1019 (by decide +kernel) rfl
/-- what a throw wants of the state; hs: how large the heap was as the law began -/
def xTl (sa hs : Nat) (s : State) (H : Heap) : Prop := vk_R RX11 145 NST sa s ∧ (va_Nw (.castable NSE NSE) s ∧ va_Nw (.declares (Bundle.initS NSX)) s ∧ va_Nw (.declares (Bundle.initS "java/lang/Exception")) s ∧ va_Nw (.declares (Bundle.initS Bundle.tN)) s) ∧ vx_Zq Bundle.tN "UNASSIGNED_STACK" Bundle.steD (fun q => hs ≤ q) s H ∧ vx_Zq Bundle.tN "SUPPRESSED_SENTINEL" Bundle.listD (fun q => hs ≤ q) s H
theorem xTl_warm {sa hs : Nat} {s U : State} {H : Heap} (hW : s.WarmedH U.vm) (h : xTl sa hs s H) (hU : U.heap = H) : xTl sa hs U U.heap := by
  rw [hU]
  exact ⟨vk_R.warm hW h.1, ⟨va_Nw.warmC hW h.2.1.1, va_Nw.warmD hW h.2.1.2.1, va_Nw.warmD hW h.2.1.2.2.1, va_Nw.warmD hW h.2.1.2.2.2⟩, h.2.2.1.moved hW.alike, h.2.2.2.moved hW.alike⟩
theorem xTl_same {sa hs : Nat} {s U : State} (hv : U.vm = s.vm) (hh : U.heap = s.heap) (h : xTl sa hs s s.heap) : xTl sa hs U U.heap := by
  rw [hh]
  exact ⟨vk_R.same hv h.1, ⟨va_Nw.same rfl hv.symm h.2.1.1, va_Nw.same rfl hv.symm h.2.1.2.1, va_Nw.same rfl hv.symm h.2.1.2.2.1, va_Nw.same rfl hv.symm h.2.1.2.2.2⟩, h.2.2.1.moved (by rw [hv]; exact Vm.Alike.refl _), h.2.2.2.moved (by rw [hv]; exact Vm.Alike.refl _)⟩
theorem xTl_kept {sa hs : Nat} {s : State} {H H1 : Heap} (h : xTl sa hs s H) (hq : ∀ a : Nat, a < H.size → ¬ hs ≤ a → H1[a]? = H[a]?) : xTl sa hs s H1 :=
  ⟨h.1, h.2.1, h.2.2.1.kept hq, h.2.2.2.kept hq⟩
section RuleX
variable {l : Launch} {dC : Nat → ClassId} {dI : Nat → Nat → Nat} {dA : Nat → ClassId} {ad : Nat → Nat} {sX : SX} {r w : Int32} {sa hs sz : Nat}
/-- the world of the class at a call that may throw -/
def xTB (dC : Nat → ClassId) (dI : Nat → Nat → Nat) (dA : Nat → ClassId) (ad : Nat → Nat) (sX : SX) (sa hs sz : Nat) (U : State) : Prop :=
  (U.heap.size = sz ∧ va_P (dC, dI) vwCl (zws ZX dA ad sX) U.heap ∧ va_K (dC, dI) vwCl (ztys dA) U ∧ va_D (fun _ => True) (zws ZX dA ad sX) ∧ (∀ k, ZX.2.1 sX ≤ k → ad k = 0) ∧ zNf U) ∧ xTl sa hs U U.heap
theorem xTB_blind {as : List Value} : FrameBlind (va_Pc as (xTB dC dI dA ad sX sa hs sz)) := fun a U g mk q => by
  obtain ⟨q0, ⟨q1, qP, qK, qD, qE, qF⟩, qT⟩ := q
  exact ⟨q0, ⟨q1, qP, va_K.moved (u := U) (U := U.calling g mk a) (Vm.Alike.refl U.vm) qK, qD, qE, zNf_same (u := U) (U := U.calling g mk a) rfl qF⟩, xTl_same (s := U) (U := U.calling g mk a) rfl rfl qT⟩
def xTX (dC : Nat → ClassId) (dI : Nat → Nat → Nat) (dA : Nat → ClassId) (ad : Nat → Nat) (sX : SX) (sz : Nat) : String → State → State → Prop := fun E st t => E = NSE ∧ va_P (dC, dI) vwCl (zws ZX dA ad sX) t.heap ∧ va_F (va_A (zws ZX dA ad sX) sz) st t
set_option maxHeartbeats 4000000 in
theorem x_rule_thr (hl : l.stackTraces = false) (hno : (xisR sX r && (decide (0 ≤ w) && decide (w ≤ 3))) = false) (hhs : ∀ x ∈ zws ZX dA ad sX, hs ≤ x.1) (hsz : hs ≤ sz) :
    vx_Met l yX11_rule (Cond.code yX11_rule cX11_rule 3 (some .int) :: zT) { frames := 7, cells := 1, slots := 6, locals := 120 } (va_Pc [.ref (ad 0), .int r, .int w] (xTB dC dI dA ad sX sa hs sz)) (fun _ _ _ _ => False) (xTX dC dI dA ad sX sz) 1 6 (va_A (zws ZX dA ad sX) sz) := by
  refine vx_ofW (cc := cX11_rule) (maxL := 3) (ret := some .int) (by decide +kernel) rfl ?_
  intro p e s0 m args below meth c s₁ B hml htab hv
  obtain ⟨rfl, ⟨hsz0, hP, hK, hD0, had, hNf⟩, hT⟩ := hv
  have hts : ∀ w9 ∈ zT, w9.before #[.ref (ad 0), .int r, .int w] s0 = true := fun w9 hw => atoms_spec (ws := Cond.code yX11_rule cX11_rule 3 (some .int) :: zT) B.pre w9 (List.mem_cons_of_mem _ hw)
  have hown : s0.vm.findClass RX11 = some m.cls := findClass_of_methodNamed B.named
  have hx := B.exec
  have hb : c.code = cX11_rule := B.bytes
  have hl0 := lv_entry [Value.ref (ad 0), Value.int r, Value.int w] (n := 3) (by simp [lg_sl, Value.category])
  rw [lg_entry_eq]
  generalize (lg_sl [Value.ref (ad 0), Value.int r, Value.int w] ++ List.replicate (3 - (lg_sl [Value.ref (ad 0), Value.int r, Value.int w]).length) Slot.unset).toArray = ls at hl0 ⊢
  subst hsz0
  have i0 : ls[0]? = some (.val (.ref (ad 0))) := hl0.2.2 (0, .ref (ad 0)) (by simp [lv_args, Value.category])
  have i1 : ls[1]? = some (.val (.int r)) := hl0.2.2 (1, .int r) (by simp [lv_args, Value.category])
  have i2 : ls[2]? = some (.val (.int w)) := hl0.2.2 (2, .int w) (by simp [lv_args, Value.category])
  have hD : va_D (va_A (zws ZX dA ad sX) s0.heap.size) (zws ZX dA ad sX) := hD0.self
  have hH : ZH ZX dC dI dA ad (va_A (zws ZX dA ad sX) s0.heap.size) s0 s0.heap [] sX := ⟨hP, hK, hD, va_S.rf, fun q hq => Or.inr hq, had⟩
  have hsub : ∀ q, va_A (zws ZX dA ad sX) s0.heap.size q → hs ≤ q := by
    rintro q (⟨k, x, hk⟩ | hq)
    · exact hhs _ (List.mem_of_getElem? hk)
    · exact Nat.le_trans hsz hq
  have d0 := (zfe_ok bX11_rule (show zfe mX11_rule 0 = some (.aload_n 0, 1, _, _, _) from rfl)).1
  have d1 := (zfe_ok bX11_rule (show zfe mX11_rule 1 = some (.iload_n 1, 1, _, _, _) from rfl)).1
  have d2 := (zfe_ok bX11_rule (show zfe mX11_rule 2 = some (.invokevirtual 139, 3, _, _, _) from rfl)).1
  have d5 := (zfe_ok bX11_rule (show zfe mX11_rule 5 = some (.ifCond .eq 12, 3, _, _, _) from rfl)).1
  have d8 := (zfe_ok bX11_rule (show zfe mX11_rule 8 = some (.iload_n 2, 1, _, _, _) from rfl)).1
  have d9 := (zfe_ok bX11_rule (show zfe mX11_rule 9 = some (.ifCond .lt 8, 3, _, _, _) from rfl)).1
  have d12 := (zfe_ok bX11_rule (show zfe mX11_rule 12 = some (.iload_n 2, 1, _, _, _) from rfl)).1
  have d13 := (zfe_ok bX11_rule (show zfe mX11_rule 13 = some (.iconst 3, 1, _, _, _) from rfl)).1
  have d14 := (zfe_ok bX11_rule (show zfe mX11_rule 14 = some (.if_icmp .le 13, 3, _, _, _) from rfl)).1
  have d17 := (zfe_ok bX11_rule (show zfe mX11_rule 17 = some (.new 143, 3, _, _, _) from rfl)).1
  have d20 := (zfe_ok bX11_rule (show zfe mX11_rule 20 = some (.dup, 1, _, _, _) from rfl)).1
  have d21 := (zfe_ok bX11_rule (show zfe mX11_rule 21 = some (.ldc 145, 2, _, _, _) from rfl)).1
  have d23 := (zfe_ok bX11_rule (show zfe mX11_rule 23 = some (.invokespecial 147, 3, _, _, _) from rfl)).1
  have d26 := (zfe_ok bX11_rule (show zfe mX11_rule 26 = some (.athrow, 1, _, _, _) from rfl)).1
  have hrecv : ∃ cell : Cell, s0.heap[ad 0]? = some cell ∧ cell.vm.isStatics = false ∧ s0.vm.findClass RX11 = some cell.cls := by
    have hat : (zws ZX dA ad sX)[0]? = some (ad 0, zcc dA ad (ZX.1 sX 0)) := zws_at (by show 0 < 3 * sX.2.2.2.2.1 + 99; omega)
    exact va_recv hK hP (show (vwCl)[11]? = some _ from rfl) hat
  refine lv_aload_n hx hb d0 rfl i0 ?_
  refine lv_iload_n hx hb d1 rfl i1 ?_
  have hrun := va_runV (l := l) (b := ad 0) (As := [.int r]) (rest := []) (cells := 0) (slots := 0) (locs := []) (g := F0 m 2 ls [.int r, .ref (ad 0)]) (e := e) (below := below) (meth := meth) (R := { frames := 7, cells := 1, slots := 6, locals := 120 }) ⟨hx, hb, hml, hown, hts⟩ ((x_isRuleB sX r).2 l dC dI dA ad s0.heap.size)
    (cwV 1 hts (zgoodW k11_139 vX11_isRule.2.2) rfl rfl rfl ⟨rfl, vX11_isRule.2.2.1.2.2⟩ ⟨(by decide : mX11_isRule.2.2.2.2.2.1.1 + 1 ≤ 7), (by decide : 8 + (mX11_isRule.2.2.2.1 + 11) + mX11_isRule.2.2.2.2.2.1.2.1 ≤ 120)⟩)
    ⟨zPc_blind, hrecv, fun U hU hW => ⟨rfl, by rw [hU], by rw [hU]; exact hP, va_K.moved hW.alike hK, hD0, had, zNf_warm hW hNf⟩⟩ rfl rfl hl0.1 rfl (lv_room (by decide)) d2
    ⟨by show 0 + (ZX.2.1 sX - ZX.2.1 sX) ≤ 1; omega, by show 0 + (ZX.2.2.1 sX - ZX.2.2.1 sX) ≤ 6; omega⟩
  refine zback2 hH hrun (fun H1 locs1 ad' hag hH1 hk hD1 => ?_)
  have e0 : ad' = ad := zad_eq hag hH1.2.2.2.2.2 had
  subst e0
  rw [Nat.sub_self, Nat.sub_self]
  have thr : W p l e { frames := 7, cells := 1, slots := 6, locals := 120 } s0 m #[.ref (ad' 0), .int r, .int w] below meth c H1 locs1 0 0 (vx_MQ below (fun _ _ _ _ => False) (xTX dC dI dA ad' sX s0.heap.size) #[.ref (ad' 0), .int r, .int w] s0 1 6 (va_A (zws ZX dA ad' sX) s0.heap.size)) (F0 m 17 ls []) := by
    refine zt_throw (A := va_A (zws ZX dA ad' sX) s0.heap.size) (nx := NSX) (names := NSN) (ix := 13) (bx := prog_24_method_4_code) hx hb hl (by decide +kernel) (by decide +kernel) (by decide +kernel) (by decide +kernel) hown (by decide +kernel) (by decide +kernel) (by decide +kernel) (hts _ kNS_1) (hts _ kNS_2) hT.1
      (vx_hat (L := NSW) (fun w9 h9 => hts w9 (NSW_zT w9 h9)) NSW_bad (vx_c (va_Nw.use rfl hT.2.1.2.1) (vx_c (va_Nw.use rfl hT.2.1.2.2.1) (vx_c (va_Nw.use rfl hT.2.1.2.2.2) vx_n)))) NSW_ot (hT.2.2.1.narrow hsub) (hT.2.2.2.narrow hsub) hH1.2.2.2.1 (by rw [hml]; exact hl0.1) d17 d20 d21 d23 d26
      (fun x9 h9 => (htab x9 h9).elim) (by decide) (by decide) (by decide) (by decide) B.notSynchronized ?_ hH1.2.2.2.1.2.2 (by decide) (by decide)
    intro t hA hz hq
    refine ⟨rfl, ?_, Nat.le_trans hH1.2.2.2.1.1 hz, fun q h1 h2 => ?_⟩
    · intro k x hk2
      have hh := hH1.1 k x hk2
      exact va_at.kept hh (hq _ (va_at_lt hh))
    · rw [hq q (Nat.lt_of_lt_of_le h1 hH1.2.2.2.1.1)]
      exact hH1.2.2.2.1.2.1 q h1 h2
  refine lv_if_eq (tgt := 17) hx hb d5 rfl (fun _ => thr) (fun h1 => ?_)
  have h1 : xisR sX r = true := bI_t h1
  rw [h1, Bool.true_and] at hno
  refine lv_iload_n hx hb d8 rfl i2 ?_
  refine lv_if_lt (tgt := 17) hx hb d9 rfl (fun _ => thr) (fun h2 => ?_)
  rw [decide_eq_true (Int32.not_lt.mp h2), Bool.true_and] at hno
  refine lv_iload_n hx hb d12 rfl i2 ?_
  refine lv_iconst (v := 3) hx hb d13 rfl ?_
  refine lv_icmp_le (tgt := 27) hx hb d14 rfl (fun h3 => ?_) (fun _ => thr)
  exact absurd h3 (of_decide_eq_false hno)
end RuleX
