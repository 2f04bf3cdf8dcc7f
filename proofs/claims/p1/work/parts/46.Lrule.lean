/-! The law's own method 'rule': it catches what the class throws. -/
def yLr : MethodName := ⟨R_law, "rule", "(LMinimalTables;II[J)I"⟩
abbrev cLr : ByteArray := method_3_code
abbrev hLr : List (Nat × Nat × Nat × Nat) := [(0, 10, 13, 13)]
theorem kLr_w : Cond.codeWith yLr cLr 5 (some .int) hLr ∈ zT := zT_at 6031 (by decide +kernel) rfl
theorem kLr_s : Cond.static yLr ∈ zT := zT_at 6030 (by decide +kernel) rfl
theorem kLr_l : Cond.methodLink R_law 38 yLr ∈ zT := zT_at 6029 (by decide +kernel) rfl
theorem kLr_i : Cond.initialized R_law ∈ zT := zT_at 1000 (by decide +kernel) rfl
theorem kLr_c : Cond.classLink R_law 13 NSE ∈ zT := zT_at 6032 (by decide +kernel) rfl
theorem kLr_7 : Cond.methodLink R_law 7 yX11_rule ∈ zT := zT_at 6033 (by decide +kernel) rfl
theorem gLr : GoodIn zT (va_wsS R_law 38 yLr (Cond.codeWith yLr cLr 5 (some .int) hLr :: zT)) := by
  intro w hw
  have : w ∈ zT := by
    unfold va_wsS at hw
    rcases List.mem_append.mp hw with h | h
    · simp only [List.mem_cons, List.not_mem_nil, or_false] at h
      rcases h with rfl | rfl | rfl
      · exact kLr_l
      · exact kLr_s
      · exact kLr_i
    · rcases List.mem_cons.mp h with rfl | h
      · exact kLr_w
      · exact h
  exact ⟨this, zT_good this⟩
theorem dLr_0 : decode cLr 0 = .ok (.aload_n 3, 1) := by decide +kernel
theorem dLr_1 : decode cLr 1 = .ok (.iconst 0, 1) := by decide +kernel
theorem dLr_2 : decode cLr 2 = .ok (.aload_n 0, 1) := by decide +kernel
theorem dLr_3 : decode cLr 3 = .ok (.iload_n 1, 1) := by decide +kernel
theorem dLr_4 : decode cLr 4 = .ok (.iload_n 2, 1) := by decide +kernel
theorem dLr_5 : decode cLr 5 = .ok (.invokevirtual 7, 3) := by decide +kernel
theorem dLr_8 : decode cLr 8 = .ok (.i2l, 1) := by decide +kernel
theorem dLr_9 : decode cLr 9 = .ok (.lastore, 1) := by decide +kernel
theorem dLr_10 : decode cLr 10 = .ok (.goto 7, 3) := by decide +kernel
theorem dLr_13 : decode cLr 13 = .ok (.astore 4, 2) := by decide +kernel
theorem dLr_15 : decode cLr 15 = .ok (.iconst 1, 1) := by decide +kernel
theorem dLr_16 : decode cLr 16 = .ok (.ireturn, 1) := by decide +kernel
theorem dLr_17 : decode cLr 17 = .ok (.iconst 0, 1) := by decide +kernel
theorem dLr_18 : decode cLr 18 = .ok (.ireturn, 1) := by decide +kernel
section RuleL
variable {l : Launch} {dC : Nat → ClassId} {dI : Nat → Nat → Nat} {dA : Nat → ClassId} {ad : Nat → Nat} {sX : SX} {r w v : Int32} {sa hs sz qo : Nat} {z : Nat → Int64}
def lrQ (dC : Nat → ClassId) (dI : Nat → Nat → Nat) (dA : Nat → ClassId) (ad : Nat → Nat) (sX : SX) (sz : Nat) : Array Value → State → Outcome → State → Prop := fun _ st o t =>
  o = .returned (some (.int 1)) ∧ va_P (dC, dI) vwCl (zws ZX dA ad sX) t.heap ∧ va_F (va_A (zws ZX dA ad sX) sz) st t
set_option maxHeartbeats 4000000 in
theorem L_rule_thr (hl : l.stackTraces = false) (hno : (xisR sX r && (decide (0 ≤ w) && decide (w ≤ 3))) = false) (hhs : ∀ x ∈ zws ZX dA ad sX, hs ≤ x.1) (hsz : hs ≤ sz) :
    Met l yLr (Cond.codeWith yLr cLr 5 (some .int) hLr :: zT) { frames := 8, cells := 1, slots := 6, locals := 150 } (va_Pc [.ref (ad 0), .int r, .int w, .ref qo] (xTB dC dI dA ad sX sa hs sz)) (lrQ dC dI dA ad sX sz) 1 6 (va_A (zws ZX dA ad sX) sz) := by
  refine va_MetW (cc := cLr) (maxL := 5) (ret := some .int) (hh := hLr) (by decide +kernel) rfl ?_
  intro p e s0 m args below meth c s₁ B hml hv
  obtain ⟨rfl, ⟨hsz0, hP, hK, hD0, had, hNf⟩, hT⟩ := hv
  have hts0 : ∀ w9 ∈ (Cond.codeWith yLr cLr 5 (some .int) hLr :: zT), w9.before #[.ref (ad 0), .int r, .int w, .ref qo] s0 = true := atoms_spec (ws := Cond.codeWith yLr cLr 5 (some .int) hLr :: zT) B.pre
  have hts : ∀ w9 ∈ zT, w9.before #[.ref (ad 0), .int r, .int w, .ref qo] s0 = true := fun w9 hw => hts0 w9 (List.mem_cons_of_mem _ hw)
  have htab : c.exceptionTable.toList = tableOf hLr := vx_table (x := yLr) B (hts0 _ List.mem_cons_self)
  have hown : s0.vm.findClass R_law = some m.cls := findClass_of_methodNamed B.named
  have hx := B.exec
  have hb : c.code = cLr := B.bytes
  have hl0 := lv_entry [Value.ref (ad 0), Value.int r, Value.int w, Value.ref qo] (n := 5) (by simp [lg_sl, Value.category])
  rw [lg_entry_eq]
  generalize (lg_sl [Value.ref (ad 0), Value.int r, Value.int w, Value.ref qo] ++ List.replicate (5 - (lg_sl [Value.ref (ad 0), Value.int r, Value.int w, Value.ref qo]).length) Slot.unset).toArray = ls at hl0 ⊢
  subst hsz0
  have i0 : ls[0]? = some (.val (.ref (ad 0))) := hl0.2.2 (0, .ref (ad 0)) (by simp [lv_args, Value.category])
  have i1 : ls[1]? = some (.val (.int r)) := hl0.2.2 (1, .int r) (by simp [lv_args, Value.category])
  have i2 : ls[2]? = some (.val (.int w)) := hl0.2.2 (2, .int w) (by simp [lv_args, Value.category])
  have i3 : ls[3]? = some (.val (.ref qo)) := hl0.2.2 (3, .ref qo) (by simp [lv_args, Value.category])
  have hrecv : ∃ cell : Cell, s0.heap[ad 0]? = some cell ∧ cell.vm.isStatics = false ∧ s0.vm.findClass RX11 = some cell.cls := by
    have hat : (zws ZX dA ad sX)[0]? = some (ad 0, zcc dA ad (ZX.1 sX 0)) := zws_at (by show 0 < 3 * sX.2.2.2.2.1 + 99; omega)
    exact va_recv hK hP (show (vwCl)[11]? = some _ from rfl) hat
  refine lv_aload_n hx hb dLr_0 rfl i3 ?_
  refine lv_iconst (v := 0) hx hb dLr_1 rfl ?_
  refine lv_aload_n hx hb dLr_2 rfl i0 ?_
  refine lv_iload_n hx hb dLr_3 rfl i1 ?_
  refine lv_iload_n hx hb dLr_4 rfl i2 ?_
  have hrun := vx_runV (l := l) (b := ad 0) (As := [.int r, .int w]) (rest := [.int 0, .ref qo]) (cells := 0) (slots := 0) (locs := []) (H := s0.heap) (g := F0 m 5 ls [.int w, .int r, .ref (ad 0), .int 0, .ref qo]) (e := e) (below := below) (meth := meth) (R := { frames := 8, cells := 1, slots := 6, locals := 150 }) ⟨hx, hb, hml, hown, hts⟩ (x_rule_thr (dC := dC) (dI := dI) (sa := sa) hl hno hhs hsz)
    (cwV 2 hts (zgoodW (M' := mX11_rule) kLr_7 vX11_rule.2.2) rfl rfl rfl ⟨rfl, vX11_rule.2.2.1.2.2⟩ ⟨by decide, by decide⟩)
    ⟨xTB_blind, hrecv, fun U hU hW => ⟨rfl, ⟨by rw [hU], by rw [hU]; exact hP, va_K.moved hW.alike hK, hD0, had, zNf_warm hW hNf⟩, xTl_warm hW hT hU⟩⟩ rfl rfl hl0.1 rfl (lv_room (by show (2 : Nat) ≤ 8; decide)) dLr_5
    ⟨by decide, by decide⟩
  intro T hT2 X
  rcases hrun T hT2 X with ⟨v9, st₀, t, T', L, h0, X', hL, e1, e2, hf, stp⟩ | ⟨q, st₀, t, T', L, E, ce, h0, X', hL, e1, e2, ⟨rfl, hP1, hF1⟩, hce, hcv, hcl, stp⟩
  · exact hf.elim
  · have key : vx_W p l e { frames := 8, cells := 1, slots := 6, locals := 150 } s0 m #[.ref (ad 0), .int r, .int w, .ref qo] below meth c T'.heap ([] ++ L) (0 + 1) (0 + 6) (MQ below (lrQ dC dI dA ad sX s0.heap.size) #[.ref (ad 0), .int r, .int w, .ref qo] s0 1 6 (va_A (zws ZX dA ad sX) s0.heap.size)) (F0 m 5 ls [.int 0, .ref qo]) q := by
      refine vx_catch (own := R_law) (name := NSE) hown ⟨0, 10, 13, 13⟩ [] htab rfl (by decide) (hts _ kLr_c) (va_Nw.use rfl hT.2.1.1) (by rw [e1]; exact hce) hcv hcl ?_
      refine lv_astore hx hb dLr_13 hl0 (by decide) rfl (fun ls' h' => ?_)
      refine lv_iconst (v := 1) hx hb dLr_15 rfl ?_
      refine W.iret (v := 1) hx hb B.returns (fun t9 ht9 hW9 => ⟨rfl, by rw [ht9, e1]; exact hP1, ?_⟩) (fun z9 hz9 => hL z9 (by simpa using hz9)) dLr_16 B.notSynchronized
      have hF2 : va_F (va_A (zws ZX dA ad sX) s0.heap.size) st₀ t := hF1
      refine ⟨?_, fun q9 h1 h2 => ?_⟩
      · have := hF2.1
        rw [h0] at this
        rw [ht9, e1]; exact this
      · have := hF2.2 q9 (by rw [h0]; exact h1) h2
        rw [ht9, e1, this, h0]
    obtain ⟨t2, a1, b1⟩ := key T' rfl X'
    exact ⟨t2, stp.trans a1, b1⟩
/-- the row of one long -/
abbrev lrow (dA : Nat → ClassId) (qo : Nat) (z : Nat → Int64) : va_W := [(qo, .inl (dA 2, 1, .inr (.inl z)))]
def lrB (dC : Nat → ClassId) (dI : Nat → Nat → Nat) (dA : Nat → ClassId) (ad : Nat → Nat) (sX : SX) (qo : Nat) (z : Nat → Int64) (sz : Nat) (U : State) : Prop :=
  U.heap.size = sz ∧ va_P (dC, dI) vwCl (zws ZX dA ad sX) U.heap ∧ va_P (dC, dI) vwCl (lrow dA qo z) U.heap ∧ va_K (dC, dI) vwCl (ztys dA) U ∧ va_D (fun _ => True) (zws ZX dA ad sX) ∧ wap (zws ZX dA ad sX) (lrow dA qo z) ∧ (∀ k, ZX.2.1 sX ≤ k → ad k = 0) ∧ zNf U
theorem lrB_blind {as : List Value} : FrameBlind (va_Pc as (lrB dC dI dA ad sX qo z sz)) := fun a U g mk q => by
  obtain ⟨q0, q1, qP, qR, qK, qD, qW, qE, qF⟩ := q
  exact ⟨q0, q1, qP, qR, va_K.moved (u := U) (U := U.calling g mk a) (Vm.Alike.refl U.vm) qK, qD, qW, qE, zNf_same (u := U) (U := U.calling g mk a) rfl qF⟩
def lrQ2 (dC : Nat → ClassId) (dI : Nat → Nat → Nat) (dA : Nat → ClassId) (ad : Nat → Nat) (sX : SX) (qo : Nat) (z : Nat → Int64) (v : Int32) (sz : Nat) : Array Value → State → Outcome → State → Prop := fun _ st o t =>
  o = .returned (some (.int 0)) ∧ va_P (dC, dI) vwCl (zws ZX dA ad sX) t.heap ∧ va_P (dC, dI) vwCl (lrow dA qo (vp_updL z 0 v.toInt64)) t.heap ∧ va_F (va_A (zws ZX dA ad sX ++ lrow dA qo z) sz) st t
theorem va_P_l {D : va_G} {cl : List vw_C} {w1 w2 : va_W} {H : Heap} (h : va_P D cl (w1 ++ w2) H) : va_P D cl w1 H := fun _ x hk => va_P_at h (List.mem_append_left _ (List.mem_of_getElem? hk))
theorem va_P_r {D : va_G} {cl : List vw_C} {w1 w2 : va_W} {H : Heap} (h : va_P D cl (w1 ++ w2) H) : va_P D cl w2 H := fun _ x hk => va_P_at h (List.mem_append_right _ (List.mem_of_getElem? hk))
theorem va_A_in {w : va_W} {sz : Nat} {x : Nat × va_E} (h : x ∈ w) : va_A w sz x.1 := by
  obtain ⟨k, hk⟩ := List.getElem?_of_mem h
  exact Or.inl ⟨k, x.2, hk⟩
theorem va_D_of {A : Nat → Prop} {B : Nat → Prop} {ws : va_W} (h : va_D A ws) (hb : ∀ x ∈ ws, B x.1) : va_D B ws := ⟨h.1, fun _ x hk => hb x (List.mem_of_getElem? hk)⟩
theorem lrow_D {A : Nat → Prop} (h : A qo) : va_D A (lrow dA qo z) := by
  refine ⟨fun i j x y hi hj _ => ?_, fun k x hk => ?_⟩
  · have a := (List.getElem?_eq_some_iff.mp hi).1
    have b := (List.getElem?_eq_some_iff.mp hj).1
    simp only [List.length_singleton] at a b
    omega
  · have := List.mem_of_getElem? hk
    rw [List.mem_singleton] at this
    rw [this]
    exact h
set_option maxHeartbeats 4000000 in
theorem L_rule_ok (hev : Ev ZX mX11_rule [.ref 0, .int r, .int w] sX (some (.int v)) sX) :
    Met l yLr (Cond.codeWith yLr cLr 5 (some .int) hLr :: zT) { frames := 8, cells := 0, slots := 0, locals := 150 } (va_Pc [.ref (ad 0), .int r, .int w, .ref qo] (lrB dC dI dA ad sX qo z sz)) (lrQ2 dC dI dA ad sX qo z v sz) 0 0 (va_A (zws ZX dA ad sX ++ lrow dA qo z) sz) := by
  refine va_MetW (cc := cLr) (maxL := 5) (ret := some .int) (hh := hLr) (by decide +kernel) rfl ?_
  intro p e s0 m args below meth c s₁ B hml hv
  obtain ⟨rfl, hsz0, hP, hR, hK, hD0, hwap, had, hNf⟩ := hv
  have hts0 : ∀ w9 ∈ (Cond.codeWith yLr cLr 5 (some .int) hLr :: zT), w9.before #[.ref (ad 0), .int r, .int w, .ref qo] s0 = true := atoms_spec (ws := Cond.codeWith yLr cLr 5 (some .int) hLr :: zT) B.pre
  have hts : ∀ w9 ∈ zT, w9.before #[.ref (ad 0), .int r, .int w, .ref qo] s0 = true := fun w9 hw => hts0 w9 (List.mem_cons_of_mem _ hw)
  have hown : s0.vm.findClass R_law = some m.cls := findClass_of_methodNamed B.named
  have hx := B.exec
  have hb : c.code = cLr := B.bytes
  have hl0 := lv_entry [Value.ref (ad 0), Value.int r, Value.int w, Value.ref qo] (n := 5) (by simp [lg_sl, Value.category])
  rw [lg_entry_eq]
  generalize (lg_sl [Value.ref (ad 0), Value.int r, Value.int w, Value.ref qo] ++ List.replicate (5 - (lg_sl [Value.ref (ad 0), Value.int r, Value.int w, Value.ref qo]).length) Slot.unset).toArray = ls at hl0 ⊢
  subst hsz0
  have i0 : ls[0]? = some (.val (.ref (ad 0))) := hl0.2.2 (0, .ref (ad 0)) (by simp [lv_args, Value.category])
  have i1 : ls[1]? = some (.val (.int r)) := hl0.2.2 (1, .int r) (by simp [lv_args, Value.category])
  have i2 : ls[2]? = some (.val (.int w)) := hl0.2.2 (2, .int w) (by simp [lv_args, Value.category])
  have i3 : ls[3]? = some (.val (.ref qo)) := hl0.2.2 (3, .ref qo) (by simp [lv_args, Value.category])
  have hrecv : ∃ cell : Cell, s0.heap[ad 0]? = some cell ∧ cell.vm.isStatics = false ∧ s0.vm.findClass RX11 = some cell.cls := by
    have hat : (zws ZX dA ad sX)[0]? = some (ad 0, zcc dA ad (ZX.1 sX 0)) := zws_at (by show 0 < 3 * sX.2.2.2.2.1 + 99; omega)
    exact va_recv hK hP (show (vwCl)[11]? = some _ from rfl) hat
  have hA1 : ∀ x ∈ zws ZX dA ad sX, va_A (zws ZX dA ad sX ++ lrow dA qo z) s0.heap.size x.1 := fun x hx => va_A_in (List.mem_append_left _ hx)
  have hA2 : va_A (zws ZX dA ad sX ++ lrow dA qo z) s0.heap.size qo := va_A_in (x := (qo, .inl (dA 2, 1, .inr (.inl z)))) (List.mem_append_right _ List.mem_cons_self)
  have hH : ZH ZX dC dI dA ad (va_A (zws ZX dA ad sX ++ lrow dA qo z) s0.heap.size) s0 s0.heap [] sX := ⟨hP, hK, va_D_of hD0 hA1, va_S.rf, fun q hq => Or.inr hq, had⟩
  refine lv_aload_n hx hb dLr_0 rfl i3 ?_
  refine lv_iconst (v := 0) hx hb dLr_1 rfl ?_
  refine lv_aload_n hx hb dLr_2 rfl i0 ?_
  refine lv_iload_n hx hb dLr_3 rfl i1 ?_
  refine lv_iload_n hx hb dLr_4 rfl i2 ?_
  have hrun := va_runV (l := l) (b := ad 0) (As := [.int r, .int w]) (rest := [.int 0, .ref qo]) (cells := 0) (slots := 0) (locs := []) (g := F0 m 5 ls [.int w, .int r, .ref (ad 0), .int 0, .ref qo]) (e := e) (below := below) (meth := meth) (R := { frames := 8, cells := 0, slots := 0, locals := 150 }) ⟨hx, hb, hml, hown, hts⟩ (hev.2 l dC dI dA ad s0.heap.size)
    (cwV 2 hts (zgoodW (M' := mX11_rule) kLr_7 vX11_rule.2.2) rfl rfl rfl ⟨rfl, vX11_rule.2.2.1.2.2⟩ ⟨(by decide : mX11_rule.2.2.2.2.2.1.1 + 1 ≤ 8), (by decide : 8 + (mX11_rule.2.2.2.1 + 11) + mX11_rule.2.2.2.2.2.1.2.1 ≤ 150)⟩)
    ⟨zPc_blind, hrecv, fun U hU hW => ⟨rfl, by rw [hU], by rw [hU]; exact hP, va_K.moved hW.alike hK, hD0, had, zNf_warm hW hNf⟩⟩ rfl rfl hl0.1 rfl (lv_room (by show (2 : Nat) ≤ 8; decide)) dLr_5
    ⟨by show 0 + (ZX.2.1 sX - ZX.2.1 sX) ≤ 0; omega, by show 0 + (ZX.2.2.1 sX - ZX.2.2.1 sX) ≤ 0; omega⟩
  refine zback2 hH hrun (fun H1 locs1 ad' hag hH1 hk hD1 => ?_)
  have e0 : ad' = ad := zad_eq hag hH1.2.2.2.2.2 had
  subst e0
  rw [Nat.sub_self, Nat.sub_self]
  have hR1 : va_P (dC, dI) vwCl (lrow dA qo z) H1 := wap_keep hR hwap hk
  refine lv_i2l hx hb dLr_8 rfl ?_
  have hlen : (zws ZX dA ad' sX ++ lrow dA qo z)[(zws ZX dA ad' sX).length]? = some (qo, .inl (dA 2, 1, .inr (.inl z))) := by
    rw [List.getElem?_append_right (Nat.le_refl _), Nat.sub_self]; rfl
  refine va_last hx hb hK (va_P_app hH1.1 hR1) (va_D_app hH1.2.2.1 (lrow_D hA2) hwap) hH1.2.2.2.1 (zws ZX dA ad' sX).length 2 hlen rfl (i := 0) (by show ¬ ((0 : Int32) < 0 ∨ 1 ≤ (0 : Int32).toNatClampNeg); decide) dLr_9 (fun H2 locs2 b1 b2 b3 => ?_)
  rw [List.set_append_right _ _ (Nat.le_refl _), Nat.sub_self] at b1
  refine lv_goto (tgt := 17) hx hb dLr_10 rfl ?_
  refine lv_iconst (v := 0) hx hb dLr_17 rfl ?_
  exact W.iret (v := 0) hx hb B.returns (fun t9 ht9 hW9 => ⟨rfl, by rw [ht9]; exact va_P_l b1, by rw [ht9]; exact va_P_r b1, b3.F ht9⟩) b3.2.2 dLr_18 B.notSynchronized
end RuleL
