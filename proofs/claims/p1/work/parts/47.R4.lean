/-! The law's case 'rule'. -/
theorem kL_43 : Cond.methodLink R_law 43 yX12_rule ∈ zT := zT_at 7183 (by decide +kernel) rfl
theorem kL_44 : Cond.methodLink R_law 44 yX12_thrown ∈ zT := zT_at 7107 (by decide +kernel) rfl
theorem lg_cmp_self (x : Int64) : lg_cmp x x = 0 := by
  unfold lg_cmp
  rw [if_neg (fun h => Int64.lt_irrefl h), if_pos rfl]
theorem lw_in {w : Cond} (p : Nat) (h : zat p = some w) : w ∈ lw_tbl := zch_in (List.mem_of_getElem? h)
section R4
variable {p : Program} {l0 : Launch} {e : Env} {s : State} {m : MethodId} {below : List Frame} {meth : Method} {c : Code} {b L i : Nat} {xs : Nat → Int32} {H : Heap} {locs : List Loc} {cells slots : Nat} {Q : State → Prop} {dC : Nat → ClassId} {dI : Nat → Nat → Nat} {dA : Nat → ClassId} {adX adM : Nat → Nat} {qo : Nat} {sX : SX} {sM : SM} {z : Nat → Int64} {I : SX → SM → Prop}
/-- what a throw wants of the state, as the law begins -/
theorem law_T (C0 : lw_At p s m meth c b L xs) : ∃ sa, xTl sa s.heap.size s s.heap := by
  have hgv := flat_of_before _ C0.2.2.2.2.2.2.2.2.2
  have hts := C0.2.2.2.2.2.1
  have w1 : (Cond.exactly (.string RX11 145) "java/lang/String").before #[Value.ref b] s = true := hgv _ (by decide +kernel)
  have w2 : (Cond.isRef (.static Bundle.tN "UNASSIGNED_STACK" Bundle.steD)).before #[Value.ref b] s = true := hgv _ (by decide +kernel)
  have w3 : (Cond.isRef (.static Bundle.tN "SUPPRESSED_SENTINEL" Bundle.listD)).before #[Value.ref b] s = true := hgv _ (by decide +kernel)
  have w4 : (Cond.stringRef RX11 145 NST).before #[Value.ref b] s = true := hts _ (lw_in 6076 (by decide +kernel))
  have w5 : (Cond.castable NSE NSE).before #[Value.ref b] s = true := hts _ (lw_in 6039 (by decide +kernel))
  have w6 : (Cond.laysStatic Bundle.tN "UNASSIGNED_STACK" Bundle.steD).before #[Value.ref b] s = true := hts _ (lw_in 6064 (by decide +kernel))
  have w7 : (Cond.laysStatic Bundle.tN "SUPPRESSED_SENTINEL" Bundle.listD).before #[Value.ref b] s = true := hts _ (lw_in 6066 (by decide +kernel))
  have w8 : (Cond.initialized Bundle.tN).before #[Value.ref b] s = true := hts _ (lw_in 1016 (by decide +kernel))
  have w9 : (Cond.declares (Bundle.initS NSX)).before #[Value.ref b] s = true := hts _ (lw_in 6041 (by decide +kernel))
  have w10 : (Cond.declares (Bundle.initS "java/lang/Exception")).before #[Value.ref b] s = true := hts _ (lw_in 6043 (by decide +kernel))
  have w11 : (Cond.declares (Bundle.initS Bundle.tN)).before #[Value.ref b] s = true := hts _ (lw_in 6045 (by decide +kernel))
  obtain ⟨a, -, -, -, ha, -⟩ := Cond.exactly_spec w1
  exact ⟨a, vk_R.of w4 ha, ⟨va_Nw.of rfl w5, va_Nw.of rfl w9, va_Nw.of rfl w10, va_Nw.of rfl w11⟩, vx_Zqof w6 w8 w2 (fun q h1 h2 => absurd h1 (Nat.not_lt.mpr h2)), vx_Zqof w7 w8 w3 (fun q h1 h2 => absurd h1 (Nat.not_lt.mpr h2))⟩
theorem LW_le {l' l : List (Option Value)} {pc : Nat} {st : List Value} (hl : zle l' l) (k : LW p l0 e s m b below meth c H locs cells slots Q (pc, l', st)) : LW p l0 e s m b below meth c H locs cells slots Q (pc, l, st) := fun ls h => k ls (zlv_le h hl)
/-- the law's own method is called -/
theorem LW_lr {Pc : Array Value → State → Prop} {Qc : Array Value → State → Outcome → State → Prop} {mc ms : Nat} {free : Addr → Prop} {As stk : List Value} {l : List (Option Value)} (C0 : lw_At p s m meth c b L xs)
    (hM : Met l0 yLr (Cond.codeWith yLr cLr 5 (some .int) hLr :: zT) { frames := 8, cells := mc, slots := ms, locals := 150 } Pc Qc mc ms free) (hp : PreS s H Pc As) (hn : As.length = 4) (hst : stk = As.reverse ++ []) (hcl : cells + mc ≤ 600002) (hsl : slots + ms ≤ 7302231)
    (k : ∀ (v : Option Value) (st₀ t : State) (H1 : Heap) (Lc : List Loc), st₀.heap = H → H1 = t.heap → Qc As.toArray st₀ (.returned v) t → (∀ q ∈ Lc, free q.base) → LW p l0 e s m b below meth c H1 (locs ++ Lc) (cells + mc) (slots + ms) Q (353, l, v.toList ++ [])) :
    LW p l0 e s m b below meth c H locs cells slots Q (350, l, stk) := by
  subst hst
  intro ls hlv
  dsimp only at hlv ⊢
  obtain ⟨hd, -, -⟩ := lD (show zfe mL_law 350 = some (.invokestatic 38, 3, _, _, _) from rfl)
  have hts := lts C0
  have hrun := vx_runSW (locs := locs) (cells := cells) (slots := slots) (g := F0 m 350 ls (As.reverse ++ [])) (e := e) (below := below) (meth := meth) (R := room_1) ⟨C0.1, C0.2.1, C0.2.2.2.1, C0.2.2.2.2.1, hts⟩ hM
    (vx_cwSW 4 hts gLr rfl rfl rfl ⟨by decide, by decide, by decide +kernel⟩ ⟨(by decide : 8 + 1 ≤ room_1.frames), (by decide : 8 + (5 + 11) + 150 ≤ room_1.locals)⟩) hp rfl hn hlv.2.1 rfl (lv_room (by decide)) hd ⟨hcl, hsl⟩
  intro T hT X
  obtain ⟨v, st₀, t, T', Lc, h0, X', hLc, e1, e2, hq, stp⟩ := hrun T hT X
  obtain ⟨t2, a1, b1⟩ := k v st₀ t T'.heap Lc h0 e1 hq hLc ls hlv T' rfl X'
  exact ⟨t2, stp t2 a1, b1⟩
/-- rule: class and reference alike -/
def RA (sX : SX) (sM : SM) (I : SX → SM → Prop) : Prop := ∀ r w : Int32,
  ((xisR sX r && (decide (0 ≤ w) && decide (w ≤ 3))) = false ∧ (inB r 0 (sM.1 15 - 1) && inB w 0 3) = false ∧ I sX (updS sM.1 0 1, sM.2)) ∨
  ((xisR sX r = true ∧ 0 ≤ w ∧ w ≤ 3 ∧ inB r 0 (sM.1 15 - 1) = true) ∧ (vp_in r 17 ∧ vp_in (r * 5) 85 ∧ vp_in (5 * r + 0) 85) ∧ xrul sX r w = mrul sM r w ∧ I sX (updS sM.1 0 0, sM.2))
theorem va_S_add {A B : Nat → Prop} {H0 H H1 : Heap} {st t : State} {Lc : List Loc} (hS : va_S A H0 H locs) (h0 : st.heap = H) (h1 : H1 = t.heap) (hF : va_F B st t) (hL : ∀ q ∈ Lc, B q.base) (hsub : ∀ q, B q → A q) : va_S A H0 H1 (locs ++ Lc) := by
  obtain ⟨hz, hk⟩ := hF
  rw [h0] at hz hk
  subst h1
  exact ⟨Nat.le_trans hS.1 hz, fun q a1 a2 => by rw [hk q (Nat.lt_of_lt_of_le a1 hS.1) (fun y => a2 (hsub q y))]; exact hS.2.1 q a1 a2, fun q hq => by
    rcases List.mem_append.mp hq with h | h
    · exact hS.2.2 q h
    · exact hsub _ (hL q h)⟩
theorem LI_D (h : LI dC dI dA s H locs adX adM qo sX sM z) : ∀ x ∈ zws ZX dA adX sX, s.heap.size ≤ x.1 := fun x hx => by
  obtain ⟨k, hk⟩ := List.getElem?_of_mem hx
  exact h.2.2.1.1.2 k x hk
theorem wap_row {w1 : va_W} {z1 : Nat → Int64} (h : wap w1 (lrow dA qo z)) : wap w1 (lrow dA qo z1) := by
  intro x hx y hy ee
  rw [List.mem_singleton] at hy
  subst hy
  exact h x hx _ List.mem_cons_self ee
set_option maxRecDepth 100000 in
set_option maxHeartbeats 4000000 in
theorem R4_of (C0 : lw_At p s m meth c b L xs) (hfl : l0.stackTraces = false) (hra : RA sX sM I) : R4 p l0 e s m b below meth c L xs Q dC dI dA qo sX sM I := by
  intro H locs cells slots i adX adM z hI h1 h2 hroom k
  refine LW_n C0 hI.2.2.2.2.1 12 rfl ⟨⟨rfl, h1⟩, ⟨rfl, h2⟩, trivial⟩ ?_
  obtain ⟨hr1, hr2⟩ := hroom
  have hsubX : ∀ q, va_A (zws ZX dA adX sX) H.size q → s.heap.size ≤ q := by
    rintro q (⟨k9, x, hk⟩ | hq)
    · exact LI_D hI _ (List.mem_of_getElem? hk)
    · exact Nat.le_trans hI.2.2.2.2.1.1 hq
  rcases hra (xs (nI i + 1).toNatClampNeg) (xs (nI i + 2).toNatClampNeg) with ⟨a1, a2, a3⟩ | ⟨⟨a1, a2, a3, a4⟩, ⟨b1, b2, b3⟩, a5, a6⟩
  · obtain ⟨sa, hT0⟩ := law_T C0
    have hT : xTl sa s.heap.size s H := xTl_kept hT0 (fun a q1 q2 => hI.2.2.2.2.1.2.1 a q1 q2)
    refine LW_lr C0 (L_rule_thr (dC := dC) (dI := dI) (dA := dA) (ad := adX) (sa := sa) (sz := H.size) (hs := s.heap.size) (qo := qo) hfl a1 (LI_D hI) hI.2.2.2.2.1.1)
      ⟨xTB_blind, fun U hU hW => ⟨rfl, ⟨by rw [hU], by rw [hU]; exact hI.1.1, va_K.moved hW.alike hI.2.1, hI.2.2.1.1.weaken (fun _ _ _ _ => trivial), hI.2.2.2.2.2.1, zNf_warm hW hI.2.2.2.2.2.2.2⟩, xTl_warm hW hT hU⟩⟩ rfl rfl (by omega) (by omega) (fun v st₀ t H1 Lc h0 e1 hq hLc => ?_)
    obtain ⟨hv, hP1, hF1⟩ := hq
    cases hv
    have hS' := va_S_add hI.2.2.2.2.1 h0 e1 hF1 hLc hsubX
    have hI1 : LI dC dI dA s H1 (locs ++ Lc) adX adM qo sX sM z := by
      refine LI_X1 hI ⟨by rw [e1]; exact hP1, hI.2.1, hI.2.2.1.1, hS', fun _ q => q, hI.2.2.2.2.2.1⟩ (fun q q1 q2 => ?_) hI.2.2.1.1.self
      have := hF1.2 q (by rw [h0]; exact q1) q2
      rw [e1, this, h0]
    refine LW_n C0 hI1.2.2.2.2.1 12 rfl ⟨⟨rfl, h1⟩, ⟨rfl, h2⟩, trivial⟩ ?_
    refine LW_M C0 hI1 vX12_rule (m_rule_no sM _ _ a2) rfl kL_43 (fun _ => rfl) (fun _ => rfl) rfl rfl rfl rfl (by omega) (by omega) (fun H2 locs2 adM2 q2 hI2 => ?_)
    refine LW_n C0 hI2.2.2.2.2.1 2 rfl trivial ?_
    refine LW_M C0 hI2 vX12_thrown (m_thrown _) rfl kL_44 (fun _ => rfl) (fun _ => rfl) (by rw [← q2]; rfl) rfl rfl rfl (by omega) (by omega) (fun H3 locs3 adM3 q3 hI3 => ?_)
    refine LW_n C0 hI3.2.2.2.2.1 1 rfl trivial ?_
    refine LW_b C0 rfl (fun _ => ?_) (fun q => absurd rfl q)
    refine LW_n C0 hI3.2.2.2.2.1 1 rfl trivial ?_
    refine LW_b C0 rfl (fun _ => ?_) (fun q => absurd (by show ¬ ((1 : Int32) = 0); decide) q)
    refine LW_n C0 hI3.2.2.2.2.1 1 rfl trivial ?_
    refine LW_le (l' := ll b (adX 0) (adM 0) qo (nI i)) (zle_s (zle_s (zle_s (zle_s (zle_s (zle_n (zle_n zle_0))))))) ?_
    exact LW_w (by omega) (by omega) (k H3 locs3 adX adM3 sX _ z rfl (q3.trans q2) rfl hI3 a3)
  · have hsub2 : ∀ q, va_A (zws ZX dA adX sX ++ lrow dA qo z) H.size q → s.heap.size ≤ q := by
      rintro q (⟨k9, x, hk⟩ | hq)
      · rcases List.mem_append.mp (List.mem_of_getElem? hk) with hx | hx
        · exact LI_D hI _ hx
        · rw [List.mem_singleton] at hx
          cases hx
          exact hI.2.2.1.2.2
      · exact Nat.le_trans hI.2.2.2.2.1.1 hq
    refine LW_lr C0 (L_rule_ok (dC := dC) (dI := dI) (dA := dA) (ad := adX) (z := z) (sz := H.size) (qo := qo) (x_rule sX _ _ a1 a2 a3 b1 b2))
      ⟨lrB_blind, fun U hU hW => ⟨rfl, by rw [hU], by rw [hU]; exact hI.1.1, by rw [hU]; exact hI.1.2.2, va_K.moved hW.alike hI.2.1, hI.2.2.1.1.weaken (fun _ _ _ _ => trivial), hI.2.2.2.1.2.1, hI.2.2.2.2.2.1, zNf_warm hW hI.2.2.2.2.2.2.2⟩⟩ rfl rfl (by omega) (by omega) (fun v st₀ t H1 Lc h0 e1 hq hLc => ?_)
    obtain ⟨hv, hP1, hR1, hF1⟩ := hq
    cases hv
    have hS' := va_S_add hI.2.2.2.2.1 h0 e1 hF1 hLc hsub2
    have hkM : va_P (dC, dI) vwCl (zws ZR dA adM sM) H1 := by
      refine wap_keep (w1 := zws ZX dA adX sX ++ lrow dA qo z) hI.1.2.1 ?_ (fun q q1 q2 => ?_)
      · intro x hx y hy ee
        rcases List.mem_append.mp hx with hx | hx
        · exact hI.2.2.2.1.1 x hx y hy ee
        · exact hI.2.2.2.1.2.2 y hy x hx ee.symm
      · have := hF1.2 q (by rw [h0]; exact q1) q2
        rw [e1, this, h0]
    have hI1 : LI dC dI dA s H1 (locs ++ Lc) adX adM qo sX sM (vp_updL z 0 (xrul sX (xs (nI i + 1).toNatClampNeg) (xs (nI i + 2).toNatClampNeg)).toInt64) :=
      ⟨⟨by rw [e1]; exact hP1, hkM, by rw [e1]; exact hR1⟩, hI.2.1, hI.2.2.1, ⟨hI.2.2.2.1.1, wap_row hI.2.2.2.1.2.1, wap_row hI.2.2.2.1.2.2⟩, hS', hI.2.2.2.2.2.1, hI.2.2.2.2.2.2.1, hI.2.2.2.2.2.2.2⟩
    refine LW_n C0 hI1.2.2.2.2.1 12 rfl ⟨⟨rfl, h1⟩, ⟨rfl, h2⟩, trivial⟩ ?_
    refine LW_M C0 hI1 vX12_rule (m_rule sM _ _ a4 a2 a3 b1 b3) rfl kL_43 (fun _ => rfl) (fun _ => rfl) rfl rfl rfl rfl (by omega) (by omega) (fun H2 locs2 adM2 q2 hI2 => ?_)
    refine LW_n C0 hI2.2.2.2.2.1 2 rfl trivial ?_
    refine LW_M C0 hI2 vX12_thrown (m_thrown _) rfl kL_44 (fun _ => rfl) (fun _ => rfl) (by rw [← q2]; rfl) rfl rfl rfl (by omega) (by omega) (fun H3 locs3 adM3 q3 hI3 => ?_)
    refine LW_n C0 hI3.2.2.2.2.1 1 rfl trivial ?_
    refine LW_b C0 rfl (fun _ => ?_) (fun q => absurd rfl q)
    refine LW_n C0 hI3.2.2.2.2.1 1 rfl trivial ?_
    refine LW_b C0 rfl (fun q => absurd rfl q) (fun _ => ?_)
    refine LW_n C0 hI3.2.2.2.2.1 2 rfl trivial ?_
    have tail : LW p l0 e s m b below meth c H3 locs3 (cells + 0) (slots + 0) Q (392, zst1 (zst1 (ll b (adX 0) (adM 0) qo (nI i)) 5 (.int 0)) 6 (.int (mrul sM (xs (nI i + 1).toNatClampNeg) (xs (nI i + 2).toNatClampNeg))), [.long (xrul sX (xs (nI i + 1).toNatClampNeg) (xs (nI i + 2).toNatClampNeg)).toInt64]) := by
      refine LW_n C0 hI3.2.2.2.2.1 3 rfl trivial ?_
      refine LW_b C0 rfl (fun _ => ?_) (fun q => absurd (by rw [a5]; exact lg_cmp_self _) q)
      refine LW_n C0 hI3.2.2.2.2.1 1 rfl trivial ?_
      refine LW_le (l' := ll b (adX 0) (adM 0) qo (nI i)) (zle_s (zle_s (zle_s (zle_s (zle_s (zle_n (zle_n zle_0))))))) ?_
      exact LW_w (by omega) (by omega) (k H3 locs3 adX adM3 sX _ _ rfl (q3.trans q2) rfl hI3 a6)
    intro ls hlv
    obtain ⟨hd, -, -⟩ := lD (show zfe mL_law 391 = some (.laload, 1, _, _, _) from rfl)
    exact va_lald (ws := lrow dA qo (vp_updL z 0 (xrul sX (xs (nI i + 1).toNatClampNeg) (xs (nI i + 2).toNatClampNeg)).toInt64)) C0.1 C0.2.1 hI3.2.1 hI3.1.2.2 0 2 rfl rfl (i := 0) (by show ¬ ((0 : Int32) < 0 ∨ 1 ≤ (0 : Int32).toNatClampNeg); decide) hd (tail ls hlv)
end R4
