section LawCall
variable {p : Program} {l0 : Launch} {e : Env} {s : State} {m : MethodId} {below : List Frame} {meth : Method} {c : Code} {b L : Nat} {xs : Nat → Int32} {H : Heap} {locs : List Loc} {cells slots : Nat} {Q : State → Prop}
/-- behind a call, with what it left as it was -/
theorem zback2 {S : Type} {Z : ZW S} {s1 s2 : S} {r1 : Option Value} {R : Room} {args a : Array Value} {mc ms pc : Nat} {ls : Array Slot} {A : Nat → Prop} {dC : Nat → ClassId} {dI : Nat → Nat → Nat} {dA : Nat → ClassId} {ad : Nat → Nat} {st0 rest : List Value}
    (hH : ZH Z dC dI dA ad A s H locs s1)
    (hr : va_Run p l0 e R s m args below meth c H locs cells slots mc ms (F0 m pc ls st0) rest (zQ Z dC dI dA ad (Z.2.1 s1) (va_A (zws Z dA ad s1) H.size) r1 s2 a) (va_A (zws Z dA ad s1) H.size))
    (kk : ∀ (H1 : Heap) (locs1 : List Loc) (ad' : Nat → Nat), (∀ k, k < Z.2.1 s1 → ad' k = ad k) → ZH Z dC dI dA ad' A s H1 locs1 s2 → (∀ q : Nat, q < H.size → ¬ va_A (zws Z dA ad s1) H.size q → H1[q]? = H[q]?) → va_D (va_A (zws Z dA ad s1) H.size) (zws Z dA ad' s2) → W p l0 e R s m args below meth c H1 locs1 (cells + mc) (slots + ms) Q (F0 m (pc + 3) ls ((r1.map (ze ad')).toList ++ rest))) : W p l0 e R s m args below meth c H locs cells slots Q (F0 m pc ls st0) := by
  obtain ⟨hP, hK, hD, hS, hA, had⟩ := hH
  have hsub : ∀ q, va_A (zws Z dA ad s1) H.size q → A q := by
    intro q hq
    rcases hq with ⟨k, e, hk⟩ | hq
    · exact hD.2 k _ hk
    · exact hA q (Nat.le_trans hS.1 hq)
  intro T hT X
  obtain ⟨v, st₀, t, T', Lc, h0, X', hLc, e1, e2, ⟨⟨ad', ha1, ha2, hv, hP1, hK1, hD1⟩, hz, hk⟩, stp⟩ := hr T hT X
  cases hv
  rw [h0] at hz hk
  have hS' : va_S A s.heap T'.heap (locs ++ Lc) := ⟨Nat.le_trans hS.1 (by rw [e1]; exact hz), fun q h1 h2 => by
      rw [e1, hk q (Nat.lt_of_lt_of_le h1 hS.1) (fun z => h2 (hsub q z))]; exact hS.2.1 q h1 h2, fun q hq => by
      rcases List.mem_append.mp hq with h | h
      · exact hS.2.2 q h
      · exact hsub _ (hLc q h)⟩
  obtain ⟨t2, a1, b1⟩ := kk T'.heap (locs ++ Lc) ad' ha1 ⟨by rw [e1]; exact hP1, hK, hD1.weaken (fun _ _ _ h => hsub _ h), hS', hA, ha2⟩ (fun q h1 h2 => by rw [e1]; exact hk q h1 h2) hD1 T' rfl X'
  exact ⟨t2, stp t2 a1, b1⟩
abbrev A0 (s : State) : Nat → Prop := fun q => s.heap.size ≤ q
/-- the law's world: the class's, the reference's, the row of one long -/
def LI (dC : Nat → ClassId) (dI : Nat → Nat → Nat) (dA : Nat → ClassId) (s : State) (H : Heap) (locs : List Loc) (adX adM : Nat → Nat) (qo : Nat) (sX : SX) (sM : SM) (z : Nat → Int64) : Prop :=
  (va_P (dC, dI) vwCl (zws ZX dA adX sX) H ∧ va_P (dC, dI) vwCl (zws ZR dA adM sM) H ∧ va_P (dC, dI) vwCl [(qo, .inl (dA 2, 1, .inr (.inl z)))] H) ∧
  va_K (dC, dI) vwCl (ztys dA) s ∧ (va_D (A0 s) (zws ZX dA adX sX) ∧ va_D (A0 s) (zws ZR dA adM sM) ∧ s.heap.size ≤ qo) ∧
  (wap (zws ZX dA adX sX) (zws ZR dA adM sM) ∧ wap (zws ZX dA adX sX) [(qo, .inl (dA 2, 1, .inr (.inl z)))] ∧ wap (zws ZR dA adM sM) [(qo, .inl (dA 2, 1, .inr (.inl z)))]) ∧
  va_S (A0 s) s.heap H locs ∧ (∀ k, ZX.2.1 sX ≤ k → adX k = 0) ∧ (∀ k, ZR.2.1 sM ≤ k → adM k = 0) ∧ zNf s
/-- a call of a method of an object of one of the two worlds -/
theorem LW_call {S : Type} {Z : ZW S} {MX : MD} {dC : Nat → ClassId} {dI : Nat → Nat → Nat} {dA : Nat → ClassId} {ad : Nat → Nat} {s1 s2 : S} {r1 : Option Value} {n idx pc nx tg : Nat} {v : Int32} {as stk st : List Value} {l : List (Option Value)}
    (C0 : lw_At p s m meth c b L xs) (hN : zNf s) (hH : ZH Z dC dI dA ad (A0 s) s H locs s1) (hM : ZMV MX n) (ev : Ev Z MX (.ref 0 :: as) s1 r1 s2) (hfe : zfe mL_law pc = some (.invokevirtual idx, 3, nx, tg, v)) (hlk : Cond.methodLink R_law idx MX.2.1 ∈ zT)
    (has : ∀ ad, as.map (ze ad) = as) (hr1 : ∀ ad, r1.map (ze ad) = r1) (hst : stk = as.reverse ++ .ref (ad 0) :: st) (hn : as.length = n) (hcr : zcr mL_law MX st = true) (hrc : zrc Z MX s1 0 = true)
    (hcl : cells + (Z.2.1 s2 - Z.2.1 s1) ≤ 600002) (hsl : slots + (Z.2.2.1 s2 - Z.2.2.1 s1) ≤ 7302231)
    (k : ∀ (H1 : Heap) (locs1 : List Loc) (ad' : Nat → Nat), ad' 0 = ad 0 → ZH Z dC dI dA ad' (A0 s) s H1 locs1 s2 → (∀ q : Nat, q < H.size → ¬ va_A (zws Z dA ad s1) H.size q → H1[q]? = H[q]?) → va_D (va_A (zws Z dA ad s1) H.size) (zws Z dA ad' s2) →
      LW p l0 e s m b below meth c H1 locs1 (cells + (Z.2.1 s2 - Z.2.1 s1)) (slots + (Z.2.2.1 s2 - Z.2.2.1 s1)) Q (nx, l, r1.toList ++ st)) : LW p l0 e s m b below meth c H locs cells slots Q (pc, l, stk) := by
  subst hst
  intro ls hlv
  dsimp only at hlv ⊢
  obtain ⟨hd, hnx, -⟩ := lD hfe
  have hx := C0.1
  have hb := C0.2.1
  have hml := C0.2.2.2.1
  have hown := C0.2.2.2.2.1
  have hts := lts C0
  unfold zcr at hcr
  simp only [Bool.and_eq_true] at hcr
  obtain ⟨⟨hc1, hc2⟩, hc3⟩ := hcr
  have hc1 : MX.2.2.2.2.2.1.1 + 1 ≤ 12 := Nat.le_of_ble_eq_true hc1
  have hc2 : 8 + (MX.2.2.2.1 + 11) + MX.2.2.2.2.2.1.2.1 ≤ 466 := Nat.le_of_ble_eq_true hc2
  have hc3 := Nat.le_of_ble_eq_true hc3
  obtain ⟨hb1, ci, fs, hb2, hb3⟩ : 0 < Z.2.1 s1 ∧ ∃ ci fs, Z.1 s1 0 = .inr (ci, fs) ∧ ci = MX.1 := by
    unfold zrc at hrc
    split at hrc
    · rename_i ci fs hc
      rw [Bool.and_eq_true] at hrc
      exact ⟨Nat.le_of_ble_eq_true hrc.2, ci, fs, hc, Nat.eq_of_beq_eq_true hrc.1⟩
    · cases hrc
  have hat : (zws Z dA ad s1)[0]? = some (ad 0, .inr (ci, fs.map (ze ad))) := by rw [zws_at hb1, hb2]; rfl
  obtain ⟨q, hq, hqn⟩ : ∃ q, (vwCl)[ci]? = some q ∧ q.1 = MX.2.1.cls := by
    have h1 := hM.2.2.2.2.2.2
    have h2 := hM.2.2.2.2.2.1
    rw [← hb3] at h1 h2
    unfold zcn at h1
    cases hv : (vwCl)[ci]? with
    | none =>
      rw [List.getElem?_eq_none_iff] at hv
      exact absurd h2 (Nat.not_lt.mpr hv)
    | some q => rw [hv] at h1; exact ⟨q, rfl, h1⟩
  have hrecv : ∃ cell : Cell, H[ad 0]? = some cell ∧ cell.vm.isStatics = false ∧ s.vm.findClass MX.2.1.cls = some cell.cls := by
    rw [← hqn]
    exact va_recv hH.2.1 hH.1 hq hat
  have hrun := va_runV (b := ad 0) (As := as) (rest := st) (cells := cells) (slots := slots) (locs := locs) (g := F0 m pc ls (as.reverse ++ Value.ref (ad 0) :: st)) (e := e) (below := below) (meth := meth) (R := room_1) ⟨hx, hb, hml, hown, hts⟩ (ev.2 l0 dC dI dA ad H.size)
    (cwV n hts (zgoodW hlk hM.2.2) rfl rfl rfl ⟨rfl, hM.2.2.1.2.2⟩ ⟨hc1, hc2⟩)
    ⟨zPc_blind, hrecv, fun U hU hW => ⟨by rw [List.map_cons, has ad]; rfl, by rw [hU], by rw [hU]; exact hH.1, va_K.moved hW.alike hH.2.1, hH.2.2.1.weaken (fun _ _ _ _ => trivial), hH.2.2.2.2.2, zNf_warm hW hN⟩⟩ rfl hn hlv.2.1 rfl (lv_room hc3) hd
    ⟨hcl, hsl⟩
  refine zback2 hH hrun (fun H1 locs1 ad' hag hH1 hk hD1 => ?_)
  rw [hr1 ad', ← hnx]
  exact k H1 locs1 ad' (hag 0 hb1) hH1 hk hD1 ls hlv
theorem LI_X {dC : Nat → ClassId} {dI : Nat → Nat → Nat} {dA : Nat → ClassId} {adX adM : Nat → Nat} {qo : Nat} {sX : SX} {sM : SM} {z : Nat → Int64} (h : LI dC dI dA s H locs adX adM qo sX sM z) : ZH ZX dC dI dA adX (A0 s) s H locs sX := ⟨h.1.1, h.2.1, h.2.2.1.1, h.2.2.2.2.1, fun _ q => q, h.2.2.2.2.2.1⟩
theorem LI_M {dC : Nat → ClassId} {dI : Nat → Nat → Nat} {dA : Nat → ClassId} {adX adM : Nat → Nat} {qo : Nat} {sX : SX} {sM : SM} {z : Nat → Int64} (h : LI dC dI dA s H locs adX adM qo sX sM z) : ZH ZR dC dI dA adM (A0 s) s H locs sM := ⟨h.1.2.1, h.2.1, h.2.2.1.2.1, h.2.2.2.2.1, fun _ q => q, h.2.2.2.2.2.2.1⟩
theorem LI_X1 {dC : Nat → ClassId} {dI : Nat → Nat → Nat} {dA : Nat → ClassId} {adX adX1 adM : Nat → Nat} {qo : Nat} {sX sX1 : SX} {sM : SM} {z : Nat → Int64} {H1 : Heap} {locs1 : List Loc} (h : LI dC dI dA s H locs adX adM qo sX sM z) (hH : ZH ZX dC dI dA adX1 (A0 s) s H1 locs1 sX1)
    (hk : ∀ q : Nat, q < H.size → ¬ va_A (zws ZX dA adX sX) H.size q → H1[q]? = H[q]?) (hD : va_D (va_A (zws ZX dA adX sX) H.size) (zws ZX dA adX1 sX1)) : LI dC dI dA s H1 locs1 adX1 adM qo sX1 sM z := by
  obtain ⟨⟨p1, p2, p3⟩, hK, ⟨d1, d2, d3⟩, ⟨a1, a2, a3⟩, hS, c1, c2, hN⟩ := h
  exact ⟨⟨hH.1, wap_keep p2 a1 hk, wap_keep p3 a2 hk⟩, hK, ⟨hH.2.2.1, d2, d3⟩, ⟨wap_new p2 a1 hD, wap_new p3 a2 hD, a3⟩, hH.2.2.2.1, hH.2.2.2.2.2, c2, hN⟩
theorem LI_M1 {dC : Nat → ClassId} {dI : Nat → Nat → Nat} {dA : Nat → ClassId} {adX adM adM1 : Nat → Nat} {qo : Nat} {sX : SX} {sM sM1 : SM} {z : Nat → Int64} {H1 : Heap} {locs1 : List Loc} (h : LI dC dI dA s H locs adX adM qo sX sM z) (hH : ZH ZR dC dI dA adM1 (A0 s) s H1 locs1 sM1)
    (hk : ∀ q : Nat, q < H.size → ¬ va_A (zws ZR dA adM sM) H.size q → H1[q]? = H[q]?) (hD : va_D (va_A (zws ZR dA adM sM) H.size) (zws ZR dA adM1 sM1)) : LI dC dI dA s H1 locs1 adX adM1 qo sX sM1 z := by
  obtain ⟨⟨p1, p2, p3⟩, hK, ⟨d1, d2, d3⟩, ⟨a1, a2, a3⟩, hS, c1, c2, hN⟩ := h
  exact ⟨⟨wap_keep p1 (wap_symm a1) hk, hH.1, wap_keep p3 a3 hk⟩, hK, ⟨d1, hH.2.2.1, d3⟩, ⟨wap_symm (wap_new p1 (wap_symm a1) hD), a2, wap_new p3 a3 hD⟩, hH.2.2.2.1, c1, hH.2.2.2.2.2, hN⟩
/-- the class is asked -/
theorem LW_X {dC : Nat → ClassId} {dI : Nat → Nat → Nat} {dA : Nat → ClassId} {adX adM : Nat → Nat} {qo : Nat} {sX sX1 : SX} {sM : SM} {z : Nat → Int64} {MX : MD} {r1 : Option Value} {n idx pc nx tg : Nat} {v : Int32} {as stk st : List Value} {l : List (Option Value)}
    (C0 : lw_At p s m meth c b L xs) (hI : LI dC dI dA s H locs adX adM qo sX sM z) (hM : ZMV MX n) (ev : Ev ZX MX (.ref 0 :: as) sX r1 sX1) (hfe : zfe mL_law pc = some (.invokevirtual idx, 3, nx, tg, v)) (hlk : Cond.methodLink R_law idx MX.2.1 ∈ zT)
    (has : ∀ ad, as.map (ze ad) = as) (hr1 : ∀ ad, r1.map (ze ad) = r1) (hst : stk = as.reverse ++ .ref (adX 0) :: st) (hn : as.length = n) (hcr : zcr mL_law MX st = true) (hrc : zrc ZX MX sX 0 = true)
    (hcl : cells + (ZX.2.1 sX1 - ZX.2.1 sX) ≤ 600002) (hsl : slots + (ZX.2.2.1 sX1 - ZX.2.2.1 sX) ≤ 7302231)
    (k : ∀ (H1 : Heap) (locs1 : List Loc) (adX1 : Nat → Nat), adX1 0 = adX 0 → LI dC dI dA s H1 locs1 adX1 adM qo sX1 sM z → LW p l0 e s m b below meth c H1 locs1 (cells + (ZX.2.1 sX1 - ZX.2.1 sX)) (slots + (ZX.2.2.1 sX1 - ZX.2.2.1 sX)) Q (nx, l, r1.toList ++ st)) : LW p l0 e s m b below meth c H locs cells slots Q (pc, l, stk) :=
  LW_call C0 hI.2.2.2.2.2.2.2 (LI_X hI) hM ev hfe hlk has hr1 hst hn hcr hrc hcl hsl (fun H1 locs1 ad' h0 hH1 hk hD => k H1 locs1 ad' h0 (LI_X1 hI hH1 hk hD))
/-- the reference is asked -/
theorem LW_M {dC : Nat → ClassId} {dI : Nat → Nat → Nat} {dA : Nat → ClassId} {adX adM : Nat → Nat} {qo : Nat} {sX : SX} {sM sM1 : SM} {z : Nat → Int64} {MX : MD} {r1 : Option Value} {n idx pc nx tg : Nat} {v : Int32} {as stk st : List Value} {l : List (Option Value)}
    (C0 : lw_At p s m meth c b L xs) (hI : LI dC dI dA s H locs adX adM qo sX sM z) (hM : ZMV MX n) (ev : Ev ZR MX (.ref 0 :: as) sM r1 sM1) (hfe : zfe mL_law pc = some (.invokevirtual idx, 3, nx, tg, v)) (hlk : Cond.methodLink R_law idx MX.2.1 ∈ zT)
    (has : ∀ ad, as.map (ze ad) = as) (hr1 : ∀ ad, r1.map (ze ad) = r1) (hst : stk = as.reverse ++ .ref (adM 0) :: st) (hn : as.length = n) (hcr : zcr mL_law MX st = true) (hrc : zrc ZR MX sM 0 = true)
    (hcl : cells ≤ 600002) (hsl : slots ≤ 7302231)
    (k : ∀ (H1 : Heap) (locs1 : List Loc) (adM1 : Nat → Nat), adM1 0 = adM 0 → LI dC dI dA s H1 locs1 adX adM1 qo sX sM1 z → LW p l0 e s m b below meth c H1 locs1 cells slots Q (nx, l, r1.toList ++ st)) : LW p l0 e s m b below meth c H locs cells slots Q (pc, l, stk) :=
  LW_call C0 hI.2.2.2.2.2.2.2 (LI_M hI) hM ev hfe hlk has hr1 hst hn hcr hrc hcl hsl (fun H1 locs1 ad' h0 hH1 hk hD => k H1 locs1 ad' h0 (LI_M1 hI hH1 hk hD))
end LawCall
