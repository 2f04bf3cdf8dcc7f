section LawLoop
variable {p : Program} {l0 : Launch} {e : Env} {s : State} {m : MethodId} {below : List Frame} {meth : Method} {c : Code} {b L i : Nat} {xs : Nat → Int32} {H : Heap} {locs : List Loc} {cells slots : Nat} {Q : State → Prop} {dC : Nat → ClassId} {dI : Nat → Nat → Nat} {dA : Nat → ClassId} {adX adM : Nat → Nat} {qo : Nat} {sX : SX} {sM : SM} {z : Nat → Int64} {I : SX → SM → Prop}
theorem Ag_up {MX MR : MD} {as : List Value} (h : Ag MX MR as sX sM I) : Ag MX MR as sX sM (fun a b => I a b ∧ sX.2.2.2.2.1 ≤ a.2.2.2.2.1) := by
  obtain ⟨r, sX1, sM1, e1, e2, hi⟩ := h
  have h1 : 3 * sX.2.2.2.2.1 + 99 ≤ 3 * sX1.2.2.2.2.1 + 99 := e1.1.1
  exact ⟨r, sX1, sM1, e1, e2, hi, by omega⟩
theorem Sim_up (h : Sim sX sM I) : Sim sX sM (fun a b => I a b ∧ sX.2.2.2.2.1 ≤ a.2.2.2.2.1) := ⟨fun x0 x1 x2 x3 x4 => Ag_up (h.1 x0 x1 x2 x3 x4), fun x0 => Ag_up (h.2.1 x0), fun x0 => Ag_up (h.2.2.1 x0), fun x0 => Ag_up (h.2.2.2.1 x0), fun x0 x1 => Ag_up (h.2.2.2.2.1 x0 x1), fun x0 x1 => Ag_up (h.2.2.2.2.2.1 x0 x1), fun x0 x1 => Ag_up (h.2.2.2.2.2.2.1 x0 x1), fun x0 x1 x2 => Ag_up (h.2.2.2.2.2.2.2.1 x0 x1 x2), fun x0 => Ag_up (h.2.2.2.2.2.2.2.2.1 x0), fun x0 => Ag_up (h.2.2.2.2.2.2.2.2.2.1 x0), fun x0 => Ag_up (h.2.2.2.2.2.2.2.2.2.2.1 x0), Ag_up h.2.2.2.2.2.2.2.2.2.2.2.1, fun x0 => Ag_up (h.2.2.2.2.2.2.2.2.2.2.2.2.1 x0), fun x0 x1 x2 x3 x4 q0 => Ag_up (h.2.2.2.2.2.2.2.2.2.2.2.2.2.1 x0 x1 x2 x3 x4 q0), fun x0 x1 x2 => Ag_up (h.2.2.2.2.2.2.2.2.2.2.2.2.2.2.1 x0 x1 x2), fun x0 x1 x2 => Ag_up (h.2.2.2.2.2.2.2.2.2.2.2.2.2.2.2.1 x0 x1 x2), fun x0 x1 x2 x3 q0 => Ag_up (h.2.2.2.2.2.2.2.2.2.2.2.2.2.2.2.2.1 x0 x1 x2 x3 q0), fun x0 x1 x2 x3 => Ag_up (h.2.2.2.2.2.2.2.2.2.2.2.2.2.2.2.2.2.1 x0 x1 x2 x3), fun x0 x1 => Ag_up (h.2.2.2.2.2.2.2.2.2.2.2.2.2.2.2.2.2.2.1 x0 x1), fun x0 x1 x2 => Ag_up (h.2.2.2.2.2.2.2.2.2.2.2.2.2.2.2.2.2.2.2.1 x0 x1 x2), fun x0 x1 x2 x3 => Ag_up (h.2.2.2.2.2.2.2.2.2.2.2.2.2.2.2.2.2.2.2.2.1 x0 x1 x2 x3), fun x0 x1 x2 x3 => Ag_up (h.2.2.2.2.2.2.2.2.2.2.2.2.2.2.2.2.2.2.2.2.2.1 x0 x1 x2 x3), fun x0 x1 => Ag_up (h.2.2.2.2.2.2.2.2.2.2.2.2.2.2.2.2.2.2.2.2.2.2.1 x0 x1), fun x0 x1 => Ag_up (h.2.2.2.2.2.2.2.2.2.2.2.2.2.2.2.2.2.2.2.2.2.2.2.1 x0 x1), fun x0 x1 x2 x3 => Ag_up (h.2.2.2.2.2.2.2.2.2.2.2.2.2.2.2.2.2.2.2.2.2.2.2.2.1 x0 x1 x2 x3), Ag_up h.2.2.2.2.2.2.2.2.2.2.2.2.2.2.2.2.2.2.2.2.2.2.2.2.2.1, fun x0 x1 x2 => Ag_up (h.2.2.2.2.2.2.2.2.2.2.2.2.2.2.2.2.2.2.2.2.2.2.2.2.2.2.1 x0 x1 x2), fun x0 x1 => Ag_up (h.2.2.2.2.2.2.2.2.2.2.2.2.2.2.2.2.2.2.2.2.2.2.2.2.2.2.2.1 x0 x1), fun x0 => Ag_up (h.2.2.2.2.2.2.2.2.2.2.2.2.2.2.2.2.2.2.2.2.2.2.2.2.2.2.2.2.1 x0), Ag_up h.2.2.2.2.2.2.2.2.2.2.2.2.2.2.2.2.2.2.2.2.2.2.2.2.2.2.2.2.2.1, Ag_up h.2.2.2.2.2.2.2.2.2.2.2.2.2.2.2.2.2.2.2.2.2.2.2.2.2.2.2.2.2.2.1, fun x0 => Ag_up (h.2.2.2.2.2.2.2.2.2.2.2.2.2.2.2.2.2.2.2.2.2.2.2.2.2.2.2.2.2.2.2 x0)⟩
def lT : List Nat := [188, 261, 286, 311, 336, 404, 441, 478, 515, 564, 589, 614, 639, 652, 677, 766, 815, 864, 941, 1002, 1039, 1088, 1149, 1210, 1247, 1284, 1345, 1358, 1407, 1476, 1533, 1546, 1559]
theorem LW_w {k n : Nat} (h1 : cells ≤ k) (h2 : slots ≤ n) {f : LF} (kk : LW p l0 e s m b below meth c H locs k n Q f) : LW p l0 e s m b below meth c H locs cells slots Q f := fun ls hl => W.widen h1 h2 (kk ls hl)
set_option maxHeartbeats 4000000 in
theorem LW_sw (C0 : lw_At p s m meth c b L xs) {x : Int32} {l : List (Option Value)} (hout : LW p l0 e s m b below meth c H locs cells slots Q (1584, l, [])) (hin : ∀ k t : Nat, lT[k]? = some t → LW p l0 e s m b below meth c H locs cells slots Q (t, l, [])) : LW p l0 e s m b below meth c H locs cells slots Q (40, l, [.int x]) := by
  intro ls hl
  dsimp only at hl ⊢
  obtain ⟨n0, nx0, tg0, v0, hz⟩ : ∃ n0 nx0 tg0 v0, zfe mL_law 40 = some (.tableswitch 1544 0 32 #[148, 221, 246, 271, 296, 364, 401, 438, 475, 524, 549, 574, 599, 612, 637, 726, 775, 824, 901, 962, 999, 1048, 1109, 1170, 1207, 1244, 1305, 1318, 1367, 1436, 1493, 1506, 1519], n0, nx0, tg0, v0) := ⟨_, _, _, _, rfl⟩
  obtain ⟨hd, -, -⟩ := lD hz
  by_cases h : x.toInt < 0 ∨ 32 < x.toInt
  · exact lv_tableOut C0.1 C0.2.1 hd h (show (40 : Int) + 1544 = ((1584 : Nat) : Int) from rfl) (hout ls hl)
  · have h1 : ¬ x.toInt < 0 := fun q => h (Or.inl q)
    have h2 : ¬ 32 < x.toInt := fun q => h (Or.inr q)
    obtain ⟨k, hk⟩ : ∃ k : Nat, x.toInt = (k : Int) := ⟨x.toInt.toNat, by omega⟩
    have hk2 : k < 33 := by omega
    match k, hk, hk2 with
    | 0, hk, _ => exact lv_tableIn (off := 148) (tgt := 188) C0.1 C0.2.1 hd h1 h2 (by rw [hk]; rfl) (show (40 : Int) + 148 = ((188 : Nat) : Int) from rfl) (hin 0 188 rfl ls hl)
    | 1, hk, _ => exact lv_tableIn (off := 221) (tgt := 261) C0.1 C0.2.1 hd h1 h2 (by rw [hk]; rfl) (show (40 : Int) + 221 = ((261 : Nat) : Int) from rfl) (hin 1 261 rfl ls hl)
    | 2, hk, _ => exact lv_tableIn (off := 246) (tgt := 286) C0.1 C0.2.1 hd h1 h2 (by rw [hk]; rfl) (show (40 : Int) + 246 = ((286 : Nat) : Int) from rfl) (hin 2 286 rfl ls hl)
    | 3, hk, _ => exact lv_tableIn (off := 271) (tgt := 311) C0.1 C0.2.1 hd h1 h2 (by rw [hk]; rfl) (show (40 : Int) + 271 = ((311 : Nat) : Int) from rfl) (hin 3 311 rfl ls hl)
    | 4, hk, _ => exact lv_tableIn (off := 296) (tgt := 336) C0.1 C0.2.1 hd h1 h2 (by rw [hk]; rfl) (show (40 : Int) + 296 = ((336 : Nat) : Int) from rfl) (hin 4 336 rfl ls hl)
    | 5, hk, _ => exact lv_tableIn (off := 364) (tgt := 404) C0.1 C0.2.1 hd h1 h2 (by rw [hk]; rfl) (show (40 : Int) + 364 = ((404 : Nat) : Int) from rfl) (hin 5 404 rfl ls hl)
    | 6, hk, _ => exact lv_tableIn (off := 401) (tgt := 441) C0.1 C0.2.1 hd h1 h2 (by rw [hk]; rfl) (show (40 : Int) + 401 = ((441 : Nat) : Int) from rfl) (hin 6 441 rfl ls hl)
    | 7, hk, _ => exact lv_tableIn (off := 438) (tgt := 478) C0.1 C0.2.1 hd h1 h2 (by rw [hk]; rfl) (show (40 : Int) + 438 = ((478 : Nat) : Int) from rfl) (hin 7 478 rfl ls hl)
    | 8, hk, _ => exact lv_tableIn (off := 475) (tgt := 515) C0.1 C0.2.1 hd h1 h2 (by rw [hk]; rfl) (show (40 : Int) + 475 = ((515 : Nat) : Int) from rfl) (hin 8 515 rfl ls hl)
    | 9, hk, _ => exact lv_tableIn (off := 524) (tgt := 564) C0.1 C0.2.1 hd h1 h2 (by rw [hk]; rfl) (show (40 : Int) + 524 = ((564 : Nat) : Int) from rfl) (hin 9 564 rfl ls hl)
    | 10, hk, _ => exact lv_tableIn (off := 549) (tgt := 589) C0.1 C0.2.1 hd h1 h2 (by rw [hk]; rfl) (show (40 : Int) + 549 = ((589 : Nat) : Int) from rfl) (hin 10 589 rfl ls hl)
    | 11, hk, _ => exact lv_tableIn (off := 574) (tgt := 614) C0.1 C0.2.1 hd h1 h2 (by rw [hk]; rfl) (show (40 : Int) + 574 = ((614 : Nat) : Int) from rfl) (hin 11 614 rfl ls hl)
    | 12, hk, _ => exact lv_tableIn (off := 599) (tgt := 639) C0.1 C0.2.1 hd h1 h2 (by rw [hk]; rfl) (show (40 : Int) + 599 = ((639 : Nat) : Int) from rfl) (hin 12 639 rfl ls hl)
    | 13, hk, _ => exact lv_tableIn (off := 612) (tgt := 652) C0.1 C0.2.1 hd h1 h2 (by rw [hk]; rfl) (show (40 : Int) + 612 = ((652 : Nat) : Int) from rfl) (hin 13 652 rfl ls hl)
    | 14, hk, _ => exact lv_tableIn (off := 637) (tgt := 677) C0.1 C0.2.1 hd h1 h2 (by rw [hk]; rfl) (show (40 : Int) + 637 = ((677 : Nat) : Int) from rfl) (hin 14 677 rfl ls hl)
    | 15, hk, _ => exact lv_tableIn (off := 726) (tgt := 766) C0.1 C0.2.1 hd h1 h2 (by rw [hk]; rfl) (show (40 : Int) + 726 = ((766 : Nat) : Int) from rfl) (hin 15 766 rfl ls hl)
    | 16, hk, _ => exact lv_tableIn (off := 775) (tgt := 815) C0.1 C0.2.1 hd h1 h2 (by rw [hk]; rfl) (show (40 : Int) + 775 = ((815 : Nat) : Int) from rfl) (hin 16 815 rfl ls hl)
    | 17, hk, _ => exact lv_tableIn (off := 824) (tgt := 864) C0.1 C0.2.1 hd h1 h2 (by rw [hk]; rfl) (show (40 : Int) + 824 = ((864 : Nat) : Int) from rfl) (hin 17 864 rfl ls hl)
    | 18, hk, _ => exact lv_tableIn (off := 901) (tgt := 941) C0.1 C0.2.1 hd h1 h2 (by rw [hk]; rfl) (show (40 : Int) + 901 = ((941 : Nat) : Int) from rfl) (hin 18 941 rfl ls hl)
    | 19, hk, _ => exact lv_tableIn (off := 962) (tgt := 1002) C0.1 C0.2.1 hd h1 h2 (by rw [hk]; rfl) (show (40 : Int) + 962 = ((1002 : Nat) : Int) from rfl) (hin 19 1002 rfl ls hl)
    | 20, hk, _ => exact lv_tableIn (off := 999) (tgt := 1039) C0.1 C0.2.1 hd h1 h2 (by rw [hk]; rfl) (show (40 : Int) + 999 = ((1039 : Nat) : Int) from rfl) (hin 20 1039 rfl ls hl)
    | 21, hk, _ => exact lv_tableIn (off := 1048) (tgt := 1088) C0.1 C0.2.1 hd h1 h2 (by rw [hk]; rfl) (show (40 : Int) + 1048 = ((1088 : Nat) : Int) from rfl) (hin 21 1088 rfl ls hl)
    | 22, hk, _ => exact lv_tableIn (off := 1109) (tgt := 1149) C0.1 C0.2.1 hd h1 h2 (by rw [hk]; rfl) (show (40 : Int) + 1109 = ((1149 : Nat) : Int) from rfl) (hin 22 1149 rfl ls hl)
    | 23, hk, _ => exact lv_tableIn (off := 1170) (tgt := 1210) C0.1 C0.2.1 hd h1 h2 (by rw [hk]; rfl) (show (40 : Int) + 1170 = ((1210 : Nat) : Int) from rfl) (hin 23 1210 rfl ls hl)
    | 24, hk, _ => exact lv_tableIn (off := 1207) (tgt := 1247) C0.1 C0.2.1 hd h1 h2 (by rw [hk]; rfl) (show (40 : Int) + 1207 = ((1247 : Nat) : Int) from rfl) (hin 24 1247 rfl ls hl)
    | 25, hk, _ => exact lv_tableIn (off := 1244) (tgt := 1284) C0.1 C0.2.1 hd h1 h2 (by rw [hk]; rfl) (show (40 : Int) + 1244 = ((1284 : Nat) : Int) from rfl) (hin 25 1284 rfl ls hl)
    | 26, hk, _ => exact lv_tableIn (off := 1305) (tgt := 1345) C0.1 C0.2.1 hd h1 h2 (by rw [hk]; rfl) (show (40 : Int) + 1305 = ((1345 : Nat) : Int) from rfl) (hin 26 1345 rfl ls hl)
    | 27, hk, _ => exact lv_tableIn (off := 1318) (tgt := 1358) C0.1 C0.2.1 hd h1 h2 (by rw [hk]; rfl) (show (40 : Int) + 1318 = ((1358 : Nat) : Int) from rfl) (hin 27 1358 rfl ls hl)
    | 28, hk, _ => exact lv_tableIn (off := 1367) (tgt := 1407) C0.1 C0.2.1 hd h1 h2 (by rw [hk]; rfl) (show (40 : Int) + 1367 = ((1407 : Nat) : Int) from rfl) (hin 28 1407 rfl ls hl)
    | 29, hk, _ => exact lv_tableIn (off := 1436) (tgt := 1476) C0.1 C0.2.1 hd h1 h2 (by rw [hk]; rfl) (show (40 : Int) + 1436 = ((1476 : Nat) : Int) from rfl) (hin 29 1476 rfl ls hl)
    | 30, hk, _ => exact lv_tableIn (off := 1493) (tgt := 1533) C0.1 C0.2.1 hd h1 h2 (by rw [hk]; rfl) (show (40 : Int) + 1493 = ((1533 : Nat) : Int) from rfl) (hin 30 1533 rfl ls hl)
    | 31, hk, _ => exact lv_tableIn (off := 1506) (tgt := 1546) C0.1 C0.2.1 hd h1 h2 (by rw [hk]; rfl) (show (40 : Int) + 1506 = ((1546 : Nat) : Int) from rfl) (hin 31 1546 rfl ls hl)
    | 32, hk, _ => exact lv_tableIn (off := 1519) (tgt := 1559) C0.1 C0.2.1 hd h1 h2 (by rw [hk]; rfl) (show (40 : Int) + 1519 = ((1559 : Nat) : Int) from rfl) (hin 32 1559 rfl ls hl)
    | k + 33, _, hk2 => exact absurd hk2 (by omega)
/-- the case of rule, as the law has it -/
def R4 (p : Program) (l0 : Launch) (e : Env) (s : State) (m : MethodId) (b : Nat) (below : List Frame) (meth : Method) (c : Code) (L : Nat) (xs : Nat → Int32) (Q : State → Prop) (dC : Nat → ClassId) (dI : Nat → Nat → Nat) (dA : Nat → ClassId) (qo : Nat) (sX : SX) (sM : SM) (I : SX → SM → Prop) : Prop :=
  ∀ (H : Heap) (locs : List Loc) (cells slots i : Nat) (adX adM : Nat → Nat) (z : Nat → Int64), LI dC dI dA s H locs adX adM qo sX sM z → vp_in (nI i + 1) L → vp_in (nI i + 2) L → (cells + 8 ≤ 600002 ∧ slots + 64 ≤ 7302231) →
    (∀ (H1 : Heap) (locs1 : List Loc) (adX1 adM1 : Nat → Nat) (sX1 : SX) (sM1 : SM) (z1 : Nat → Int64), adX1 0 = adX 0 → adM1 0 = adM 0 → sX1.2.2.2.2.1 = sX.2.2.2.2.1 → LI dC dI dA s H1 locs1 adX1 adM1 qo sX1 sM1 z1 → I sX1 sM1 → LW p l0 e s m b below meth c H1 locs1 (cells + 8) (slots + 64) Q (1584, ll b (adX 0) (adM 0) qo (nI i), [])) →
    LW p l0 e s m b below meth c H locs cells slots Q (336, ll b (adX 0) (adM 0) qo (nI i), [])
theorem R4_up (h : R4 p l0 e s m b below meth c L xs Q dC dI dA qo sX sM I) : R4 p l0 e s m b below meth c L xs Q dC dI dA qo sX sM (fun a b => I a b ∧ sX.2.2.2.2.1 ≤ a.2.2.2.2.1) :=
  fun H locs cells slots i adX adM z h1 h2 h3 h4 k => h H locs cells slots i adX adM z h1 h2 h3 h4 (fun H1 locs1 adX1 adM1 sX1 sM1 z1 q1 q2 q3 hI hi => k H1 locs1 adX1 adM1 sX1 sM1 z1 q1 q2 q3 hI ⟨hi, Nat.le_of_eq q3.symm⟩)
set_option maxHeartbeats 4000000 in
theorem law_step (C0 : lw_At p s m meth c b L xs) (hI : LI dC dI dA s H locs adX adM qo sX sM z) (h0 : vp_in (nI i) L) (h1 : vp_in (nI i + 1) L) (h2 : vp_in (nI i + 2) L) (h3 : vp_in (nI i + 3) L) (h4 : vp_in (nI i + 4) L) (h5 : vp_in (nI i + 5) L) (hS : Sim sX sM I) (hI0 : I sX sM) (hR : R4 p l0 e s m b below meth c L xs Q dC dI dA qo sX sM I) (hn : ∀ sX1 sM1, I sX1 sM1 → sX1.2.2.2.2.1 ≤ 600) (hnX : sX.2.2.2.2.1 ≤ 600) (hroom : cells + 1808 ≤ 600002 ∧ slots + 99064 ≤ 7302231)
    (k : ∀ (H1 : Heap) (locs1 : List Loc) (adX1 adM1 : Nat → Nat) (sX1 : SX) (sM1 : SM) (z1 : Nat → Int64), adX1 0 = adX 0 → adM1 0 = adM 0 → LI dC dI dA s H1 locs1 adX1 adM1 qo sX1 sM1 z1 → I sX1 sM1 → LW p l0 e s m b below meth c H1 locs1 (cells + (3 * sX1.2.2.2.2.1 - 3 * sX.2.2.2.2.1) + 8) (slots + (165 * sX1.2.2.2.2.1 - 165 * sX.2.2.2.2.1) + 64) Q (1584, ll b (adX 0) (adM 0) qo (nI i), [])) : LW p l0 e s m b below meth c H locs cells slots Q (33, ll b (adX 0) (adM 0) qo (nI i), []) := by
  have hroom2 : ∀ sX1 sM1, I sX1 sM1 → cells + (ZX.2.1 sX1 - ZX.2.1 sX) ≤ 600002 ∧ slots + (ZX.2.2.1 sX1 - ZX.2.2.1 sX) ≤ 7302231 := by
    intro sX1 sM1 hi
    have := hn sX1 sM1 hi
    refine ⟨?_, ?_⟩
    · show cells + (3 * sX1.2.2.2.2.1 + 99 - (3 * sX.2.2.2.2.1 + 99)) ≤ 600002; omega
    · show slots + (27150 + 165 * sX1.2.2.2.2.1 - (27150 + 165 * sX.2.2.2.2.1)) ≤ 7302231; omega
  have k2 : ∀ (H1 : Heap) (locs1 : List Loc) (adX1 adM1 : Nat → Nat) (sX1 : SX) (sM1 : SM), adX1 0 = adX 0 → adM1 0 = adM 0 → LI dC dI dA s H1 locs1 adX1 adM1 qo sX1 sM1 z → I sX1 sM1 → LW p l0 e s m b below meth c H1 locs1 (cells + (ZX.2.1 sX1 - ZX.2.1 sX)) (slots + (ZX.2.2.1 sX1 - ZX.2.2.1 sX)) Q (1584, ll b (adX 0) (adM 0) qo (nI i), []) := by
    intro H1 locs1 adX1 adM1 sX1 sM1 q1 q2 hI1 hi
    refine LW_w ?_ ?_ (k H1 locs1 adX1 adM1 sX1 sM1 z q1 q2 hI1 hi)
    · show cells + (3 * sX1.2.2.2.2.1 + 99 - (3 * sX.2.2.2.2.1 + 99)) ≤ _; omega
    · show slots + (27150 + 165 * sX1.2.2.2.2.1 - (27150 + 165 * sX.2.2.2.2.1)) ≤ _; omega
  refine LW_n C0 hI.2.2.2.2.1 5 rfl ⟨⟨rfl, h0⟩, trivial⟩ ?_
  refine LW_sw C0 ?_ (fun kk t ht => ?_)
  · refine LW_w ?_ ?_ (k H locs adX adM sX sM z rfl rfl hI hI0) <;> omega
  · match kk, ht with
    | 0, ht => cases ht; exact lc_0 C0 hI h1 h2 h3 h4 h5 hS hroom2 k2
    | 1, ht => cases ht; exact lc_1 C0 hI h1 h2 h3 h4 h5 hS hroom2 k2
    | 2, ht => cases ht; exact lc_2 C0 hI h1 h2 h3 h4 h5 hS hroom2 k2
    | 3, ht => cases ht; exact lc_3 C0 hI h1 h2 h3 h4 h5 hS hroom2 k2
    | 4, ht => cases ht; exact hR H locs cells slots i adX adM z hI h1 h2 ⟨by omega, by omega⟩ (fun H1 locs1 adX1 adM1 sX1 sM1 z1 q1 q2 q3 hI1 hi => LW_w (by omega) (by omega) (k H1 locs1 adX1 adM1 sX1 sM1 z1 q1 q2 hI1 hi))
    | 5, ht => cases ht; exact lc_5 C0 hI h1 h2 h3 h4 h5 hS hroom2 k2
    | 6, ht => cases ht; exact lc_6 C0 hI h1 h2 h3 h4 h5 hS hroom2 k2
    | 7, ht => cases ht; exact lc_7 C0 hI h1 h2 h3 h4 h5 hS hroom2 k2
    | 8, ht => cases ht; exact lc_8 C0 hI h1 h2 h3 h4 h5 hS hroom2 k2
    | 9, ht => cases ht; exact lc_9 C0 hI h1 h2 h3 h4 h5 hS hroom2 k2
    | 10, ht => cases ht; exact lc_10 C0 hI h1 h2 h3 h4 h5 hS hroom2 k2
    | 11, ht => cases ht; exact lc_11 C0 hI h1 h2 h3 h4 h5 hS hroom2 k2
    | 12, ht => cases ht; exact lc_12 C0 hI h1 h2 h3 h4 h5 hS hroom2 k2
    | 13, ht => cases ht; exact lc_13 C0 hI h1 h2 h3 h4 h5 hS hroom2 k2
    | 14, ht => cases ht; exact lc_14 C0 hI h1 h2 h3 h4 h5 hS hroom2 k2
    | 15, ht => cases ht; exact lc_15 C0 hI h1 h2 h3 h4 h5 hS hroom2 k2
    | 16, ht => cases ht; exact lc_16 C0 hI h1 h2 h3 h4 h5 hS hroom2 k2
    | 17, ht => cases ht; exact lc_17 C0 hI h1 h2 h3 h4 h5 hS hroom2 k2
    | 18, ht => cases ht; exact lc_18 C0 hI h1 h2 h3 h4 h5 hS hroom2 k2
    | 19, ht => cases ht; exact lc_19 C0 hI h1 h2 h3 h4 h5 hS hroom2 k2
    | 20, ht => cases ht; exact lc_20 C0 hI h1 h2 h3 h4 h5 hS hroom2 k2
    | 21, ht => cases ht; exact lc_21 C0 hI h1 h2 h3 h4 h5 hS hroom2 k2
    | 22, ht => cases ht; exact lc_22 C0 hI h1 h2 h3 h4 h5 hS hroom2 k2
    | 23, ht => cases ht; exact lc_23 C0 hI h1 h2 h3 h4 h5 hS hroom2 k2
    | 24, ht => cases ht; exact lc_24 C0 hI h1 h2 h3 h4 h5 hS hroom2 k2
    | 25, ht => cases ht; exact lc_25 C0 hI h1 h2 h3 h4 h5 hS hroom2 k2
    | 26, ht => cases ht; exact lc_26 C0 hI h1 h2 h3 h4 h5 hS hroom2 k2
    | 27, ht => cases ht; exact lc_27 C0 hI h1 h2 h3 h4 h5 hS hroom2 k2
    | 28, ht => cases ht; exact lc_28 C0 hI h1 h2 h3 h4 h5 hS hroom2 k2
    | 29, ht => cases ht; exact lc_29 C0 hI h1 h2 h3 h4 h5 hS hroom2 k2
    | 30, ht => cases ht; exact lc_30 C0 hI h1 h2 h3 h4 h5 hS hroom2 k2
    | 31, ht => cases ht; exact lc_31 C0 hI h1 h2 h3 h4 h5 hS hroom2 k2
    | 32, ht => cases ht; exact lc_32 C0 hI h1 h2 h3 h4 h5 hS hroom2 k2
    | k + 33, ht => cases ht
theorem hin_of {j i : Nat} (hi : i + 6 ≤ L) (hL : L ≤ 3072) (hj : j ≤ 5) : vp_in (nI (i + j)) L := vp_in_nI (by omega) (by omega)
/-- the loop of the law -/
theorem law_loop (C0 : lw_At p s m meth c b L xs) (hL : L ≤ 3072) (Iv : Nat → SX → SM → Prop) (hsim : ∀ j sX sM, 6 * j + 6 ≤ L → Iv j sX sM → Sim sX sM (Iv (j + 1)) ∧ Iv (j + 1) sX sM ∧ R4 p l0 e s m b below meth c L xs (lw_Z below #[Value.ref b] s) dC dI dA qo sX sM (Iv (j + 1))) (hn : ∀ j sX sM, Iv j sX sM → sX.2.2.2.2.1 ≤ 600) :
    ∀ (d j : Nat) (x4 : Int32) (sX : SX) (sM : SM) (z : Nat → Int64) (adX adM : Nat → Nat) (q1 q2 : Nat) (H : Heap) (locs : List Loc), j + d = 513 → 6 * j ≤ L + 5 → x4 = nI (6 * j) → q1 = adX 0 → q2 = adM 0 → Iv j sX sM → LI dC dI dA s H locs adX adM qo sX sM z →
      LW p l0 e s m b below meth c H locs (200 + 3 * sX.2.2.2.2.1 + 8 * j) (300000 + 165 * sX.2.2.2.2.1 + 64 * j) (lw_Z below #[Value.ref b] s) (23, ll b q1 q2 qo x4, []) := by
  intro d
  induction d with
  | zero => intro j x4 sX sM z adX adM q1 q2 H locs hj hjL; omega
  | succ d ih =>
    intro j x4 sX sM z adX adM q1 q2 H locs hj hjL e4 e1 e2 hi hI
    subst e4; subst e1; subst e2
    have hnX := hn j sX sM hi
    refine LW_n C0 hI.2.2.2.2.1 5 rfl ⟨rfl, trivial⟩ ?_
    have hcmp : (Int32.ofNat L - 6 < nI (6 * j)) ↔ L < 6 * j + 6 := by
      have a1 : (nI (6 * j)).toInt = ((6 * j : Nat) : Int) := nI_toInt (by omega)
      have a2 : (nI L).toInt = (L : Int) := nI_toInt (by omega)
      have a3 : (Int32.ofNat L - 6).toInt = (L : Int) - 6 := by
        show (nI L - 6).toInt = _
        rw [Int32.toInt_sub, a2]
        show Int.bmod ((L : Int) - 6) (2 ^ 32) = _
        rw [Int.bmod_def]
        split <;> omega
      rw [Int32.lt_iff_toInt_lt, a1, a3]
      omega
    refine LW_b C0 rfl (fun h => ?_) (fun h => ?_)
    · refine LW_n C0 hI.2.2.2.2.1 1 rfl trivial ?_
      intro ls hl
      refine va_forget (fun q hq => hI.2.2.2.2.1.2.2 q hq) ?_
      refine W.widen (k := 600002) (n := 7302231) (by omega) (by omega) ?_
      exact lw_ret C0.1 C0.2.1 C0.2.2.1 C0.2.2.2.2.2.2.2.2.1 (lD (rfl : zfe mL_law 1591 = some (.ireturn, 1, 1592, 0, 0))).1
    · have hlt : 6 * j + 6 ≤ L := Nat.le_of_not_lt fun q => h (hcmp.mpr q)
      obtain ⟨hS, hI0, hR⟩ := hsim j sX sM hlt hi
      refine law_step (I := fun a b => Iv (j + 1) a b ∧ sX.2.2.2.2.1 ≤ a.2.2.2.2.1) C0 hI (hin_of (j := 0) hlt hL (by omega)) ?_ ?_ ?_ ?_ ?_ (Sim_up hS) ⟨hI0, Nat.le_refl _⟩ (R4_up hR) (fun a b h => hn (j + 1) a b h.1) hnX ⟨by omega, by omega⟩ (fun H1 locs1 adX1 adM1 sX1 sM1 z1 q1 q2 hI1 hi1 => ?_)
      · rw [show (1 : Int32) = nI 1 from rfl, nI_add]; exact hin_of hlt hL (by omega)
      · rw [show (2 : Int32) = nI 2 from rfl, nI_add]; exact hin_of hlt hL (by omega)
      · rw [show (3 : Int32) = nI 3 from rfl, nI_add]; exact hin_of hlt hL (by omega)
      · rw [show (4 : Int32) = nI 4 from rfl, nI_add]; exact hin_of hlt hL (by omega)
      · rw [show (5 : Int32) = nI 5 from rfl, nI_add]; exact hin_of hlt hL (by omega)
      · have hn1 := hn (j + 1) sX1 sM1 hi1.1
        refine LW_n C0 hI1.2.2.2.2.1 2 rfl trivial ?_
        refine LW_w ?_ ?_ (ih (j + 1) _ sX1 sM1 z1 adX1 adM1 _ _ H1 locs1 (by omega) (by omega) ?_ q1.symm q2.symm hi1.1 hI1)
        · have := hi1.2; omega
        · have := hi1.2; omega
        · show nI (6 * j) + 6 = nI (6 * (j + 1))
          rw [show (6 : Int32) = nI 6 from rfl, nI_add]; rfl
end LawLoop
