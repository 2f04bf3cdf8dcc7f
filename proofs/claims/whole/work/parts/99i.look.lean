/-! Calls by a kind and a state: look; how many items, how many letters. -/
theorem zcl_K {G : ZGT} (hG : GW G) {E : Int32} {F k O : Nat → Int32} (h0 : zk0 G k) {i : Nat} (hi : i < 102) (h : i % 6 ≠ 0 ∨ zgR G ≤ i / 6) : zcl G E F k i = k i := by
  -- the closure adds rules at their beginning alone
  have hc : zcC G E F k (fun j => if j % 6 ≠ 0 ∨ zgR G ≤ j / 6 then k j else -1) := by
    refine ⟨fun j _ => ?_, fun r hr d hd h8 hne q hq hi hl => ?_⟩
    · dsimp only
      split
      · exact bsub_rf
      · exact bsub_m1
    · dsimp only
      rw [if_neg (show ¬ (6 * q % 6 ≠ 0 ∨ zgR G ≤ 6 * q / 6) by omega)]
      exact bsub_m1
  have h1 := (zcl_ls G E F k).2 _ hc i hi
  rw [if_pos h] at h1
  exact bsub_an h1 ((zcl_ls G E F k).1.1 i hi)
theorem zen_cnt {k : Nat → Int32} {m : Nat} {it : Nat → Nat} (h : zen k m it) : m = zcnt (fun i => decide (k i ≠ 0)) 102 := by
  have key : ∀ n, n ≤ 102 → ∃ j, j ≤ m ∧ (∀ a, a < j → it a < n) ∧ (∀ a, j ≤ a → a < m → n ≤ it a) ∧ zcnt (fun i => decide (k i ≠ 0)) n = j := by
    intro n
    induction n with
    | zero => intro _; exact ⟨0, Nat.zero_le _, fun a ha => by omega, fun a _ _ => Nat.zero_le _, rfl⟩
    | succ n ih =>
      intro hn
      obtain ⟨j, j1, j2, j3, j4⟩ := ih (by omega)
      by_cases y : k n ≠ 0
      · obtain ⟨a, a1, a2⟩ := h.2.2 n (by omega) y
        have haj : a = j := by
          rcases Nat.lt_trichotomy a j with z | z | z
          · have := j2 a z; omega
          · exact z
          · have e1 := j3 j (Nat.le_refl _) (by omega)
            have e2 := h.1 j a z a1
            omega
        subst haj
        refine ⟨a + 1, by omega, fun b hb => ?_, fun b hb hbm => ?_, ?_⟩
        · by_cases e : b = a
          · rw [e]; omega
          · have := j2 b (by omega); omega
        · have := h.1 a b (by omega) hbm; omega
        · rw [zcnt, j4, if_pos (decide_eq_true y)]
      · refine ⟨j, j1, fun b hb => by have := j2 b hb; omega, fun b hb hbm => ?_, ?_⟩
        · have e1 := j3 b hb hbm
          have e2 := (h.2.1 b hbm).2
          refine Nat.lt_of_le_of_ne e1 (fun e => y ?_)
          rw [e]; exact e2
        · rw [zcnt, j4, if_neg (by rw [decide_eq_false y]; decide)]; rfl
  obtain ⟨j, j1, -, j3, j4⟩ := key 102 (Nat.le_refl _)
  rw [j4]
  rcases Nat.eq_or_lt_of_le j1 with e | e
  · exact e.symm
  · have e1 := j3 j (Nat.le_refl _) e
    have e2 := (h.2.1 j e).1
    omega
theorem zcnt_hi {p : Nat → Bool} {n : Nat} (h : ∀ i, n ≤ i → p i = false) : ∀ d, zcnt p (n + d) = zcnt p n
  | 0 => rfl
  | d + 1 => by rw [show n + (d + 1) = (n + d) + 1 from rfl, zcnt, zcnt_hi h d, h _ (by omega)]; rfl
/-- how many items a closure has -/
theorem zcl_cnt {G : ZGT} (hG : GW G) {E : Int32} {F k : Nat → Int32} (h0 : zk0 G k) : zcnt (fun i => decide (zcl G E F k i ≠ 0)) 102 = zcnt (fun i => decide (k i ≠ 0)) 102 + zcnt (fun r => decide (zcl G E F k (6 * r) ≠ 0)) (zgR G) := by
  have hR := hG.1.2.1
  obtain ⟨C, hC⟩ : ∃ C, C = zcl G E F k := ⟨_, rfl⟩
  have hK : ∀ i, i < 102 → (i % 6 ≠ 0 ∨ zgR G ≤ i / 6) → C i = k i := fun i hi h => by rw [hC]; exact zcl_K hG (O := fun _ => 0) h0 hi h
  rw [← hC]
  have key : ∀ n, n ≤ 17 → zcnt (fun i => decide (C i ≠ 0)) (6 * n) = zcnt (fun i => decide (k i ≠ 0)) (6 * n) + zcnt (fun r => decide (C (6 * r) ≠ 0)) (min n (zgR G)) := by
    intro n
    induction n with
    | zero => intro _; rw [Nat.zero_min]; rfl
    | succ n ih =>
      intro hn
      have ih := ih (by omega)
      have e : ∀ p : Nat → Bool, zcnt p (6 * (n + 1)) = zcnt p (6 * n) + (if p (6 * n) = true then 1 else 0) + (if p (6 * n + 1) = true then 1 else 0) + (if p (6 * n + 2) = true then 1 else 0) + (if p (6 * n + 3) = true then 1 else 0) + (if p (6 * n + 4) = true then 1 else 0) + (if p (6 * n + 5) = true then 1 else 0) := fun p => rfl
      rw [e, e, ih, hK (6 * n + 1) (by omega) (by omega), hK (6 * n + 2) (by omega) (by omega), hK (6 * n + 3) (by omega) (by omega), hK (6 * n + 4) (by omega) (by omega), hK (6 * n + 5) (by omega) (by omega)]
      by_cases y : n < zgR G
      · rw [h0 n y, show min (n + 1) (zgR G) = n + 1 by omega, show min n (zgR G) = n by omega, zcnt]
        simp only [ne_eq, not_true_eq_false, decide_false, Bool.false_eq_true, if_false]
        omega
      · rw [hK (6 * n) (by omega) (by omega), show min (n + 1) (zgR G) = zgR G by omega, show min n (zgR G) = zgR G by omega]
        omega
  have := key 17 (Nat.le_refl _)
  rw [show min 17 (zgR G) = zgR G by omega] at this
  exact this
section Pub3
variable {P : YP} {G : ZGT} {kd : Nat} {o : Option ZAS} {u : SX} {os : Nat → Option ZAS} {s : SM}
set_option maxHeartbeats 1000000 in
theorem y_look (hP : P.2.1 kd = some 36) (hk : P.1 0 = nI kd) (hk3 : kd < 3) (hZ : ZAt G kd o) (h : XK P G o u) (x1 x2 x3 : Int32) (c : Bool) : EvQ (ZY P) mX11_look [.ref 0, .int (nI kd), .int x1, .int x2, .int x3, .int (bI c)] u (kdQ P G o u (zvL G o x1 x2 x3 c)) := by
  refine EQ_V vX11_look rfl ?_
  have hin : vp_in (nI kd) 3 := nI_in (by omega) (by omega)
  have hic : (nI kd).toNatClampNeg = kd := nI_clamp (by omega)
  refine RQ_n (ZY_ok P) 2 rfl trivial ?_
  refine RQ_VN vX11_isThere (y_isThere hP hk hk3 hZ h) rfl k11_251 rfl rfl rfl (zy0 _ rfl) ?_ ?_
  · show (((Nat.blt 0 (3 * u.2.2.2.2.1 + 99)) && true) && true) = true
    rw [zblt (show 0 < 3 * u.2.2.2.2.1 + 99 by omega)]; rfl
  rintro r1 v1 ⟨rfl, h1, h3, h4, h5⟩
  cases o with
  | none =>
    refine RQ_b rfl (fun _ => ?_) (fun z => absurd rfl z)
    refine RQ_n (ZY_ok P) 1 rfl trivial ?_
    exact RQ_to (Rn_iret rfl rfl) ⟨rfl, h1, h5⟩
  | some A =>
  obtain ⟨w1, w2, w3, w4⟩ := h1.v hZ h3
  have hN := w2.1.2
  have hG := h1.2.1.1
  have hb := hG.b
  refine RQ_b rfl (fun z => absurd (show (1 : Int32) = 0 from z) (by decide)) (fun _ => ?_)
  refine RQ_n (ZY_ok P) 4 rfl ⟨hin, trivial⟩ ?_
  rw [hic, hP]
  refine RQ_n (ZY_ok P) 1 rfl trivial ?_
  refine RQ_v vX1_hasState (y_hasState hN w3 x1) rfl k11_267 rfl rfl rfl (zy36 _ rfl) rfl ?_
  unfold zvL zste
  dsimp only
  cases hz : zix x1 (zN A).1 with
  | none =>
    refine RQ_b rfl (fun _ => ?_) (fun z => absurd rfl z)
    refine RQ_n (ZY_ok P) 1 rfl trivial ?_
    exact RQ_to (Rn_iret rfl rfl) ⟨rfl, h1, h5⟩
  | some k =>
  obtain ⟨hk1, hk2⟩ := zix_s hz
  subst hk2
  dsimp only
  refine RQ_b rfl (fun z => absurd (show (1 : Int32) = 0 from z) (by decide)) (fun _ => ?_)
  obtain ⟨kc, e1, e2, e3⟩ := y_kernelOf (P := P) hN w3 hk1
  obtain ⟨z0, -, -, -⟩ := w2.2.1 k hk1
  refine RQ_n (ZY_ok P) 1 rfl trivial ?_
  cases er : zix x2 (zgR G + 1) with
  | none =>
    have no : RnQ (ZY P) mX11_look (36, [some (.ref 0), some (.int (nI kd)), some (.int (nI k)), some (.int x2), some (.int x3), some (.int (bI c)), none], [], v1) (kdQ P G (some A) u (-1)) := by
      refine RQ_n (ZY_ok P) 1 rfl trivial ?_
      exact RQ_to (Rn_iret rfl rfl) ⟨rfl, h1, h5⟩
    refine RQ_b rfl (fun _ => no) (fun z => ?_)
    refine RQ_n (ZY_ok P) 4 rfl trivial ?_
    rw [hG.2.1.1]
    refine RQ_b rfl (fun y => ?_) (fun _ => no)
    have hge := zix_ge (by omega) er z
    refine absurd (Int32.lt_of_lt_of_le ?_ (Int32.le_trans hge y)) (Int32.lt_irrefl (a := nI (zgR G)))
    exact (zq_lt (a := zgR G) (b := zgR G + 1) rfl rfl (by omega) (by omega)).mpr (by omega)
  | some r =>
  obtain ⟨r1, r2⟩ := zix_s er
  obtain ⟨z1, -⟩ := zix_lt (by omega) er
  have h5r := (hG.1.2.2.1 r (by omega)).1
  refine RQ_b rfl (fun z => absurd z z1) (fun _ => ?_)
  refine RQ_n (ZY_ok P) 4 rfl trivial ?_
  rw [hG.2.1.1]
  refine RQ_b rfl (fun _ => ?_) (fun z => absurd ((zq_le r2 rfl (by omega) (by omega)).mpr (show r ≤ zgR G by omega)) z)
  subst r2
  refine RQ_n (ZY_ok P) 1 rfl trivial ?_
  dsimp only
  have hir : vp_in (nI r) 17 := nI_in (by omega) (by omega)
  have hcr : (nI r).toNatClampNeg = r := nI_clamp (by omega)
  cases ed : zix x3 (zgn G r + 1) with
  | none =>
    have no : RnQ (ZY P) mX11_look (57, [some (.ref 0), some (.int (nI kd)), some (.int (nI k)), some (.int (nI r)), some (.int x3), some (.int (bI c)), none], [], v1) (kdQ P G (some A) u (-1)) := by
      refine RQ_n (ZY_ok P) 1 rfl trivial ?_
      exact RQ_to (Rn_iret rfl rfl) ⟨rfl, h1, h5⟩
    refine RQ_b rfl (fun _ => no) (fun z => ?_)
    refine RQ_n (ZY_ok P) 6 rfl ⟨hir, trivial⟩ ?_
    rw [hcr, (hG.2.2.2 r (by omega)).1]
    refine RQ_b rfl (fun y => ?_) (fun _ => no)
    have hge := zix_ge (by omega) ed z
    refine absurd (Int32.lt_of_lt_of_le ?_ (Int32.le_trans hge y)) (Int32.lt_irrefl (a := nI (zgn G r)))
    exact (zq_lt (a := zgn G r) (b := zgn G r + 1) rfl rfl (by omega) (by omega)).mpr (by omega)
  | some d =>
  obtain ⟨d1, d2⟩ := zix_s ed
  obtain ⟨z1, -⟩ := zix_lt (by omega) ed
  refine RQ_b rfl (fun z => absurd z z1) (fun _ => ?_)
  refine RQ_n (ZY_ok P) 6 rfl ⟨hir, trivial⟩ ?_
  rw [hcr, (hG.2.2.2 r (by omega)).1]
  refine RQ_b rfl (fun _ => ?_) (fun z => absurd ((zq_le d2 rfl (by omega) (by omega)).mpr (show d ≤ zgn G r by omega)) z)
  subst d2
  dsimp only
  refine RQ_n (ZY_ok P) 4 rfl ⟨hin, trivial⟩ ?_
  rw [hic, hP]
  refine RQ_n (ZY_ok P) 1 rfl trivial ?_
  refine RQ_v vX1_kernelOf e1 rfl k11_270 rfl rfl rfl (zy36 _ rfl) rfl ?_
  refine RQ_n (ZY_ok P) 5 rfl trivial ?_
  rw [nI_mul6r, nI_add]
  refine RQ_v vX7_lookOf (y_lookOf e2.2 e3 (show 6 * r + d < 102 by omega)) rfl k11_274 rfl rfl rfl (zyk e2.2 rfl) rfl ?_
  have p109 : ∀ x : Int32, x = (if c = true then zcl G (zE0 G) (zF0 G) ((zN A).2.1 k) (6 * r + d) else (zN A).2.1 k (6 * r + d)) → RnQ (ZY P) mX11_look (109, [some (.ref 0), some (.int (nI kd)), some (.int (nI k)), some (.int (nI r)), some (.int (nI d)), some (.int (bI c)), some (.int x)], [], v1) (kdQ P G (some A) u (if c = true then zcl G (zE0 G) (zF0 G) ((zN A).2.1 k) (6 * r + d) else (zN A).2.1 k (6 * r + d))) := by
    intro x hx
    refine RQ_n (ZY_ok P) 1 rfl trivial ?_
    exact RQ_to (Rn_iret rfl rfl) ⟨by rw [hx], h1, h5⟩
  refine RQ_n (ZY_ok P) 2 rfl trivial ?_
  refine RQ_b rfl (fun z => ?_) (fun z => ?_)
  · have z : (zN A).2.1 k (6 * r + d) ≠ 0 := z
    refine p109 _ ?_
    cases c with
    | false => rfl
    | true =>
      rw [if_pos rfl]
      refine (zcl_K hG.1 (O := fun _ => 0) z0 (by omega) ?_).symm
      by_cases q : d = 0
      · refine Or.inr ?_
        refine Classical.byContradiction (fun y => z ?_)
        rw [q, Nat.add_zero]
        exact z0 r (by omega)
      · exact Or.inl (by omega)
  have z : (zN A).2.1 k (6 * r + d) = 0 := Classical.not_not.mp z
  refine RQ_n (ZY_ok P) 1 rfl trivial ?_
  refine RQ_b rfl (fun y => ?_) (fun y => ?_)
  · have y := bI_0.mp y
    exact p109 _ (by rw [y, if_neg (by decide)])
  have y := bI_t y
  subst y
  refine RQ_n (ZY_ok P) 1 rfl trivial ?_
  refine RQ_b rfl (fun q => ?_) (fun q => ?_)
  · have q := (not_congr (zq_eq (a := d) (b := 0) rfl rfl (by omega) (by omega))).mp q
    exact p109 _ (by rw [if_pos rfl]; exact (zcl_K hG.1 (O := fun _ => 0) z0 (by omega) (Or.inl (by omega))).symm)
  have q := (zq_eq (a := d) (b := 0) rfl rfl (by omega) (by omega)).mp (Classical.not_not.mp q)
  refine RQ_n (ZY_ok P) 4 rfl ⟨hin, trivial⟩ ?_
  rw [hic, hP]
  refine RQ_n (ZY_ok P) 2 rfl trivial ?_
  refine RQ_v vX1_openLook (y_openLook hG w2 w3 hk1 (show r ≤ zgR G by omega)) rfl k11_279 rfl rfl rfl (zy36 _ rfl) rfl ?_
  refine RQ_n (ZY_ok P) 1 rfl trivial ?_
  refine p109 _ ?_
  rw [if_pos rfl, q, Nat.add_zero]
  by_cases w : r < zgR G
  · rw [if_pos w]
  · rw [if_neg w, zcl_K hG.1 (O := fun _ => 0) z0 (by omega) (Or.inr (by omega))]
    rw [q, Nat.add_zero] at z
    exact z.symm
theorem m_look (hk3 : kd < 3) (hZ : ∀ kd, kd < 3 → ZAt G kd (os kd)) (h : RGr G os s) (x1 x2 x3 : Int32) (c : Bool) : EvQ ZR mX12_look [.ref 0, .int (nI kd), .int x1, .int x2, .int x3, .int (bI c)] s (rfQ G os s (zvL G (os kd) x1 x2 x3 c)) := by
  refine EQ_V vX12_look rfl ?_
  refine RQ_n ZR_ok 3 rfl trivial ?_
  refine RQ_V vX12_isState (m_isState hk3 hZ h x1) rfl k12_427 rfl rfl rfl rfl (fun _ _ _ => rfl) (fun r1 v h1 => ?_)
  obtain ⟨rfl, a1, a2, a3⟩ := h1
  have hb := a1.1.b
  cases hz : zste (os kd) x1 with
  | none =>
    refine RQ_b rfl (fun _ => ?_) (fun z => absurd rfl z)
    refine RQ_n ZR_ok 1 rfl trivial ?_
    refine RQ_to (Rn_iret rfl rfl) ⟨?_, a1, a3⟩
    unfold zvL
    rw [hz]
  | some Ak =>
  obtain ⟨A, k⟩ := Ak
  obtain ⟨ho, hk1, hk2⟩ := zste_s hz
  subst hk2
  obtain ⟨b1, b2⟩ := a1.a hk3 a2 ho
  have hF := zN_F (ZAt_all a1.1.1 b2 (ho ▸ hZ kd hk3)) (show ZAt G kd (some A) from ho ▸ hZ kd hk3).2
  have hN := hF.1.2
  refine RQ_b rfl (fun z => absurd (show (1 : Int32) = 0 from z) (by decide)) (fun _ => ?_)
  have val : ∀ r, r = (match zix x2 (zgR G + 1) with | none => -1 | some r => match zix x3 (zgn G r + 1) with | none => -1 | some d => if c = true then zcl G (zE0 G) (zF0 G) ((zN A).2.1 k) (6 * r + d) else (zN A).2.1 k (6 * r + d)) → r = zvL G (os kd) (nI k) x2 x3 c := fun r hr => by
    unfold zvL
    rw [hz]
    exact hr
  refine RQ_n ZR_ok 4 rfl trivial ?_
  rw [a1.1.2.1.1]
  refine RQ_s vX12_in (e_in v x2 0 (nI (zgR G))) rfl k12_170 rfl rfl rfl rfl ?_
  rw [zix_in1 (by omega)]
  cases er : zix x2 (zgR G + 1) with
  | none =>
    rw [er] at val
    refine RQ_b rfl (fun _ => ?_) (fun z => absurd rfl z)
    refine RQ_n ZR_ok 1 rfl trivial ?_
    exact RQ_to (Rn_iret rfl rfl) ⟨congrArg (fun r => some (Value.int r)) (val _ rfl), a1, a3⟩
  | some r =>
  obtain ⟨r1, r2⟩ := zix_s er
  subst r2
  rw [er] at val
  have h5r := (a1.1.1.2.2.1 r (by omega)).1
  have hir : vp_in (nI r) 17 := nI_in (by omega) (by omega)
  have hcr : (nI r).toNatClampNeg = r := nI_clamp (by omega)
  refine RQ_b rfl (fun z => absurd (show (1 : Int32) = 0 from z) (by decide)) (fun _ => ?_)
  refine RQ_n ZR_ok 6 rfl ⟨hir, trivial⟩ ?_
  rw [hcr, a1.1.n (by omega)]
  refine RQ_s vX12_in (e_in v x3 0 (nI (zgn G r))) rfl k12_170 rfl rfl rfl rfl ?_
  rw [zix_in1 (by omega)]
  dsimp only at val
  cases ed : zix x3 (zgn G r + 1) with
  | none =>
    rw [ed] at val
    refine RQ_b rfl (fun z => absurd rfl z) (fun _ => ?_)
    refine RQ_n ZR_ok 1 rfl trivial ?_
    exact RQ_to (Rn_iret rfl rfl) ⟨congrArg (fun r => some (Value.int r)) (val _ rfl), a1, a3⟩
  | some d =>
  obtain ⟨d1, d2⟩ := zix_s ed
  subst d2
  rw [ed] at val
  have hrow := mrow_lt hk3 (show k < 200 by omega)
  refine RQ_b rfl (fun _ => ?_) (fun z => absurd (Classical.not_not.mp z) (show ¬ (1 : Int32) = 0 by decide))
  refine RQ_n ZR_ok 2 rfl trivial ?_
  refine RQ_s vX12_rowOf (e_rowOf v kd k) rfl k12_352 rfl rfl rfl rfl ?_
  refine RQ_n ZR_ok 2 rfl trivial ?_
  refine RQ_s vX12_itemAt (e_itemAt v r d) rfl k12_358 rfl rfl rfl rfl ?_
  refine RQ_n ZR_ok 3 rfl trivial ?_
  rw [nI_add]
  have hi2 : vp_in (nI (mrow kd k + (6 * r + d))) 61200 := nI_in (by omega) (by omega)
  have hc2 : (nI (mrow kd k + (6 * r + d))).toNatClampNeg = mrow kd k + (6 * r + d) := nI_clamp (by omega)
  refine RQ_b rfl (fun y => ?_) (fun y => ?_)
  · have y := bI_0.mp y
    subst y
    refine RQ_n ZR_ok 4 rfl ⟨hi2, trivial⟩ ?_
    rw [hc2, show v.2.1 38 (mrow kd k + (6 * r + d)) = (zN A).2.1 k (6 * r + d) from b1.1.2.1 k hk1 _ (by omega)]
    exact RQ_to (Rn_iret rfl rfl) ⟨congrArg (fun r => some (Value.int r)) (val _ rfl), a1, a3⟩
  · have y := bI_t y
    subst y
    refine RQ_n ZR_ok 4 rfl ⟨hi2, trivial⟩ ?_
    rw [hc2, show v.2.1 39 (mrow kd k + (6 * r + d)) = zcl G (zE0 G) (zF0 G) ((zN A).2.1 k) (6 * r + d) from (b1.2 k hk1).1 _ (by omega)]
    refine RQ_n ZR_ok 1 rfl trivial ?_
    exact RQ_to (Rn_iret rfl rfl) ⟨congrArg (fun r => some (Value.int r)) (val _ rfl), a1, a3⟩
theorem y_closureSize {N : ZNM} (hG : ZGX G u) (hF : ZNF G N) (h : XV G N u) {k : Nat} (hk : k < N.1) : Ev (ZY P) mX1_closureSize [.ref 36, .int (nI k)] u (some (.int (nI (zcnt (fun i => decide (zcl G (zE0 G) (zF0 G) (N.2.1 k) i ≠ 0)) 102)))) u := by
  have hb := hG.b
  have hN := hF.1.2
  obtain ⟨kc, e1, e2, e3⟩ := y_kernelOf (P := P) hN h hk
  obtain ⟨z0, -, -, -⟩ := hF.2.1 k hk
  obtain ⟨m, it, hz, hm, hsz, -⟩ := e3
  have hlt := isK_lt e2.2
  obtain ⟨l0, -, -⟩ := isK_cell (P := P) (s := u) e2.2
  have hl0 : kc < (ZY P).2.1 u := by show kc < 3 * u.2.2.2.2.1 + 99; omega
  rw [zcl_cnt hG.1 z0, ← zen_cnt hz]
  refine EQ_ev ?_
  refine EQ_V vX1_closureSize rfl ?_
  refine RQ_n (ZY_ok P) 2 rfl trivial ?_
  refine RQ_v vX1_kernelOf e1 rfl k1_141 rfl rfl rfl (zy36 _ rfl) rfl ?_
  refine RQ_gf (ZY_ok P) rfl rfl l0 hl0 rfl ?_
  rw [hsz]
  refine RQ_n (ZY_ok P) 3 rfl trivial ?_
  refine loopU (zgR G) (fun r (_ : Unit) => [some (.ref 36), some (.int (nI k)), some (.int (nI (m + zcnt (fun r => decide (zcl G (zE0 G) (zF0 G) (N.2.1 k) (6 * r) ≠ 0)) r))), some (.int (nI r))]) (fun _ _ w => w = u) ?_ 0 () u (by omega) rfl
  intro r _ w hr hw ih
  subst hw
  refine RQ_n (ZY_ok P) 4 rfl trivial ?_
  rw [hG.2.1.1]
  refine RQ_b rfl (fun z => ?_) (fun z => ?_)
  · have z := (zq_le (a := zgR G) (b := r) rfl rfl (by omega) (by omega)).mp z
    have : r = zgR G := by omega
    subst this
    refine RQ_n (ZY_ok P) 1 rfl trivial ?_
    exact RQ_to (Rn_iret rfl rfl) ⟨rfl, rfl⟩
  have z := (not_congr (zq_le (a := zgR G) (b := r) rfl rfl (by omega) (by omega))).mp z
  have hol := y_openLook (P := P) hG hF h hk (show r ≤ zgR G by omega)
  rw [if_pos (by omega)] at hol
  refine RQ_n (ZY_ok P) 3 rfl trivial ?_
  refine RQ_v vX1_openLook hol rfl k1_144 rfl rfl rfl (zy36 _ rfl) rfl ?_
  refine RQ_b rfl (fun y => ?_) (fun y => ?_)
  · have y : zcl G (zE0 G) (zF0 G) (N.2.1 k) (6 * r) = 0 := y
    refine RQ_n (ZY_ok P) 2 rfl trivial ?_
    refine ih (by omega) () _ _ ?_ rfl
    rw [zcnt, decide_eq_false (fun q => q y)]
    exact ⟨rfl, rfl, rfl, nIs r, trivial⟩
  · have y : zcl G (zE0 G) (zF0 G) (N.2.1 k) (6 * r) ≠ 0 := y
    refine RQ_n (ZY_ok P) 3 rfl trivial ?_
    refine ih (by omega) () _ _ ?_ rfl
    rw [zcnt, decide_eq_true y]
    exact ⟨rfl, rfl, nIs _, nIs r, trivial⟩
theorem m_itemMany {N : ZNM} {p : Int32} (hk3 : kd < 3) (hN : N.1 ≤ 200) (hA : RAu G (zE0 G) (zF0 G) kd p N s) {k : Nat} (hk : k < N.1) (c : Bool) : Ev ZR mX12_itemMany [.ref 0, .int (nI kd), .int (nI k), .int (bI c)] s (some (.int (nI (zcnt (fun i => decide ((if c = true then zcl G (zE0 G) (zF0 G) (N.2.1 k) i else N.2.1 k i) ≠ 0)) 102)))) s := by
  have hrow := mrow_lt hk3 (show k < 200 by omega)
  refine EQ_ev ?_
  refine EQ_V vX12_itemMany rfl ?_
  refine RQ_n ZR_ok 4 rfl trivial ?_
  refine loopU 102 (fun i (_ : Unit) => [some (.ref 0), some (.int (nI kd)), some (.int (nI k)), some (.int (bI c)), some (.int (nI (zcnt (fun i => decide ((if c = true then zcl G (zE0 G) (zF0 G) (N.2.1 k) i else N.2.1 k i) ≠ 0)) i))), some (.int (nI i)), none]) (fun _ _ w => w = s) ?_ 0 () s (by omega) rfl
  intro i _ w hi hw ih
  subst hw
  refine RQ_n ZR_ok 2 rfl trivial ?_
  refine RQ_b rfl (fun z => ?_) (fun z => ?_)
  · have z := (zq_le (a := 102) (b := i) rfl rfl (by omega) (by omega)).mp z
    have : i = 102 := by omega
    subst this
    refine RQ_n ZR_ok 1 rfl trivial ?_
    exact RQ_to (Rn_iret rfl rfl) ⟨rfl, rfl⟩
  have z := (not_congr (zq_le (a := 102) (b := i) rfl rfl (by omega) (by omega))).mp z
  have hi2 : vp_in (nI (mrow kd k + i)) 61200 := nI_in (by omega) (by omega)
  have hc2 : (nI (mrow kd k + i)).toNatClampNeg = mrow kd k + i := nI_clamp (by omega)
  have p46 : ∀ (x : Int32), x = (if c = true then zcl G (zE0 G) (zF0 G) (N.2.1 k) i else N.2.1 k i) → RnQ ZR mX12_itemMany (46, [some (.ref 0), some (.int (nI kd)), some (.int (nI k)), some (.int (bI c)), some (.int (nI (zcnt (fun i => decide ((if c = true then zcl G (zE0 G) (zF0 G) (N.2.1 k) i else N.2.1 k i) ≠ 0)) i))), some (.int (nI i)), none], [.int x], w) (fun y v => y = some (.int (nI (zcnt (fun i => decide ((if c = true then zcl G (zE0 G) (zF0 G) (N.2.1 k) i else N.2.1 k i) ≠ 0)) 102))) ∧ v = w) := by
    intro x hx
    refine RQ_n ZR_ok 3 rfl trivial ?_
    refine RQ_b rfl (fun y => ?_) (fun y => ?_)
    · have y : x = 0 := y
      refine RQ_n ZR_ok 5 rfl trivial ?_
      refine ih (by omega) () _ _ ?_ rfl
      rw [zcnt, ← hx, decide_eq_false (fun q => q y)]
      exact ⟨rfl, rfl, rfl, rfl, congrArg Value.int (nI_add _ 0).symm, nIs i, trivial⟩
    · have y : x ≠ 0 := y
      refine RQ_n ZR_ok 6 rfl trivial ?_
      refine ih (by omega) () _ _ ?_ rfl
      rw [zcnt, ← hx, decide_eq_true y]
      exact ⟨rfl, rfl, rfl, rfl, nIs _, nIs i, trivial⟩
  refine RQ_n ZR_ok 1 rfl trivial ?_
  refine RQ_b rfl (fun y => ?_) (fun y => ?_)
  · have y := bI_0.mp y
    refine RQ_n ZR_ok 4 rfl trivial ?_
    refine RQ_s vX12_rowOf (e_rowOf w kd k) rfl k12_352 rfl rfl rfl rfl ?_
    refine RQ_n ZR_ok 2 rfl trivial ?_
    rw [nI_add]
    refine RQ_n ZR_ok 1 rfl ⟨hi2, trivial⟩ ?_
    rw [hc2, show w.2.1 38 (mrow kd k + i) = N.2.1 k i from hA.1.2.1 k hk i (by omega)]
    exact p46 _ (by rw [y, if_neg (by decide)])
  · have y := bI_t y
    refine RQ_n ZR_ok 4 rfl trivial ?_
    refine RQ_s vX12_rowOf (e_rowOf w kd k) rfl k12_352 rfl rfl rfl rfl ?_
    refine RQ_n ZR_ok 2 rfl trivial ?_
    rw [nI_add]
    refine RQ_n ZR_ok 1 rfl ⟨hi2, trivial⟩ ?_
    rw [hc2, show w.2.1 39 (mrow kd k + i) = zcl G (zE0 G) (zF0 G) (N.2.1 k) i from (hA.2 k hk).1 i (by omega)]
    refine RQ_n ZR_ok 1 rfl trivial ?_
    exact p46 _ (by rw [y, if_pos rfl])
theorem m_byMany {N : ZNM} {p : Int32} (hk3 : kd < 3) (hN : N.1 ≤ 200) (hA : RAu G (zE0 G) (zF0 G) kd p N s) {k : Nat} (hk : k < N.1) (hg : ∀ b t, b < 14 → N.2.2 k b = some t → t < 200) : Ev ZR mX12_byMany [.ref 0, .int (nI kd), .int (nI k)] s (some (.int (nI (zcnt (fun b => (N.2.2 k b).isSome) 14)))) s := by
  refine EQ_ev ?_
  refine EQ_V vX12_byMany rfl ?_
  refine RQ_n ZR_ok 4 rfl trivial ?_
  refine loopU 14 (fun b (_ : Unit) => [some (.ref 0), some (.int (nI kd)), some (.int (nI k)), some (.int (nI (zcnt (fun b => (N.2.2 k b).isSome) b))), some (.int (nI b))]) (fun _ _ w => w = s) ?_ 0 () s (by omega) rfl
  intro b _ w hb hw ih
  subst hw
  refine RQ_n ZR_ok 2 rfl trivial ?_
  refine RQ_b rfl (fun z => ?_) (fun z => ?_)
  · have z := (zq_le (a := 14) (b := b) rfl rfl (by omega) (by omega)).mp z
    have : b = 14 := by omega
    subst this
    refine RQ_n ZR_ok 1 rfl trivial ?_
    exact RQ_to (Rn_iret rfl rfl) ⟨rfl, rfl⟩
  have z := (not_congr (zq_le (a := 14) (b := b) rfl rfl (by omega) (by omega))).mp z
  refine RQ_n ZR_ok 5 rfl trivial ?_
  have hgb := m_goesBy w hk3 (show k < 200 by omega) (show b < 14 by omega)
  rw [hA.1.2.2 k hk b (by omega)] at hgb
  refine RQ_v vX12_goesBy hgb rfl k12_386 rfl rfl rfl rfl rfl ?_
  refine RQ_n ZR_ok 1 rfl trivial ?_
  cases e : N.2.2 k b with
  | none =>
    refine RQ_b rfl (fun _ => ?_) (fun y => absurd rfl y)
    refine RQ_n ZR_ok 5 rfl trivial ?_
    refine ih (by omega) () _ _ ?_ rfl
    rw [zcnt, e]
    exact ⟨rfl, rfl, rfl, congrArg Value.int (nI_add _ 0).symm, nIs b, trivial⟩
  | some t =>
    have := hg b t (by omega) e
    refine RQ_b rfl (fun y => absurd y (nI_m1 (a := t) (by omega))) (fun _ => ?_)
    refine RQ_n ZR_ok 6 rfl trivial ?_
    refine ih (by omega) () _ _ ?_ rfl
    rw [zcnt, e]
    exact ⟨rfl, rfl, rfl, nIs _, nIs b, trivial⟩
end Pub3
