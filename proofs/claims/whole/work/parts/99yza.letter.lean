/-! letter, sign: both sides. -/
noncomputable def zvLe (G : ZGT) (x y : Int32) : Int32 := match zix x (zgR G) with
  | none => -1
  | some r => match zix y (zgn G r) with
    | none => -1
    | some i => nI (zlm (zgt G r i))
noncomputable def zvSg (m : Nat) (ln : Nat → Nat) (yy : Nat → Nat → Nat) (sl : Nat → Nat) (T : Nat) (x y : Int32) : Int32 := match zix x m with
  | none => -1
  | some k => if y = -1 then nI (ln k) else match zix y (ln k) with
    | none => -1
    | some i => zsg sl T (yy k i)
theorem inB_m1 {y : Int32} {n : Nat} (hn : n ≤ 1000) : inB y (-1) (nI n - 1) = (decide (y = -1) || (zix y n).isSome) := by
  have h0 : (-1 : Int32).toInt = -1 := by decide
  have h1 : (nI n - 1).toInt = (n : Int) - 1 := by
    rw [Int32.toInt_sub, nI_toInt (by omega)]
    show Int.bmod ((n : Int) - 1) (2 ^ 32) = _
    rw [Int.bmod_def]
    split <;> omega
  unfold inB
  by_cases hy : y = -1
  · subst hy
    rw [decide_eq_true rfl, Bool.true_or, decide_eq_true (show (-1 : Int32) ≤ -1 from Int32.le_refl _), Bool.true_and]
    exact decide_eq_true (Int32.le_iff_toInt_le.mpr (by rw [h0, h1]; omega))
  · rw [decide_eq_false hy, Bool.false_or, ← zix_in (by omega)]
    unfold inB
    congr 1
    have hyi : y.toInt ≠ -1 := fun e => hy (Int32.toInt_inj.mp (by rw [e, h0]))
    have h00 : (0 : Int32).toInt = 0 := by decide
    by_cases h : (0 : Int32) ≤ y
    · rw [decide_eq_true h]
      exact decide_eq_true (Int32.le_iff_toInt_le.mpr (by have := Int32.le_iff_toInt_le.mp h; rw [h00] at this; rw [h0]; omega))
    · rw [decide_eq_false h]
      exact decide_eq_false (fun q => h (Int32.le_iff_toInt_le.mpr (by have := Int32.le_iff_toInt_le.mp q; rw [h0] at this; rw [h00]; omega)))
section LetX
variable {P : YP} {G : ZGT} {u : SX} {s : SM} {m : Nat} {ln : Nat → Nat} {yy : Nat → Nat → Nat} {nb : Nat → Int32} {sl : Nat → Nat}
theorem y_letter (h : ZGX G u) (x y : Int32) : Ev (ZY P) mX11_letter [.ref 0, .int x, .int y] u (some (.int (zvLe G x y))) u := by
  have hb := h.b
  refine EQ_ev ?_
  refine EQ_V vX11_letter rfl ?_
  refine RQ_n (ZY_ok P) 2 rfl trivial ?_
  refine RQ_v vX11_isRule (y_isRule h x) rfl k11_139 rfl rfl rfl (zy0 _ rfl) rfl ?_
  unfold zvLe
  have no : RnQ (ZY P) mX11_letter (25, [some (.ref 0), some (.int x), some (.int y)], [], u) (fun z v => z = some (.int (-1)) ∧ v = u) := by
    refine RQ_n (ZY_ok P) 1 rfl trivial ?_
    exact RQ_to (Rn_iret rfl rfl) ⟨rfl, rfl⟩
  cases e : zix x (zgR G) with
  | none => exact RQ_b rfl (fun _ => no) (fun z => absurd rfl z)
  | some r =>
  obtain ⟨r1, r2⟩ := zix_s e
  subst r2
  have hn := h.1.n (show r ≤ zgR G by omega)
  have hin : vp_in (nI r) 17 := nI_in (by omega) (by omega)
  have hic : (nI r).toNatClampNeg = r := nI_clamp (by omega)
  refine RQ_b rfl (fun z => absurd (show (1 : Int32) = 0 from z) (by decide)) (fun _ => ?_)
  refine RQ_n (ZY_ok P) 1 rfl trivial ?_
  dsimp only
  cases e2 : zix y (zgn G r) with
  | none =>
    refine RQ_b rfl (fun _ => no) (fun z => ?_)
    refine RQ_n (ZY_ok P) 6 rfl ⟨hin, trivial⟩ ?_
    rw [hic, h.n (by omega)]
    exact RQ_b rfl (fun q => absurd (zix_ge (by omega) e2 z) (Int32.not_le.mpr q)) (fun _ => no)
  | some i =>
  obtain ⟨i1, i2⟩ := zix_s e2
  obtain ⟨z1, z2⟩ := zix_lt (by omega) e2
  refine RQ_b rfl (fun z => absurd z z1) (fun _ => ?_)
  refine RQ_n (ZY_ok P) 6 rfl ⟨hin, trivial⟩ ?_
  rw [hic, h.n (by omega)]
  refine RQ_b rfl (fun _ => ?_) (fun q => absurd (Int32.not_lt.mp q) z2)
  subst i2
  refine RQ_n (ZY_ok P) 4 rfl trivial ?_
  refine RQ_v vX5_letterAt (y_letterAt h (r := r) (i := i) (by omega) (by omega)) rfl k11_161 rfl rfl rfl (zyr (ci := 5) rfl rfl (by omega)) rfl ?_
  have ht := (h.1.2.2.1 r (by omega)).2 i i1
  rw [show zlt G r i = nI (zgt G r i) from if_pos i1]
  refine RQ_s vX5_codeOf (e_codeOf u (b := zgt G r i) (by omega)) rfl k11_165 rfl rfl rfl rfl ?_
  exact RQ_to (Rn_iret rfl rfl) ⟨rfl, rfl⟩
theorem m_letter (h : ZGM G s) (x y : Int32) : Ev ZR mX12_letter [.ref 0, .int x, .int y] s (some (.int (zvLe G x y))) s := by
  have hb := h.b
  refine EQ_ev ?_
  refine EQ_V vX12_letter rfl ?_
  refine RQ_n ZR_ok 2 rfl trivial ?_
  refine RQ_v vX12_isRule (e_isRule s x) rfl k12_266 rfl rfl rfl rfl rfl ?_
  rw [h.2.1.1, zix_in (by omega)]
  unfold zvLe
  have no : RnQ ZR mX12_letter (33, [some (.ref 0), some (.int x), some (.int y)], [], s) (fun z v => z = some (.int (-1)) ∧ v = s) := by
    refine RQ_n ZR_ok 1 rfl trivial ?_
    exact RQ_to (Rn_iret rfl rfl) ⟨rfl, rfl⟩
  cases e : zix x (zgR G) with
  | none => exact RQ_b rfl (fun _ => no) (fun z => absurd rfl z)
  | some r =>
  obtain ⟨r1, r2⟩ := zix_s e
  subst r2
  have hn := h.1.n (show r ≤ zgR G by omega)
  have hin : vp_in (nI r) 17 := nI_in (by omega) (by omega)
  have hic : (nI r).toNatClampNeg = r := nI_clamp (by omega)
  refine RQ_b rfl (fun z => absurd (show (1 : Int32) = 0 from z) (by decide)) (fun _ => ?_)
  refine RQ_n ZR_ok 8 rfl ⟨hin, trivial⟩ ?_
  rw [hic, h.n (by omega)]
  refine RQ_s vX12_in (e_in s y 0 (nI (zgn G r) - 1)) rfl k12_170 rfl rfl rfl rfl ?_
  rw [zix_in (by omega)]
  dsimp only
  cases e2 : zix y (zgn G r) with
  | none => exact RQ_b rfl (fun _ => no) (fun z => absurd rfl z)
  | some i =>
  obtain ⟨i1, i2⟩ := zix_s e2
  subst i2
  refine RQ_b rfl (fun z => absurd (show (1 : Int32) = 0 from z) (by decide)) (fun _ => ?_)
  refine RQ_n ZR_ok 3 rfl trivial ?_
  refine RQ_v vX12_letterAt (m_letterAt h (r := r) (i := i) (by omega) i1) rfl k12_275 rfl rfl rfl rfl rfl ?_
  refine RQ_n ZR_ok 1 rfl trivial ?_
  exact RQ_to (Rn_iret rfl rfl) ⟨rfl, rfl⟩
theorem y_sign (h : ZGX G u) (hS : SnX m ln yy u) (hTX : TXc G nb sl u) (x y : Int32) : Ev (ZY P) mX11_sign [.ref 0, .int x, .int y] u (some (.int (zvSg m ln yy sl (zgT G) x y))) u := by
  have hb := h.b
  obtain ⟨s1, s2, s3⟩ := id hS
  refine EQ_ev ?_
  refine EQ_V vX11_sign rfl ?_
  refine RQ_n (ZY_ok P) 2 rfl trivial ?_
  refine RQ_v vX11_isSentence (y_isSentence h hS x) rfl k11_168 rfl rfl rfl (zy0 _ rfl) rfl ?_
  unfold zvSg
  cases e : zix x m with
  | none =>
    refine RQ_b rfl (fun z => absurd rfl z) (fun _ => ?_)
    refine RQ_n (ZY_ok P) 1 rfl trivial ?_
    exact RQ_to (Rn_iret rfl rfl) ⟨rfl, rfl⟩
  | some k =>
  obtain ⟨k1, k2⟩ := zix_s e
  subst k2
  obtain ⟨l1, l2, l3⟩ := s3 k k1
  have hin : vp_in (nI k) 4 := nI_in (by omega) (by omega)
  have hic : (nI k).toNatClampNeg = k := nI_clamp (by omega)
  refine RQ_b rfl (fun _ => ?_) (fun z => absurd (show ¬ (1 : Int32) = 0 by decide) z)
  refine RQ_n (ZY_ok P) 8 rfl ⟨hin, trivial⟩ ?_
  rw [hic, l1]
  dsimp only
  by_cases hy : y = -1
  · rw [if_pos hy]
    refine RQ_b rfl (fun z => absurd hy z) (fun _ => ?_)
    refine RQ_n (ZY_ok P) 1 rfl trivial ?_
    exact RQ_to (Rn_iret rfl rfl) ⟨rfl, rfl⟩
  rw [if_neg hy]
  refine RQ_b rfl (fun _ => ?_) (fun z => absurd hy z)
  refine RQ_n (ZY_ok P) 1 rfl trivial ?_
  have no : RnQ (ZY P) mX11_sign (36, [some (.ref 0), some (.int (nI k)), some (.int y), some (.int (nI (ln k)))], [], u) (fun z v => z = some (.int (-1)) ∧ v = u) := by
    refine RQ_n (ZY_ok P) 2 rfl trivial ?_
    exact RQ_to (Rn_iret rfl rfl) ⟨rfl, rfl⟩
  cases e2 : zix y (ln k) with
  | none =>
    refine RQ_b rfl (fun _ => no) (fun z => ?_)
    refine RQ_n (ZY_ok P) 2 rfl trivial ?_
    exact RQ_b rfl (fun q => absurd (zix_ge (by omega) e2 z) (Int32.not_le.mpr q)) (fun _ => no)
  | some i =>
  obtain ⟨i1, i2⟩ := zix_s e2
  obtain ⟨z1, z2⟩ := zix_lt (by omega) e2
  refine RQ_b rfl (fun z => absurd z z1) (fun _ => ?_)
  refine RQ_n (ZY_ok P) 2 rfl trivial ?_
  refine RQ_b rfl (fun _ => ?_) (fun q => absurd (Int32.not_lt.mp q) z2)
  subst i2
  refine RQ_n (ZY_ok P) 7 rfl trivial ?_
  refine RQ_v vX9_letterAt (y_sletterAt u (k := k) (j := i) (by omega) (by omega)) rfl k11_175 rfl rfl rfl (zy11 _ rfl) rfl ?_
  obtain ⟨y1, y2⟩ := l3 i i1
  rw [y1]
  refine RQ_n (ZY_ok P) 1 rfl ⟨nI_in (by omega) (by omega), trivial⟩ ?_
  rw [nI_clamp (by omega), hTX.2.2 _ y2]
  exact RQ_to (Rn_iret rfl rfl) ⟨rfl, rfl⟩
theorem m_sign (h : ZGM G s) (hS : SnM m ln yy s) (hTM : TMc G nb sl s) (x y : Int32) : Ev ZR mX12_sign [.ref 0, .int x, .int y] s (some (.int (zvSg m ln yy sl (zgT G) x y))) s := by
  have hb := h.b
  obtain ⟨s1, s2, s3⟩ := id hS
  refine EQ_ev ?_
  refine EQ_V vX12_sign rfl ?_
  refine RQ_n ZR_ok 2 rfl trivial ?_
  rw [h.2.1.1]
  refine RQ_b rfl (fun z => ?_) (fun _ => ?_)
  · have := (zq_eq (a := zgR G) (b := 0) rfl rfl (by omega) (by omega)).mp z
    omega
  have no : RnQ ZR mX12_sign (37, [some (.ref 0), some (.int x), some (.int y)], [], s) (fun z v => z = some (.int (-1)) ∧ v = s) := by
    refine RQ_n ZR_ok 1 rfl trivial ?_
    exact RQ_to (Rn_iret rfl rfl) ⟨rfl, rfl⟩
  refine RQ_n ZR_ok 6 rfl trivial ?_
  rw [s1]
  refine RQ_s vX12_in (e_in s x 0 (nI m - 1)) rfl k12_170 rfl rfl rfl rfl ?_
  rw [zix_in (by omega)]
  unfold zvSg
  cases e : zix x m with
  | none => exact RQ_b rfl (fun _ => no) (fun z => absurd rfl z)
  | some k =>
  obtain ⟨k1, k2⟩ := zix_s e
  subst k2
  obtain ⟨l1, l2, l3⟩ := s3 k k1
  have hin : vp_in (nI k) 5 := nI_in (by omega) (by omega)
  have hic : (nI k).toNatClampNeg = k := nI_clamp (by omega)
  refine RQ_b rfl (fun z => absurd (show (1 : Int32) = 0 from z) (by decide)) (fun _ => ?_)
  refine RQ_n ZR_ok 8 rfl ⟨hin, trivial⟩ ?_
  rw [hic, l1]
  refine RQ_s vX12_in (e_in s y (-1) (nI (ln k) - 1)) rfl k12_170 rfl rfl rfl rfl ?_
  rw [inB_m1 (by omega)]
  dsimp only
  by_cases hy : y = -1
  · rw [if_pos hy, decide_eq_true hy, Bool.true_or]
    refine RQ_b rfl (fun _ => ?_) (fun z => absurd (show ¬ (1 : Int32) = 0 by decide) z)
    refine RQ_n ZR_ok 2 rfl trivial ?_
    refine RQ_b rfl (fun z => absurd hy z) (fun _ => ?_)
    refine RQ_n ZR_ok 5 rfl ⟨hin, trivial⟩ ?_
    rw [hic, l1]
    exact RQ_to (Rn_iret rfl rfl) ⟨rfl, rfl⟩
  rw [if_neg hy, decide_eq_false hy, Bool.false_or]
  cases e2 : zix y (ln k) with
  | none => exact RQ_b rfl (fun z => absurd rfl z) (fun _ => no)
  | some i =>
  obtain ⟨i1, i2⟩ := zix_s e2
  refine RQ_b rfl (fun _ => ?_) (fun z => absurd (show ¬ (1 : Int32) = 0 by decide) z)
  refine RQ_n ZR_ok 2 rfl trivial ?_
  refine RQ_b rfl (fun _ => ?_) (fun z => absurd hy z)
  subst i2
  refine RQ_n ZR_ok 8 rfl trivial ?_
  have e24 : (24 : Int32) * nI k + nI i = nI (24 * k + i) := by rw [show (24 : Int32) = nI 24 from rfl, nI_mul, nI_add]
  rw [e24]
  refine RQ_n ZR_ok 1 rfl ⟨nI_in (by omega) (by omega), trivial⟩ ?_
  obtain ⟨y1, y2⟩ := l3 i i1
  rw [nI_clamp (by omega), y1]
  refine RQ_v vX12_signOf (m_signOf s (zgT G) (nI (97 + yy k i)) h.2.1.2.2 (by omega)) rfl k12_241 rfl rfl rfl rfl rfl ?_
  rw [fnd_cgr (C := fun k => nI (97 + sl k)) (zgT G) (fun j hj => hTM.2 j hj)]
  exact RQ_to (Rn_iret rfl rfl) ⟨rfl, rfl⟩
end LetX
