/-! The grammar that a tape tells, as one value for both sides. -/
def zLC (D : pD) (w : Int32) (x : Int32) : Nat := if isNm x = true then 8 + (fnd (nms D.2.1 D.1).2 x (nms D.2.1 D.1).1).getD 0 else (fnd (fun k => nI (97 + (sgs w 26).2 k)) x (sgs w 26).1).getD 0
def zGD (D : pD) (w : Int32) : ZGT := (D.1, (nms D.2.1 D.1).1, (sgs w 26).1, fun r => (fnd (nms D.2.1 D.1).2 (D.2.1 r) (nms D.2.1 D.1).1).getD 0, fun r => if r < D.1 then D.2.2.1 r else 1, fun r i => if r < D.1 then zLC D w (D.2.2.2 r i) else 8, fun _ => true)
/-- a sign's number by its letter -/
def zsg (sl : Nat → Nat) (T j : Nat) : Int32 := sI (fnd (fun k => nI (97 + sl k)) (nI (97 + j)) T)
theorem sgs_26 (w : Int32) {k : Nat} (hk : k < (sgs w 26).1) : (sgs w 26).2 k < 26 := (sgs_in w 26 k hk).1
theorem fnd_sg (w : Int32) {j : Nat} (hj : j < 26) : fnd (fun k => nI (97 + (sgs w 26).2 k)) (nI (97 + j)) (sgs w 26).1 = if bt w j = true then some (sgs w j).1 else none := by
  cases hf : fnd (fun k => nI (97 + (sgs w 26).2 k)) (nI (97 + j)) (sgs w 26).1 with
  | some k =>
    obtain ⟨h1, h2⟩ := fnd_lt hf
    obtain ⟨a1, a2, a3⟩ := sgs_in w 26 k h1
    have e : (sgs w 26).2 k = j := by
      have := (nI_eq (a := 97 + (sgs w 26).2 k) (b := 97 + j) (by omega) (by omega)).mp h2
      omega
    rw [e] at a2 a3
    rw [if_pos a2, a3]
  | none =>
    rw [if_neg]
    intro hb
    have h1 := sgs_at w hb (25 - j)
    rw [show j + 1 + (25 - j) = 26 by omega] at h1
    exact fnd_no hf _ h1.1 (by rw [h1.2])
theorem zsg_eq (w : Int32) {j : Nat} (hj : j < 26) : zsg (sgs w 26).2 (sgs w 26).1 j = if bt w j = true then nI (sgs w j).1 else 99 := by
  unfold zsg
  rw [fnd_sg w hj]
  by_cases z : bt w j = true
  · rw [if_pos z, if_pos z]; rfl
  · rw [if_neg z, if_neg z]; rfl
theorem mny_no {nm sg : Int32} (h : mny nm sg = false) : ctI nm 32 ≤ 6 ∧ ctI sg 32 ≤ 8 := by
  unfold mny at h
  rw [Bool.or_eq_false_iff, decide_eq_false_iff_not, decide_eq_false_iff_not, bitC_ct, bitC_ct] at h
  have h1 := ctI_le nm 32
  have h2 := ctI_le sg 32
  have a := not_congr (zq_lt (a := 6) (b := ctI nm 32) rfl rfl (by omega) (by omega))
  have b := not_congr (zq_lt (a := 8) (b := ctI sg 32) rfl rfl (by omega) (by omega))
  have a1 := a.mp h.1
  have b1' := b.mp h.2
  omega
theorem ctI_mo (x : Int32) : ∀ k d, ctI x k ≤ ctI x (k + d)
  | k, 0 => Nat.le_refl _
  | k, d + 1 => by
    have h := ctI_mo x k d
    show ctI x k ≤ ctI x (k + d) + (if bt x (k + d) = true then 1 else 0)
    omega
/-- what a tape without a fault gives: bounds -/
theorem gC_b {r l : Nat} {nm w : Int32} {D : pD} (h : gC (2, r, l, nm, nm, w) D) : 1 ≤ D.1 ∧ D.1 ≤ 16 ∧ (nms D.2.1 D.1).1 ≤ 6 ∧ (sgs w 26).1 ≤ 8 ∧ ctI w 26 ≤ 8 ∧ ∀ j, j < D.1 → D.2.2.1 j ≤ 5 := by
  obtain ⟨⟨a1, a2, a3, a4, a5, a6, a7⟩, ⟨b1', b2⟩, c1, c2⟩ := h
  obtain ⟨m1, m2⟩ := mny_no b2
  have hw : ctI w 26 ≤ 8 := by
    have h26 : ctI w 26 ≤ ctI w 32 := ctI_mo w 26 6
    have m2 : ctI w 32 ≤ 8 := m2
    omega
  refine ⟨(a6 rfl).1, a4, ?_, by rw [sgs_ct]; exact hw, hw, fun j hj => (c1 j hj).2.1⟩
  refine Nat.le_trans (nms_bits (w := nm) (fun k hk => ?_)) m1
  exact ⟨(c1 k hk).1, (c1 k hk).2.2.1⟩
/-- a letter of a rule has its number -/
theorem gC_l {r l : Nat} {nm w : Int32} {D : pD} (h : gC (2, r, l, nm, nm, w) D) {j k : Nat} (hj : j < D.1) (hk : k < D.2.2.1 j) :
    (isNm (D.2.2.2 j k) = true ∧ ∃ m, fnd (nms D.2.1 D.1).2 (D.2.2.2 j k) (nms D.2.1 D.1).1 = some m ∧ m < (nms D.2.1 D.1).1) ∨ (isSg (D.2.2.2 j k) = true ∧ ∃ y, y < 26 ∧ D.2.2.2 j k = nI (97 + y) ∧ bt w y = true) := by
  obtain ⟨-, -, c1, c2⟩ := h
  dsimp only at c1 c2
  rcases (c1 j hj).2.2.2 k hk with ⟨a, b⟩ | ⟨a, b⟩
  · refine Or.inl ⟨a, ?_⟩
    obtain ⟨i, hi, hx, hbi⟩ := isNm_ix a
    have hb1 : bt nm i = true := b i (by rw [hbi]; exact decide_eq_true rfl)
    obtain ⟨j', hj', hb2⟩ := c2 i hb1
    obtain ⟨i', hi', hx', hbi'⟩ := isNm_ix (c1 j' hj').1
    rw [hbi'] at hb2
    have e : i = i' := of_decide_eq_true hb2
    obtain ⟨m, hm⟩ := nms_has (L := D.2.1) (r := D.1) hj'
    rw [hx', ← e, ← hx] at hm
    exact ⟨m, hm, (fnd_lt hm).1⟩
  · refine Or.inr ⟨a, ?_⟩
    obtain ⟨i, hi, hx, hbi⟩ := isSg_ix a
    exact ⟨i, hi, hx, b i (by rw [hbi]; exact decide_eq_true rfl)⟩
theorem zLC_nm {D : pD} {w x : Int32} {m : Nat} (h : isNm x = true) (hm : fnd (nms D.2.1 D.1).2 x (nms D.2.1 D.1).1 = some m) : zLC D w x = 8 + m := by rw [zLC, if_pos h, hm]; rfl
theorem zLC_sg {D : pD} {w x : Int32} {y : Nat} (h : isSg x = true) (hy : y < 26) (hx : x = nI (97 + y)) (hb : bt w y = true) : zLC D w x = (sgs w y).1 ∧ (sgs w y).1 < (sgs w 26).1 := by
  have a := isSg_ne h
  rw [zLC, if_neg (by rw [a.2.2.2.2]; decide), hx, fnd_sg w hy, if_pos hb]
  have h1 := (sgs_at w hb (25 - y)).1
  rw [show y + 1 + (25 - y) = 26 by omega] at h1
  exact ⟨rfl, h1⟩
theorem zGD_ok {r l : Nat} {nm w : Int32} {D : pD} (h : gC (2, r, l, nm, nm, w) D) : GW (zGD D w) := by
  obtain ⟨b1', b2, b3, b4, b5, b6⟩ := gC_b h
  have hN : 1 ≤ (nms D.2.1 D.1).1 := by
    obtain ⟨m, hm⟩ := nms_has (L := D.2.1) (r := D.1) (k := 0) (by omega)
    have := (fnd_lt hm).1
    omega
  refine ⟨⟨b1', b2, hN, b3, b4⟩, fun j hj => ?_, fun j hj => ?_, ?_, ?_⟩
  · have hj : j < D.1 := hj
    obtain ⟨m, hm⟩ := nms_has (L := D.2.1) (r := D.1) hj
    show (fnd (nms D.2.1 D.1).2 (D.2.1 j) (nms D.2.1 D.1).1).getD 0 < (nms D.2.1 D.1).1
    rw [hm]
    exact (fnd_lt hm).1
  · have hj : j ≤ D.1 := hj
    show (if j < D.1 then D.2.2.1 j else 1) ≤ 5 ∧ ∀ i, i < (if j < D.1 then D.2.2.1 j else 1) → (if j < D.1 then zLC D w (D.2.2.2 j i) else 8) < (sgs w 26).1 ∨ (8 ≤ (if j < D.1 then zLC D w (D.2.2.2 j i) else 8) ∧ (if j < D.1 then zLC D w (D.2.2.2 j i) else 8) < 8 + (nms D.2.1 D.1).1)
    by_cases z : j < D.1
    · rw [if_pos z]
      refine ⟨b6 j z, fun i hi => ?_⟩
      rw [if_pos z]
      rcases gC_l h z hi with ⟨a, m, hm, hlt⟩ | ⟨a, y, hy, hx, hb⟩
      · rw [zLC_nm a hm]; exact Or.inr ⟨by omega, by omega⟩
      · obtain ⟨c1, c2⟩ := zLC_sg (D := D) a hy hx hb
        rw [c1]; exact Or.inl c2
    · rw [if_neg z]
      refine ⟨by omega, fun i _ => ?_⟩
      rw [if_neg z]
      exact Or.inr ⟨by omega, by omega⟩
  · show (if D.1 < D.1 then D.2.2.1 D.1 else 1) = 1
    rw [if_neg (Nat.lt_irrefl _)]
  · show (if D.1 < D.1 then zLC D w (D.2.2.2 D.1 0) else 8) = 8
    rw [if_neg (Nat.lt_irrefl _)]
/-- names' bytes, signs' letters and numbers, as class and reference keep them -/
def TXc (G : ZGT) (nb : Nat → Int32) (sl : Nat → Nat) (u : SX) : Prop := (∀ k, k < zgN G → u.2.1 7 k = nb k) ∧ (∀ k, k < zgT G → u.2.1 9 k = nI (sl k) ∧ sl k < 26) ∧ ∀ j, j < 26 → u.2.1 10 j = zsg sl (zgT G) j
def TMc (G : ZGT) (nb : Nat → Int32) (sl : Nat → Nat) (s : SM) : Prop := (∀ k, k < zgN G → s.2.1 21 k = nb k) ∧ ∀ k, k < zgT G → s.2.1 22 k = nI (97 + sl k)
theorem allin : ∀ R, R ≤ 16 → ∀ i, i < 32 → bt ((1 : Int32) <<< (nI R &&& 31) - 1) i = decide (i < R) := by decide +kernel
theorem zGD_X {s u : SX} {f : Nat → Int32} {n r l : Nat} {nm : Int32} (h : gC (2, r, l, nm, nm, so f n 0 0) (pr f n 0 false gD0)) (hl : ldQ s f n u) : ZGX (zGD (pr f n 0 false gD0) (so f n 0 0)) u ∧ TXc (zGD (pr f n 0 false gD0) (so f n 0 0)) (nms (pr f n 0 false gD0).2.1 (pr f n 0 false gD0).1).2 (sgs (so f n 0 0) 26).2 u := by
  obtain ⟨D, hD⟩ : ∃ D, D = pr f n 0 false gD0 := ⟨_, rfl⟩
  obtain ⟨w, hw⟩ : ∃ w, w = so f n 0 0 := ⟨_, rfl⟩
  unfold ldQ at hl
  rw [← hD, ← hw] at h hl ⊢
  obtain ⟨⟨⟨a1, a2, a3, a4, a5⟩, a6, a7, a8, a9⟩, c1, c2, -⟩ := hl
  obtain ⟨b1', b2, b3, b4, b5, b6⟩ := gC_b h
  have hG := zGD_ok h
  have e10 : ∀ j, j < 26 → u.2.1 10 j = zsg (sgs w 26).2 (sgs w 26).1 j := fun j hj => by rw [a9 j hj, zsg_eq w hj]
  have eNm : ∀ x m, isNm x = true → fnd (nms D.2.1 D.1).2 x (nms D.2.1 D.1).1 = some m → u.2.1 8 (x - 65).toNatClampNeg = nI m := by
    intro x m hx hm
    obtain ⟨y, hy, hxy, -⟩ := isNm_ix hx
    have hix : x - 65 = nI y := by rw [hxy, show (65 : Int32) = nI 65 from rfl, nI_sub (by omega), show 65 + y - 65 = y by omega]
    rw [hix, nI_clamp (by omega), a7 y hy, ← hxy, hm]
    rfl
  refine ⟨⟨hG, ⟨a1, a2, a3⟩, fun j hj => ?_, fun j hj => ?_⟩, a6, fun k hk => ⟨a8 k hk, sgs_26 w hk⟩, e10⟩
  · have hj : j < D.1 := hj
    refine ⟨?_, ?_⟩
    · obtain ⟨m, hm⟩ := nms_has (L := D.2.1) (r := D.1) hj
      rw [(c1 j hj).1]
      have := eNm (D.2.1 j) m (h.2.2.1 j hj).1 hm
      rw [this]
      show nI m = nI ((fnd (nms D.2.1 D.1).2 (D.2.1 j) (nms D.2.1 D.1).1).getD 0)
      rw [hm]
      rfl
    · rw [a4, allin D.1 b2 j (by omega)]
      exact decide_eq_true hj
  · have hj : j ≤ D.1 := hj
    show u.2.1 5 j = nI (if j < D.1 then D.2.2.1 j else 1) ∧ ∀ i, i < (if j < D.1 then D.2.2.1 j else 1) → u.2.1 6 (5 * j + i) = nI (if j < D.1 then zLC D w (D.2.2.2 j i) else 8)
    by_cases z : j < D.1
    · rw [if_pos z]
      refine ⟨(c1 j z).2.1, fun i hi => ?_⟩
      rw [if_pos z, (c1 j z).2.2 i hi]
      rcases gC_l h z hi with ⟨a, m, hm, hlt⟩ | ⟨a, y, hy, hx, hb⟩
      · have an := isNm_ne a
        rw [lA, if_neg (by rw [an.2.2.2.2]; decide), eNm _ m a hm, zLC_nm a hm, show (8 : Int32) = nI 8 from rfl, nI_add]
      · obtain ⟨d1, d2⟩ := zLC_sg (D := D) a hy hx hb
        have hix : D.2.2.2 j i - 97 = nI y := by rw [hx, show (97 : Int32) = nI 97 from rfl, nI_sub (by omega), show 97 + y - 97 = y by omega]
        rw [lA, if_pos a, hix, nI_clamp (by omega), a9 y hy, if_pos hb, d1]
    · have e : j = D.1 := by omega
      subst e
      rw [if_neg z]
      refine ⟨c2.2.1, fun i hi => ?_⟩
      rw [if_neg z, show i = 0 by omega, Nat.add_zero, c2.2.2]
      rfl
theorem zGD_M {s u : SM} {w : Int32} {D : pD} {r l : Nat} {nm : Int32} {x : Option Value} (h : gC (2, r, l, nm, nm, w) D) (ht : tgQ s D w x u) : ZGM (zGD D w) u ∧ TMc (zGD D w) (nms D.2.1 D.1).2 (sgs w 26).2 u := by
  obtain ⟨-, ⟨a1, a2, a3, a4, a5, -⟩, -, a6, a7, c1, c2, -⟩ := ht
  obtain ⟨b1', b2, b3, b4, b5, b6⟩ := gC_b h
  refine ⟨⟨zGD_ok h, ⟨a1, a2, a3⟩, fun j hj => ?_, fun j hj => ?_⟩, a6, a7⟩
  · have hj : j < D.1 := hj
    obtain ⟨m, hm⟩ := nms_has (L := D.2.1) (r := D.1) hj
    refine ⟨?_, ?_⟩
    · rw [(c1 j hj).1]
      show fI _ = nI ((fnd (nms D.2.1 D.1).2 (D.2.1 j) (nms D.2.1 D.1).1).getD 0)
      rw [hm]
      rfl
    · rw [a4, b_0]; rfl
  · have hj : j ≤ D.1 := hj
    show u.2.1 19 j = nI (if j < D.1 then D.2.2.1 j else 1) ∧ ∀ i, i < (if j < D.1 then D.2.2.1 j else 1) → u.2.1 20 (5 * j + i) = nI (zlm (if j < D.1 then zLC D w (D.2.2.2 j i) else 8))
    by_cases z : j < D.1
    · rw [if_pos z]
      refine ⟨(c1 j z).2.1, fun i hi => ?_⟩
      rw [if_pos z, (c1 j z).2.2 i hi]
      rcases gC_l h z hi with ⟨a, m, hm, hlt⟩ | ⟨a, y, hy, hx, hb⟩
      · rw [lM, if_pos a, hm, zLC_nm a hm, zlm_nm (by omega), Nat.add_sub_cancel_left, ← nI_add]
        rfl
      · obtain ⟨d1, d2⟩ := zLC_sg (D := D) a hy hx hb
        have an := isSg_ne a
        rw [lM, if_neg (by rw [an.2.2.2.2]; decide), hx, fnd_sg w hy, if_pos hb, ← hx, d1, zlm_sg (by omega)]
        rfl
    · have e : j = D.1 := by omega
      subst e
      rw [if_neg z]
      refine ⟨c2.2.1, fun i hi => ?_⟩
      rw [if_neg z, show i = 0 by omega, Nat.add_zero, c2.2.2]
      rfl
