/-! Integer.bitCount counts bits. -/
def ctb (n : Nat) : Nat → Nat
  | 0 => 0
  | k + 1 => ctb n k + (if n.testBit k = true then 1 else 0)
theorem tb_lo {y a i : Nat} (hi : i < 8) : (256 * y + a).testBit i = a.testBit i := by
  rw [Nat.testBit_eq_decide_div_mod_eq, Nat.testBit_eq_decide_div_mod_eq]
  have h : (256 * y + a) / 2 ^ i % 2 = a / 2 ^ i % 2 := by
    have hh : i = 0 ∨ i = 1 ∨ i = 2 ∨ i = 3 ∨ i = 4 ∨ i = 5 ∨ i = 6 ∨ i = 7 := by omega
    rcases hh with rfl | rfl | rfl | rfl | rfl | rfl | rfl | rfl
    · show (256 * y + a) / 1 % 2 = a / 1 % 2; omega
    · show (256 * y + a) / 2 % 2 = a / 2 % 2; omega
    · show (256 * y + a) / 4 % 2 = a / 4 % 2; omega
    · show (256 * y + a) / 8 % 2 = a / 8 % 2; omega
    · show (256 * y + a) / 16 % 2 = a / 16 % 2; omega
    · show (256 * y + a) / 32 % 2 = a / 32 % 2; omega
    · show (256 * y + a) / 64 % 2 = a / 64 % 2; omega
    · show (256 * y + a) / 128 % 2 = a / 128 % 2; omega
  rw [h]
theorem tb_hi {y a : Nat} (ha : a < 256) (k : Nat) : (256 * y + a).testBit (8 + k) = y.testBit k := by
  rw [Nat.testBit_eq_decide_div_mod_eq, Nat.testBit_eq_decide_div_mod_eq]
  have h : (256 * y + a) / 2 ^ (8 + k) = y / 2 ^ k := by
    rw [Nat.pow_add, ← Nat.div_div_eq_div_mul]
    congr 1
    show (256 * y + a) / 256 = y
    omega
  rw [h]
theorem and_sep {y a my ma : Nat} (ha : a < 256) (hm : ma < 256) : (256 * y + a) &&& (256 * my + ma) = 256 * (y &&& my) + (a &&& ma) := by
  have hz : a &&& ma < 256 := Nat.lt_of_le_of_lt Nat.and_le_left ha
  apply Nat.eq_of_testBit_eq
  intro i
  rw [Nat.testBit_and]
  by_cases h : i < 8
  · rw [tb_lo h, tb_lo h, tb_lo h, Nat.testBit_and]
  · obtain ⟨k, hk⟩ : ∃ k, i = 8 + k := ⟨i - 8, by omega⟩
    subst hk
    rw [tb_hi ha, tb_hi hm, tb_hi hz, Nat.testBit_and]
theorem ctb_sep {y a : Nat} (ha : a < 256) : ∀ k, ctb (256 * y + a) (8 + k) = ctb a 8 + ctb y k
  | 0 => by
    have h : ∀ j, j ≤ 8 → ctb (256 * y + a) j = ctb a j := by
      intro j
      induction j with
      | zero => intro _; rfl
      | succ j ih => intro hj; rw [ctb, ctb, ih (by omega), tb_lo (by omega)]
    rw [Nat.add_zero, ctb, Nat.add_zero]
    exact h 8 (Nat.le_refl _)
  | k + 1 => by
    have h1 : ctb (256 * y + a) (8 + (k + 1)) = ctb (256 * y + a) (8 + k) + (if (256 * y + a).testBit (8 + k) = true then 1 else 0) := rfl
    have h2 : ctb y (k + 1) = ctb y k + (if y.testBit k = true then 1 else 0) := rfl
    rw [h1, h2, ctb_sep ha k, tb_hi ha]
    omega
def pF (m k : Nat) : Nat := m - ((m / 2) &&& k)
def pG (m k : Nat) : Nat := (m &&& k) + ((m / 4) &&& k)
def pH (m k : Nat) : Nat := (m + m / 16) &&& k
theorem d85 : ∀ t, t < 2 → ∀ w, w < 128 → (128 * t + w) &&& 85 = w &&& 85 := by decide +kernel
theorem d51 : ∀ t, t < 4 → ∀ w, w < 64 → (64 * t + w) &&& 51 = w &&& 51 := by decide +kernel
theorem pF_sep {y a my : Nat} (ha : a < 256) : pF (256 * y + a) (256 * my + 85) = 256 * pF y my + pF a 85 := by
  unfold pF
  have e : (256 * y + a) / 2 = 256 * (y / 2) + (128 * (y % 2) + a / 2) := by omega
  rw [e, and_sep (by omega) (by omega), d85 (y % 2) (by omega) (a / 2) (by omega)]
  have h1 : (y / 2) &&& my ≤ y / 2 := Nat.and_le_left
  have h2 : (a / 2) &&& 85 ≤ a / 2 := Nat.and_le_left
  omega
theorem pG_sep {y a my : Nat} (ha : a < 256) : pG (256 * y + a) (256 * my + 51) = 256 * pG y my + pG a 51 := by
  unfold pG
  have e : (256 * y + a) / 4 = 256 * (y / 4) + (64 * (y % 4) + a / 4) := by omega
  rw [e, and_sep (y := y) (a := a) ha (by omega), and_sep (y := y / 4) (a := 64 * (y % 4) + a / 4) (by omega) (by omega), d51 (y % 4) (by omega) (a / 4) (by omega)]
  omega
theorem and15 (x : Nat) : x &&& 15 = x % 16 := Nat.and_two_pow_sub_one_eq_mod x 4
theorem pH_sep {y a my : Nat} (ha : a ≤ 119) (hy : y % 16 ≤ 4) : pH (256 * y + a) (256 * my + 15) = 256 * pH y my + pH a 15 := by
  unfold pH
  have e : 256 * y + a + (256 * y + a) / 16 = 256 * (y + y / 16) + (a + a / 16 + 16 * (y % 16)) := by omega
  rw [e, and_sep (by omega) (by omega), and15, and15]
  omega
def pB (a : Nat) : Nat := pH (pG (pF a 85) 51) 15
theorem pB_ok : ∀ a, a < 256 → pF a 85 < 256 ∧ pG (pF a 85) 51 ≤ 68 ∧ pG (pF a 85) 51 % 16 ≤ 4 ∧ pB a = ctb a 8 ∧ ctb a 8 ≤ 8 := by decide +kernel
def pcN (n : Nat) : Nat := let m := pH (pG (pF n 1431655765) 858993459) 252645135
  let m4 := m + m / 256
  (m4 + m4 / 65536) &&& 63
theorem pF_0 (y : Nat) : pF y 0 = y := by unfold pF; rw [Nat.and_zero]; rfl
theorem pc_sum {A B C D : Nat} (ha : A ≤ 8) (hb : B ≤ 8) (hc : C ≤ 8) (hd : D ≤ 8) : (256 * (256 * (256 * D + C) + B) + A + (256 * (256 * (256 * D + C) + B) + A) / 256 + (256 * (256 * (256 * D + C) + B) + A + (256 * (256 * (256 * D + C) + B) + A) / 256) / 65536) % 64 = A + (B + (C + D)) := by
  have h1 : (256 * (256 * (256 * D + C) + B) + A) / 256 = 256 * (256 * D + C) + B := by omega
  rw [h1]
  have h2 : (256 * (256 * (256 * D + C) + B) + A + (256 * (256 * D + C) + B)) / 65536 = 256 * D + (C + D) := by omega
  rw [h2]
  omega
theorem pcN_eq {n : Nat} (h : n < 4294967296) : pcN n = ctb n 32 := by
  obtain ⟨a, b, c, d, hn, ha, hb, hc, hd⟩ : ∃ a b c d, n = 256 * (256 * (256 * d + c) + b) + a ∧ a < 256 ∧ b < 256 ∧ c < 256 ∧ d < 256 := ⟨n % 256, n / 256 % 256, n / 65536 % 256, n / 16777216, by omega, by omega, by omega, by omega, by omega⟩
  obtain ⟨a1, a2, a3, a4, a5⟩ := pB_ok a ha
  obtain ⟨b1, b2, b3, b4, b5⟩ := pB_ok b hb
  obtain ⟨c1, c2, c3, c4, c5⟩ := pB_ok c hc
  obtain ⟨d1, d2, d3, d4, d5⟩ := pB_ok d hd
  have hF : pF n 1431655765 = 256 * (256 * (256 * pF d 85 + pF c 85) + pF b 85) + pF a 85 := by
    rw [hn, show (1431655765 : Nat) = 256 * (256 * (256 * 85 + 85) + 85) + 85 from rfl, pF_sep ha, pF_sep hb, pF_sep hc]
  have hG : pG (pF n 1431655765) 858993459 = 256 * (256 * (256 * pG (pF d 85) 51 + pG (pF c 85) 51) + pG (pF b 85) 51) + pG (pF a 85) 51 := by
    rw [hF, show (858993459 : Nat) = 256 * (256 * (256 * 51 + 51) + 51) + 51 from rfl, pG_sep a1, pG_sep b1, pG_sep c1]
  have hH : pH (pG (pF n 1431655765) 858993459) 252645135 = 256 * (256 * (256 * pB d + pB c) + pB b) + pB a := by
    rw [hG, show (252645135 : Nat) = 256 * (256 * (256 * 15 + 15) + 15) + 15 from rfl, pH_sep (by omega) (by omega), pH_sep (by omega) (by omega), pH_sep (by omega) (by omega)]
    rfl
  have hc2 : ctb n 32 = ctb a 8 + (ctb b 8 + (ctb c 8 + ctb d 8)) := by
    rw [hn]
    have e1 := ctb_sep (y := 256 * (256 * d + c) + b) ha 24
    have e2 := ctb_sep (y := 256 * d + c) hb 16
    have e3 := ctb_sep (y := d) hc 8
    rw [e1, e2, e3]
  unfold pcN
  dsimp only
  rw [hH, show (63 : Nat) = 2 ^ 6 - 1 from rfl, Nat.and_two_pow_sub_one_eq_mod, hc2, a4, b4, c4, d4]
  exact pc_sum a5 b5 c5 d5
theorem nI_bt (m i : Nat) (hi : i < 32) : bt (nI m) i = m.testBit i := by
  show (BitVec.ofNat 32 m).getLsbD i = _
  rw [BitVec.getLsbD_ofNat]
  simp [hi]
theorem tb_div (n k i : Nat) : (n / 2 ^ k).testBit i = n.testBit (k + i) := by
  rw [Nat.testBit_eq_decide_div_mod_eq, Nat.testBit_eq_decide_div_mod_eq, Nat.div_div_eq_div_mul, ← Nat.pow_add]
theorem tb_big {n i : Nat} (h : n < 4294967296) (hi : 32 ≤ i) : n.testBit i = false := Nat.testBit_lt_two_pow (Nat.lt_of_lt_of_le h (show 2 ^ 32 ≤ 2 ^ i from Nat.pow_le_pow_right (by decide) hi))
theorem ush_nI {n k : Nat} (h : n < 4294967296) (hk : k < 32) : ush (nI n) (nI k) = nI (n / 2 ^ k) := by
  apply b_ext
  intro i hi
  unfold ush
  rw [b_ushr k hk, nI_bt _ i hi, tb_div]
  by_cases z : k + i < 32
  · rw [nI_bt _ _ z]
  · rw [b_big (by omega), tb_big h (by omega)]
theorem nI_sub {a b : Nat} (h : b ≤ a) : nI a - nI b = nI (a - b) := by
  have h1 := nI_add (a - b) b
  rw [show a - b + b = a by omega] at h1
  rw [← h1]
  exact Int32.add_sub_cancel _ _
theorem bitC_eq {n : Nat} (h : n < 4294967296) : bitC (nI n) = nI (ctb n 32) := by
  rw [← pcN_eq h]
  unfold pcN
  have hF : pF n 1431655765 ≤ n := by unfold pF; omega
  have hF2 : (n / 2) &&& 1431655765 ≤ n / 2 := Nat.and_le_left
  have e1 : bc1 (nI n) = nI (pF n 1431655765) := by
    unfold bc1 pF
    rw [show (1 : Int32) = nI 1 from rfl, ush_nI h (by decide), show (1431655765 : Int32) = nI 1431655765 from rfl, nx_and, nI_sub (Nat.le_trans Nat.and_le_left (Nat.div_le_self _ _))]
  generalize pF n 1431655765 = m1 at hF e1
  have e2 : bc2 (nI m1) = nI (pG m1 858993459) := by
    unfold bc2 pG
    rw [show (2 : Int32) = nI 2 from rfl, ush_nI (by omega) (by decide), show (858993459 : Int32) = nI 858993459 from rfl, nx_and, nx_and, nI_add]
  have h2 : pG m1 858993459 ≤ 1717986918 := by
    have a := Nat.and_le_right (n := m1) (m := 858993459)
    have b := Nat.and_le_right (n := m1 / 4) (m := 858993459)
    unfold pG
    omega
  generalize pG m1 858993459 = m2 at h2 e2
  have e3 : bc3 (nI m2) = nI (pH m2 252645135) := by
    unfold bc3 pH
    rw [show (4 : Int32) = nI 4 from rfl, ush_nI (by omega) (by decide), nI_add, show (252645135 : Int32) = nI 252645135 from rfl, nx_and]
  have h3 : pH m2 252645135 ≤ 252645135 := Nat.and_le_right
  generalize hm3 : pH m2 252645135 = m3 at h3 e3
  have e4 : bc4 (nI m3) = nI (m3 + m3 / 256) := by
    unfold bc4
    rw [show (8 : Int32) = nI 8 from rfl, ush_nI (by omega) (by decide), nI_add]
  have e5 : bc5 (nI (m3 + m3 / 256)) = nI (m3 + m3 / 256 + (m3 + m3 / 256) / 65536) := by
    unfold bc5
    rw [show (16 : Int32) = nI 16 from rfl, ush_nI (by omega) (by decide), nI_add]
  unfold bitC
  rw [e1, e2, e3, e4, e5, show (63 : Int32) = nI 63 from rfl, nx_and]
theorem nI_ex (x : Int32) : ∃ n, n < 4294967296 ∧ x = nI n := by
  refine ⟨x.toBitVec.toNat, x.toBitVec.isLt, ?_⟩
  apply Int32.toBitVec_inj.mp
  show x.toBitVec = BitVec.ofNat 32 x.toBitVec.toNat
  rw [BitVec.ofNat_toNat, BitVec.setWidth_eq]
def ctI (x : Int32) : Nat → Nat
  | 0 => 0
  | k + 1 => ctI x k + (if bt x k = true then 1 else 0)
theorem ctI_le (x : Int32) : ∀ k, ctI x k ≤ k
  | 0 => Nat.le_refl _
  | k + 1 => by
    have := ctI_le x k
    have h : ctI x (k + 1) = ctI x k + (if bt x k = true then 1 else 0) := rfl
    rw [h]
    split <;> omega
theorem ctI_nI (n : Nat) : ∀ k, k ≤ 32 → ctI (nI n) k = ctb n k
  | 0, _ => rfl
  | k + 1, h => by
    show ctI (nI n) k + (if bt (nI n) k = true then 1 else 0) = ctb n k + (if n.testBit k = true then 1 else 0)
    rw [ctI_nI n k (by omega), nI_bt n k (by omega)]
theorem bitC_ct (x : Int32) : bitC x = nI (ctI x 32) := by
  obtain ⟨n, h, rfl⟩ := nI_ex x
  rw [bitC_eq h, ctI_nI n 32 (Nat.le_refl _)]
theorem ctI_sub {x y : Int32} : ∀ {k : Nat}, (∀ i, i < k → bt x i = true → bt y i = true) → ctI x k ≤ ctI y k
  | 0, _ => Nat.le_refl _
  | k + 1, h => by
    show ctI x k + (if bt x k = true then 1 else 0) ≤ ctI y k + (if bt y k = true then 1 else 0)
    have h1 := ctI_sub (x := x) (y := y) (k := k) (fun i hi => h i (by omega))
    by_cases z : bt x k = true
    · rw [if_pos z, if_pos (h k (by omega) z)]; omega
    · rw [if_neg z]; omega
/-- a bit more -/
theorem ctI_new {x y : Int32} {j : Nat} (hx : bt x j = false) (hy : ∀ i, bt y i = (bt x i || decide (i = j))) : ∀ k, ctI y k = ctI x k + (if j < k then 1 else 0)
  | 0 => rfl
  | k + 1 => by
    show ctI y k + (if bt y k = true then 1 else 0) = ctI x k + (if bt x k = true then 1 else 0) + (if j < k + 1 then 1 else 0)
    rw [ctI_new hx hy k, hy k]
    by_cases z : k = j
    · subst z
      rw [hx, if_neg (Nat.lt_irrefl _), if_pos (by simp), if_neg (by decide), if_pos (by omega)]
    · rw [decide_eq_false z, Bool.or_false]
      by_cases w : j < k
      · rw [if_pos w, if_pos (show j < k + 1 by omega)]; omega
      · rw [if_neg w, if_neg (show ¬ j < k + 1 by omega)]; omega
