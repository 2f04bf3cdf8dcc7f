/-! System.arraycopy between arrays of ints. -/
theorem nat_ac : Cond.native arraycopyName ∈ zT := zT_at 4027 (by decide +kernel) rfl
theorem sta_ac : Cond.static arraycopyName ∈ zT := zT_at 4026 (by decide +kernel) rfl
theorem ini_ac : Cond.initialized "java/lang/System" ∈ zT := zT_at 1021 (by decide +kernel) rfl
theorem k4_160 : Cond.methodLink RX4 160 arraycopyName ∈ zT := zT_at 4025 (by decide +kernel) rfl
theorem k6_23 : Cond.methodLink RX6 23 arraycopyName ∈ zT := zT_at 4059 (by decide +kernel) rfl
theorem k7_22 : Cond.methodLink RX7 22 arraycopyName ∈ zT := zT_at 4116 (by decide +kernel) rfl
theorem k8_88 : Cond.methodLink RX8 88 arraycopyName ∈ zT := zT_at 5138 (by decide +kernel) rfl
theorem k3_69 : Cond.methodLink RX3 69 arraycopyName ∈ zT := zT_at 6011 (by decide +kernel) rfl
theorem nfw_ac : nativeFrameWords "java/lang/System" "arraycopy" 5 + 11 ≤ 40 := by decide
section ZCopy
variable {S : Type} {Z : ZW S} {M : MD} {pc nx tg : Nat} {v : Int32} {l : List (Option Value)} {st : List Value} {s s' sE : S} {r : Option Value} {Q : Option Value → S → Prop}
theorem Rn_copy {idx a0 a1 n0 n1 i j n : Nat} {x y z : Int32} {f g : Nat → Int32} (hfe : zfe M pc = some (.invokestatic idx, 3, nx, tg, v)) (hlk : Cond.methodLink M.2.1.cls idx arraycopyName ∈ zT) (hcr : zcm M 40 st = true)
    (hx : x = nI i) (hy : y = nI j) (hz : z = nI n) (hc0 : Z.1 s a0 = .inl (0, n0, .inl f)) (hc1 : Z.1 s a1 = .inl (0, n1, .inl g)) (ha0 : a0 < Z.2.1 s) (ha1 : a1 < Z.2.1 s) (h0 : i + n ≤ n0) (h1 : j + n ≤ n1) (hb : n0 < 2 ^ 31 ∧ n1 < 2 ^ 31)
    (hs : (Z.2.1 s' = Z.2.1 s ∧ Z.2.2.1 s' = Z.2.2.1 s) ∧ (∀ b, b ≠ a1 → Z.1 s' b = Z.1 s b) ∧ Z.1 s' a1 = .inl (0, n1, .inl (va_cpy f g i j n)))
    (k : Rn Z M (nx, l, st, s') r sE) : Rn Z M (pc, l, .int z :: .int y :: .ref a1 :: .int x :: .ref a0 :: st, s) r sE := by
  subst hx; subst hy; subst hz
  obtain ⟨k1, k2⟩ := k
  dsimp only at k1 k2
  rw [hs.1.1, hs.1.2] at k1 k2
  refine ⟨k1, ?_⟩
  intro p l0 e R s0 m args below meth c H locs ls A dC dI dA ad ad0 nn k0 n0' hC hR hH hlv ha hk
  dsimp only at hH hlv ha hk ⊢
  obtain ⟨hd, hnx, -⟩ := zD hC hfe
  unfold zcm at hcr
  rw [Bool.and_eq_true] at hcr
  obtain ⟨hP, hK, hD, hS, hA, had⟩ := hH
  subst hnx
  have nn0 : ∀ q : Nat, q < 2 ^ 31 → ¬ nI q < 0 := fun q hq => fun z => absurd ((zq_lt (a := q) (b := 0) rfl rfl hq (by omega)).mp z) (by omega)
  have ci : (nI i).toNatClampNeg = i := nI_clamp (by omega)
  have cj : (nI j).toNatClampNeg = j := nI_clamp (by omega)
  have cn : (nI n).toNatClampNeg = n := nI_clamp (by omega)
  have e0 : (zws Z dA ad s)[a0]? = some (ad a0, .inl (dA 0, n0, .inl f)) := by rw [zws_at ha0, hc0]; rfl
  have e1 : (zws Z dA ad s)[a1]? = some (ad a1, .inl (dA 0, n1, .inl g)) := by rw [zws_at ha1, hc1]; rfl
  have hws : zws Z dA ad s' = (zws Z dA ad s).set a1 (ad a1, .inl (dA 0, n1, .inl (va_cpy f g i j n))) := by
    rw [zws_set hs.1.1 hs.2.1, hs.2.2]; rfl
  refine va_copyi hC.1 hC.2.1 (hC.2.2.1.trans hlv.2.1.symm) hC.2.2.2.2.2.1 (hC.2.2.2.2.1 _ hlk) (hC.2.2.2.2.1 _ nat_ac) (hC.2.2.2.2.1 _ sta_ac) (hC.2.2.2.2.1 _ ini_ac) hK hP hD hS a0 a1 0 0 e0 e1 rfl rfl rfl (nn0 i (by omega)) (nn0 j (by omega)) (nn0 n (by omega)) (by rw [ci, cn]; exact h0) (by rw [cj, cn]; exact h1) (fun _ _ => rfl) (Nat.le_trans (Nat.le_of_ble_eq_true hcr.1) hR.1) (Nat.le_trans (by rw [zcat_sum]; have := Nat.le_of_ble_eq_true hcr.2; have := nfw_ac; omega) hR.2.1) hd ?_
  intro H1 locs1 hP1 hD1 hS1
  rw [ci, cj, cn] at hP1 hD1
  exact k2 p l0 e R s0 m args below meth c H1 locs1 ls A dC dI dA ad ad0 nn k0 n0' hC hR ⟨by rw [hws]; exact hP1, hK, by rw [hws]; exact hD1, hS1, hA, by rw [hs.1.1]; exact had⟩ hlv ha hk
theorem RQ_copy {idx a0 a1 n0 n1 i j n : Nat} {x y z : Int32} {f g : Nat → Int32} (hfe : zfe M pc = some (.invokestatic idx, 3, nx, tg, v)) (hlk : Cond.methodLink M.2.1.cls idx arraycopyName ∈ zT) (hcr : zcm M 40 st = true)
    (hx : x = nI i) (hy : y = nI j) (hz : z = nI n) (hc0 : Z.1 s a0 = .inl (0, n0, .inl f)) (hc1 : Z.1 s a1 = .inl (0, n1, .inl g)) (ha0 : a0 < Z.2.1 s) (ha1 : a1 < Z.2.1 s) (h0 : i + n ≤ n0) (h1 : j + n ≤ n1) (hb : n0 < 2 ^ 31 ∧ n1 < 2 ^ 31)
    (hs : (Z.2.1 s' = Z.2.1 s ∧ Z.2.2.1 s' = Z.2.2.1 s) ∧ (∀ b, b ≠ a1 → Z.1 s' b = Z.1 s b) ∧ Z.1 s' a1 = .inl (0, n1, .inl (va_cpy f g i j n)))
    (k : RnQ Z M (nx, l, st, s') Q) : RnQ Z M (pc, l, .int z :: .int y :: .ref a1 :: .int x :: .ref a0 :: st, s) Q := by
  obtain ⟨r, s1, hq, hr⟩ := k
  exact ⟨r, s1, hq, Rn_copy hfe hlk hcr hx hy hz hc0 hc1 ha0 ha1 h0 h1 hb hs hr⟩
end ZCopy
/-- the class's state behind a copy -/
theorem y_cps {P : YP} {s : SX} {a1 n1 : Nat} {g : Nat → Int32} (hc : ycel P (s.1, setA s.2.1 a1 g, s.2.2) a1 = .inl (0, n1, .inl (setA s.2.1 a1 g a1))) : ((ZY P).2.1 (s.1, setA s.2.1 a1 g, s.2.2) = (ZY P).2.1 s ∧ (ZY P).2.2.1 (s.1, setA s.2.1 a1 g, s.2.2) = (ZY P).2.2.1 s) ∧ (∀ b, b ≠ a1 → (ZY P).1 (s.1, setA s.2.1 a1 g, s.2.2) b = (ZY P).1 s b) ∧ (ZY P).1 (s.1, setA s.2.1 a1 g, s.2.2) a1 = .inl (0, n1, .inl g) := by
  refine ⟨⟨rfl, rfl⟩, fun b hb => ?_, ?_⟩
  · show yc P (s.1 b) (setA s.2.1 a1 g b) _ _ _ b = yc P (s.1 b) (s.2.1 b) _ _ _ b
    rw [setA_ne hb]
  · show ycel P _ a1 = _
    rw [hc, setA_at]
