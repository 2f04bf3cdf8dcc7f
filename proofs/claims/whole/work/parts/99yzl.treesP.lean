/-! Trees counted: as values; longs of the class filled and copied. -/
def zcp (x : Nat) : Nat := min 1000000000 x
theorem zcp_le (x : Nat) : zcp x ≤ 1000000000 := Nat.min_le_left _ _
theorem zcp_id {x : Nat} (h : x ≤ 1000000000) : zcp x = x := Nat.min_eq_right h
/-- two rows of numbers joined, at a place, the first n of them -/
def zjn (a b : Nat → Nat) (c : Nat) : Nat → Nat
  | 0 => 0
  | n + 1 => zcp (zjn a b c n + zcp (a n * b (c - n)))
theorem zjn_le (a b : Nat → Nat) (c : Nat) : ∀ n, zjn a b c n ≤ 1000000000
  | 0 => Nat.zero_le _
  | _ + 1 => zcp_le _
def zjoi (a b : Nat → Nat) : Nat → Nat := fun c => zjn a b c (c + 1)
def zshf (a : Nat → Nat) : Nat → Nat := fun c => if c = 0 then 0 else a (c - 1)
def zun0 : Nat → Nat := fun c => if c = 0 then 1 else 0
def zun1 : Nat → Nat := fun c => if c = 1 then 1 else 0
def zuw (G : ZGT) (T : Nat → Nat → Nat) (r : Nat) : Nat → Nat → Nat
  | 0 => zun0
  | d + 1 => if zgt G r d < 8 then zshf (zuw G T r d) else zjoi (zuw G T r d) (T (zgt G r d - 8))
theorem zuw_s (G : ZGT) (T : Nat → Nat → Nat) (r d : Nat) : zuw G T r (d + 1) = if zgt G r d < 8 then zshf (zuw G T r d) else zjoi (zuw G T r d) (T (zgt G r d - 8)) := rfl
theorem zuw_le (G : ZGT) (T : Nat → Nat → Nat) (r : Nat) : ∀ d c, zuw G T r d c ≤ 1000000000
  | 0, c => by
    show zun0 c ≤ _
    unfold zun0
    split <;> omega
  | d + 1, c => by
    rw [zuw_s]
    split
    · unfold zshf
      split
      · omega
      · exact zuw_le G T r d _
    · exact zjn_le _ _ _ _
def ztrr (G : ZGT) (T : Nat → Nat → Nat) : Nat → Nat → Nat → Nat
  | 0 => fun _ _ => 0
  | r + 1 => fun n k => if zgi G r = true ∧ zgl G r = n then zcp (ztrr G T r n k + zuw G T r (zgn G r) k) else ztrr G T r n k
def ztrh (G : ZGT) : Nat → Nat → Nat → Nat
  | 0 => fun _ _ => 0
  | h + 1 => ztrr G (ztrh G h) (zgR G)
theorem ztrr_le (G : ZGT) (T : Nat → Nat → Nat) : ∀ r n k, ztrr G T r n k ≤ 1000000000
  | 0, _, _ => Nat.zero_le _
  | r + 1, n, k => by
    show (if zgi G r = true ∧ zgl G r = n then zcp (ztrr G T r n k + zuw G T r (zgn G r) k) else ztrr G T r n k) ≤ _
    split
    · exact zcp_le _
    · exact ztrr_le G T r n k
theorem ztrh_le (G : ZGT) : ∀ h n k, ztrh G h n k ≤ 1000000000
  | 0, _, _ => Nat.zero_le _
  | _ + 1, n, k => ztrr_le G _ _ n k
def zvTe (G : ZGT) (x y z : Int32) : Int32 := match zix x (zgN G) with
  | none => -1
  | some n => match zix y 9 with
    | none => -1
    | some k => match zix z 7 with
      | none => -1
      | some h => nI (ztrh G h n k)
/-- by one sign: all is one place further -/
theorem zjn_1 {a : Nat → Nat} (ha : ∀ i, a i ≤ 1000000000) (c : Nat) : ∀ n, n ≤ c + 1 → zjn a zun1 c n = if c ≠ 0 ∧ c ≤ n then a (c - 1) else 0
  | 0, _ => by
    rw [if_neg (by omega)]; rfl
  | n + 1, hn => by
    show zcp (zjn a zun1 c n + zcp (a n * zun1 (c - n))) = _
    rw [zjn_1 ha c n (by omega)]
    have h1 := ha n
    have h2 := ha (c - 1)
    unfold zun1
    by_cases e : c - n = 1
    · have ec : c - 1 = n := by omega
      rw [if_pos e, if_neg (by omega), if_pos (by omega), Nat.mul_one, Nat.zero_add, zcp_id h1, zcp_id h1, ec]
    · rw [if_neg e, Nat.mul_zero]
      by_cases e2 : c ≠ 0 ∧ c ≤ n
      · rw [if_pos e2, if_pos (by omega), zcp_id (x := 0) (by omega), Nat.add_zero, zcp_id h2]
      · rw [if_neg e2, if_neg (by omega)]; rfl
theorem zjoi_1 {a : Nat → Nat} (ha : ∀ i, a i ≤ 1000000000) : zjoi a zun1 = zshf a := by
  funext c
  unfold zjoi zshf
  rw [zjn_1 ha c (c + 1) (Nat.le_refl _)]
  by_cases e : c = 0
  · rw [if_pos e, if_neg (by omega)]
  · rw [if_neg e, if_pos (by omega)]
def nL (a : Nat) : Int64 := Int64.ofNat a
theorem nL_add (a b : Nat) : nL a + nL b = nL (a + b) := (Int64.ofNat_add a b).symm
theorem nL_mul (a b : Nat) : nL a * nL b = nL (a * b) := (Int64.ofNat_mul a b).symm
theorem nL_lt {a b : Nat} (ha : a < 2 ^ 63) (hb : b < 2 ^ 63) : nL a < nL b ↔ a < b := Int64.ofNat_lt_iff_lt ha hb
theorem nL_i {a : Nat} : (nL a).toInt32 = nI a := Int64.toInt32_ofNat'
theorem nI_lg {a : Nat} (h : a ≤ 1000000000) : (nI a).toInt64 = nL a := Int64.toInt_inj.mp (by
  rw [Int32.toInt_toInt64]
  show (Int32.ofNat a).toInt = (Int64.ofNat a).toInt
  rw [Int32.toInt_ofNat_of_lt (by omega), Int64.toInt_ofNat_of_lt (by omega)])
/-- the lesser of a number and the bound, either way round -/
theorem minL1 {x : Nat} (h : x ≤ 1000000000000000000) : (if (1000000000 : Int64) < nL x then (1000000000 : Int64) else nL x) = nL (zcp x) := by
  have e : (1000000000 : Int64) = nL 1000000000 := rfl
  rw [e]
  unfold zcp
  by_cases z : 1000000000 < x
  · rw [if_pos ((nL_lt (by omega) (by omega)).mpr z), Nat.min_eq_left (by omega)]
  · rw [if_neg (fun q => z ((nL_lt (by omega) (by omega)).mp q)), Nat.min_eq_right (by omega)]
theorem minL2 {x : Nat} (h : x ≤ 1000000000000000000) : (if nL x < (1000000000 : Int64) then nL x else (1000000000 : Int64)) = nL (zcp x) := by
  have e : (1000000000 : Int64) = nL 1000000000 := rfl
  rw [e]
  unfold zcp
  by_cases z : x < 1000000000
  · rw [if_pos ((nL_lt (by omega) (by omega)).mpr z), Nat.min_eq_right (by omega)]
  · rw [if_neg (fun q => z ((nL_lt (by omega) (by omega)).mp q)), Nat.min_eq_left (by omega)]
theorem mul9 {x y : Nat} (hx : x ≤ 1000000000) (hy : y ≤ 1000000000) : x * y ≤ 1000000000000000000 := Nat.mul_le_mul hx hy
section ZCpL
variable {S : Type} {Z : ZW S} {M : MD} {pc nx tg : Nat} {v : Int32} {l : List (Option Value)} {st : List Value} {s s' sE : S} {r : Option Value} {Q : Option Value → S → Prop}
theorem RQ_minL {idx : Nat} {x y : Int64} (hfe : zfe M pc = some (.invokestatic idx, 3, nx, tg, v)) (hlk : Cond.methodLink M.2.1.cls idx Lib.MathLoose.min_long.x ∈ zT ∧ Cond.static Lib.MathLoose.min_long.x ∈ zT ∧ Cond.initialized "java/lang/Math" ∈ zT ∧ Cond.code Lib.MathLoose.min_long.x Lib.MathLoose.min_long.code 4 (some .long) ∈ zT) (hcr : zcm M 15 st = true)
    (k : RnQ Z M (nx, l, .long (if y < x then y else x) :: st, s) Q) : RnQ Z M (pc, l, .long y :: .long x :: st, s) Q := by
  obtain ⟨r, s1, hq, hr⟩ := k
  exact ⟨r, s1, hq, Rn_minL hfe hlk hcr hr⟩
theorem Rn_copyL {idx a0 a1 n0 n1 i j n : Nat} {x y z : Int32} {f g : Nat → Int64} (hfe : zfe M pc = some (.invokestatic idx, 3, nx, tg, v)) (hlk : Cond.methodLink M.2.1.cls idx arraycopyName ∈ zT) (hcr : zcm M 40 st = true)
    (hx : x = nI i) (hy : y = nI j) (hz : z = nI n) (hc0 : Z.1 s a0 = .inl (2, n0, .inr (.inl f))) (hc1 : Z.1 s a1 = .inl (2, n1, .inr (.inl g))) (ha0 : a0 < Z.2.1 s) (ha1 : a1 < Z.2.1 s) (h0 : i + n ≤ n0) (h1 : j + n ≤ n1) (hb : n0 < 2 ^ 31 ∧ n1 < 2 ^ 31)
    (hs : (Z.2.1 s' = Z.2.1 s ∧ Z.2.2.1 s' = Z.2.2.1 s) ∧ (∀ b, b ≠ a1 → Z.1 s' b = Z.1 s b) ∧ Z.1 s' a1 = .inl (2, n1, .inr (.inl (va_cpy f g i j n))))
    (k : Rn Z M (nx, l, st, s') r sE) : Rn Z M (pc, l, .int z :: .int y :: .ref a1 :: .int x :: .ref a0 :: st, s) r sE := by
  subst hx; subst hy; subst hz
  obtain ⟨k1, k2⟩ := k
  dsimp only at k1 k2
  rw [hs.1.1, hs.1.2] at k1 k2
  refine ⟨k1, ?_⟩
  intro p l0 e R s0 m args below meth c H locs ls A dC dI dA ad ad0 nn k0 n0' hC hR hH hlv ha hk
  dsimp only at hH hlv ha hk ⊢
  obtain ⟨hd, hnx, -⟩ := zD hC hfe
  unfold zcm at hcr
  rw [Bool.and_eq_true] at hcr
  obtain ⟨hP, hK, hD, hS, hA, had⟩ := hH
  subst hnx
  have nn0 : ∀ q : Nat, q < 2 ^ 31 → ¬ nI q < 0 := fun q hq => fun z => absurd ((zq_lt (a := q) (b := 0) rfl rfl hq (by omega)).mp z) (by omega)
  have ci : (nI i).toNatClampNeg = i := nI_clamp (by omega)
  have cj : (nI j).toNatClampNeg = j := nI_clamp (by omega)
  have cn : (nI n).toNatClampNeg = n := nI_clamp (by omega)
  have e0 : (zws Z dA ad s)[a0]? = some (ad a0, .inl (dA 2, n0, .inr (.inl f))) := by rw [zws_at ha0, hc0]; rfl
  have e1 : (zws Z dA ad s)[a1]? = some (ad a1, .inl (dA 2, n1, .inr (.inl g))) := by rw [zws_at ha1, hc1]; rfl
  have hws : zws Z dA ad s' = (zws Z dA ad s).set a1 (ad a1, .inl (dA 2, n1, .inr (.inl (va_cpy f g i j n)))) := by
    rw [zws_set hs.1.1 hs.2.1, hs.2.2]; rfl
  refine va_copyl hC.1 hC.2.1 (hC.2.2.1.trans hlv.2.1.symm) hC.2.2.2.2.2.1 (hC.2.2.2.2.1 _ hlk) (hC.2.2.2.2.1 _ nat_ac) (hC.2.2.2.2.1 _ sta_ac) (hC.2.2.2.2.1 _ ini_ac) hK hP hD hS a0 a1 2 2 e0 e1 rfl rfl rfl (nn0 i (by omega)) (nn0 j (by omega)) (nn0 n (by omega)) (by rw [ci, cn]; exact h0) (by rw [cj, cn]; exact h1) (fun _ _ => rfl) (Nat.le_trans (Nat.le_of_ble_eq_true hcr.1) hR.1) (Nat.le_trans (by rw [zcat_sum]; have := Nat.le_of_ble_eq_true hcr.2; have := nfw_ac; omega) hR.2.1) hd ?_
  intro H1 locs1 hP1 hD1 hS1
  rw [ci, cj, cn] at hP1 hD1
  exact k2 p l0 e R s0 m args below meth c H1 locs1 ls A dC dI dA ad ad0 nn k0 n0' hC hR ⟨by rw [hws]; exact hP1, hK, by rw [hws]; exact hD1, hS1, hA, by rw [hs.1.1]; exact had⟩ hlv ha hk
theorem RQ_copyL {idx a0 a1 n0 n1 i j n : Nat} {x y z : Int32} {f g : Nat → Int64} (hfe : zfe M pc = some (.invokestatic idx, 3, nx, tg, v)) (hlk : Cond.methodLink M.2.1.cls idx arraycopyName ∈ zT) (hcr : zcm M 40 st = true)
    (hx : x = nI i) (hy : y = nI j) (hz : z = nI n) (hc0 : Z.1 s a0 = .inl (2, n0, .inr (.inl f))) (hc1 : Z.1 s a1 = .inl (2, n1, .inr (.inl g))) (ha0 : a0 < Z.2.1 s) (ha1 : a1 < Z.2.1 s) (h0 : i + n ≤ n0) (h1 : j + n ≤ n1) (hb : n0 < 2 ^ 31 ∧ n1 < 2 ^ 31)
    (hs : (Z.2.1 s' = Z.2.1 s ∧ Z.2.2.1 s' = Z.2.2.1 s) ∧ (∀ b, b ≠ a1 → Z.1 s' b = Z.1 s b) ∧ Z.1 s' a1 = .inl (2, n1, .inr (.inl (va_cpy f g i j n))))
    (k : RnQ Z M (nx, l, st, s') Q) : RnQ Z M (pc, l, .int z :: .int y :: .ref a1 :: .int x :: .ref a0 :: st, s) Q := by
  obtain ⟨r, s1, hq, hr⟩ := k
  exact ⟨r, s1, hq, Rn_copyL hfe hlk hcr hx hy hz hc0 hc1 ha0 ha1 h0 h1 hb hs hr⟩
end ZCpL
theorem updl_at {f : Nat → Int64} {k : Nat} {x : Int64} : vp_updL f k x k = x := by unfold vp_updL; rw [if_pos rfl]
theorem updl_ne {f : Nat → Int64} {k j : Nat} {x : Int64} (h : j ≠ k) : vp_updL f k x j = f j := by unfold vp_updL; rw [if_neg h]
/-- another row of longs -/
def setL (f : Nat → Nat → Int64) (a : Nat) (t : Nat → Int64) : Nat → Nat → Int64 := fun b => bif Nat.beq b a then t else f b
theorem setL_ne {f : Nat → Nat → Int64} {a b : Nat} {t : Nat → Int64} (h : b ≠ a) : setL f a t b = f b := by
  unfold setL
  cases hb : Nat.beq b a with
  | true => exact absurd (Nat.eq_of_beq_eq_true hb) h
  | false => rfl
theorem setL_at {f : Nat → Nat → Int64} {a : Nat} {t : Nat → Int64} : setL f a t a = t := by unfold setL; rw [Nat.beq_refl]; rfl
/-- only a row of longs is another one -/
def frLo (b : Nat) (u v : SX) : Prop := v.1 = u.1 ∧ v.2.1 = u.2.1 ∧ (∀ x, x ≠ b → v.2.2.1 x = u.2.2.1 x) ∧ v.2.2.2 = u.2.2.2
theorem frLo.rf {b : Nat} {u : SX} : frLo b u u := ⟨rfl, rfl, fun _ _ => rfl, rfl⟩
theorem frLo.tr {b : Nat} {u v w : SX} (h1 : frLo b u v) (h2 : frLo b v w) : frLo b u w := ⟨h2.1.trans h1.1, h2.2.1.trans h1.2.1, fun x hx => (h2.2.2.1 x hx).trans (h1.2.2.1 x hx), h2.2.2.2.trans h1.2.2.2⟩
theorem y_fillL21 {P : YP} (u : SX) (x : Int64) : EvQ (ZY P) mJ7_fill_d0a16 [.ref 21, .long x] u (fun r v => r = none ∧ (∀ j, j < 9 → v.2.2.1 21 j = x) ∧ frLo 21 u v) := by
  refine EQ_T vJ7_fill_d0a16 rfl ?_
  refine RQ_n (ZY_ok P) 5 rfl trivial ?_
  refine loopU (M := mJ7_fill_d0a16) (pc := 6) 9 (fun i (_ : Unit) => [some (.ref 21), some (.long x), none, some (.int (nI i)), some (.int (nI 9))]) (fun i _ v => (∀ j, j < i → v.2.2.1 21 j = x) ∧ frLo 21 u v) ?_ 0 () u (by omega) ⟨fun j hj => absurd hj (Nat.not_lt_zero _), frLo.rf⟩
  intro i _ v hi hJ ih
  obtain ⟨j1, j2⟩ := hJ
  refine RQ_n (ZY_ok P) 2 rfl trivial ?_
  refine RQ_b rfl (fun q => ?_) (fun q => ?_)
  · have q := (zq_le (a := 9) (b := i) rfl rfl (by omega) (by omega)).mp q
    have : i = 9 := by omega
    subst this
    exact RQ_to (Rn_vret rfl rfl) ⟨rfl, j1, j2⟩
  have q := (not_congr (zq_le (a := 9) (b := i) rfl rfl (by omega) (by omega))).mp q
  refine RQ_n (ZY_ok P) 6 rfl ⟨nI_in (by omega) (by omega), trivial⟩ ?_
  rw [nI_clamp (by omega)]
  refine ih (by omega) () _ _ ⟨rfl, rfl, nIs i, rfl, trivial⟩ ⟨fun j hj => ?_, j2.tr ⟨rfl, rfl, fun b hb => updL_ne hb, rfl⟩⟩
  by_cases e : j = i
  · rw [e]; exact updl_at
  · exact (updl_ne (f := v.2.2.1 21) e).trans (j1 j (by omega))
theorem y_fillL22 {P : YP} (u : SX) (x : Int64) : EvQ (ZY P) mJ7_fill_d0a16 [.ref 22, .long x] u (fun r v => r = none ∧ (∀ j, j < 9 → v.2.2.1 22 j = x) ∧ frLo 22 u v) := by
  refine EQ_T vJ7_fill_d0a16 rfl ?_
  refine RQ_n (ZY_ok P) 5 rfl trivial ?_
  refine loopU (M := mJ7_fill_d0a16) (pc := 6) 9 (fun i (_ : Unit) => [some (.ref 22), some (.long x), none, some (.int (nI i)), some (.int (nI 9))]) (fun i _ v => (∀ j, j < i → v.2.2.1 22 j = x) ∧ frLo 22 u v) ?_ 0 () u (by omega) ⟨fun j hj => absurd hj (Nat.not_lt_zero _), frLo.rf⟩
  intro i _ v hi hJ ih
  obtain ⟨j1, j2⟩ := hJ
  refine RQ_n (ZY_ok P) 2 rfl trivial ?_
  refine RQ_b rfl (fun q => ?_) (fun q => ?_)
  · have q := (zq_le (a := 9) (b := i) rfl rfl (by omega) (by omega)).mp q
    have : i = 9 := by omega
    subst this
    exact RQ_to (Rn_vret rfl rfl) ⟨rfl, j1, j2⟩
  have q := (not_congr (zq_le (a := 9) (b := i) rfl rfl (by omega) (by omega))).mp q
  refine RQ_n (ZY_ok P) 6 rfl ⟨nI_in (by omega) (by omega), trivial⟩ ?_
  rw [nI_clamp (by omega)]
  refine ih (by omega) () _ _ ⟨rfl, rfl, nIs i, rfl, trivial⟩ ⟨fun j hj => ?_, j2.tr ⟨rfl, rfl, fun b hb => updL_ne hb, rfl⟩⟩
  by_cases e : j = i
  · rw [e]; exact updl_at
  · exact (updl_ne (f := v.2.2.1 22) e).trans (j1 j (by omega))
