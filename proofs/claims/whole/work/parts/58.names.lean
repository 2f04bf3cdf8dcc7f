/-! Names and signs by numbers. -/
theorem sh1 (l : Nat) (hl : l < 32) (i : Nat) : bt ((1 : Int32) <<< (nI l &&& 31)) i = decide (i = l) := by
  by_cases hi : i < 32
  · rw [b_shl l hl 1 hi]
    by_cases z : i = l
    · subst z
      rw [Nat.sub_self, decide_eq_true (Nat.le_refl _), decide_eq_true rfl]
      decide +kernel
    · rw [decide_eq_false z]
      by_cases w : l ≤ i
      · rw [decide_eq_true w, Bool.true_and, show (1 : Int32) = nI 1 from rfl, nI_bt 1 _ (by omega)]
        rw [Nat.testBit_eq_decide_div_mod_eq]
        apply decide_eq_false
        have : 1 / 2 ^ (i - l) = 0 := Nat.div_eq_of_lt (by
          have h2 : 2 ^ 1 ≤ 2 ^ (i - l) := Nat.pow_le_pow_right (by decide) (by omega)
          omega)
        rw [this]
        decide
      · rw [decide_eq_false w, Bool.false_and]
  · rw [b_big (by omega), decide_eq_false (by omega)]
theorem isNm_ix {x : Int32} (h : isNm x = true) : ∃ i, i < 26 ∧ x = nI (65 + i) ∧ ∀ j, bt (nB x) j = decide (j = i) := by
  unfold isNm at h
  rw [Bool.and_eq_true, decide_eq_true_eq, decide_eq_true_eq, Int32.le_iff_toInt_le, Int32.le_iff_toInt_le] at h
  have h1 : (65 : Int) ≤ x.toInt := h.1
  have h2 : x.toInt ≤ 90 := h.2
  have hx : x = nI (65 + (x.toInt - 65).toNat) := by
    apply Int32.toInt_inj.mp
    rw [nI_toInt (by omega)]
    omega
  have hi : (x.toInt - 65).toNat < 26 := by omega
  generalize (x.toInt - 65).toNat = i at hx hi
  refine ⟨i, hi, hx, fun j => ?_⟩
  unfold nB
  rw [hx, show (65 : Int32) = nI 65 from rfl, nI_sub (by omega), show 65 + i - 65 = i by omega]
  exact sh1 i (by omega) j
theorem isSg_ix {x : Int32} (h : isSg x = true) : ∃ i, i < 26 ∧ x = nI (97 + i) ∧ ∀ j, bt (sB x) j = decide (j = i) := by
  unfold isSg at h
  rw [Bool.and_eq_true, decide_eq_true_eq, decide_eq_true_eq, Int32.le_iff_toInt_le, Int32.le_iff_toInt_le] at h
  have h1 : (97 : Int) ≤ x.toInt := h.1
  have h2 : x.toInt ≤ 122 := h.2
  have hx : x = nI (97 + (x.toInt - 97).toNat) := by
    apply Int32.toInt_inj.mp
    rw [nI_toInt (by omega)]
    omega
  have hi : (x.toInt - 97).toNat < 26 := by omega
  generalize (x.toInt - 97).toNat = i at hx hi
  refine ⟨i, hi, hx, fun j => ?_⟩
  unfold sB
  rw [hx, show (97 : Int32) = nI 97 from rfl, nI_sub (by omega), show 97 + i - 97 = i by omega]
  exact sh1 i (by omega) j
/-- the first place below c where x lies -/
def fnd (B : Nat → Int32) (x : Int32) : Nat → Option Nat
  | 0 => none
  | c + 1 => match fnd B x c with
    | some k => some k
    | none => if B c = x then some c else none
theorem fnd_s (B : Nat → Int32) (x : Int32) (c : Nat) : (∀ k, fnd B x c = some k → fnd B x (c + 1) = some k) ∧ (fnd B x c = none → fnd B x (c + 1) = if B c = x then some c else none) := by
  refine ⟨fun k h => ?_, fun h => ?_⟩
  · rw [fnd, h]
  · rw [fnd, h]
theorem fnd_lt {B : Nat → Int32} {x : Int32} : ∀ {c k : Nat}, fnd B x c = some k → k < c ∧ B k = x
  | 0, k, h => by cases h
  | c + 1, k, h => by
    cases hc : fnd B x c with
    | some j =>
      rw [(fnd_s B x c).1 j hc] at h
      cases h
      have := fnd_lt hc
      exact ⟨by omega, this.2⟩
    | none =>
      rw [(fnd_s B x c).2 hc] at h
      by_cases z : B c = x
      · rw [if_pos z] at h
        cases h
        exact ⟨by omega, z⟩
      · rw [if_neg z] at h
        cases h
theorem fnd_no {B : Nat → Int32} {x : Int32} : ∀ {c : Nat}, fnd B x c = none → ∀ k, k < c → B k ≠ x
  | 0, _, k, hk => absurd hk (Nat.not_lt_zero _)
  | c + 1, h, k, hk => by
    cases hc : fnd B x c with
    | some j => rw [(fnd_s B x c).1 j hc] at h; cases h
    | none =>
      rw [(fnd_s B x c).2 hc] at h
      by_cases z : B c = x
      · rw [if_pos z] at h; cases h
      · by_cases w : k = c
        · rw [w]; exact z
        · exact fnd_no hc k (by omega)
theorem fnd_some {B : Nat → Int32} {x : Int32} {c k : Nat} (hk : k < c) (h : B k = x) : ∃ j, fnd B x c = some j := by
  cases hc : fnd B x c with
  | some j => exact ⟨j, rfl⟩
  | none => exact absurd h (fnd_no hc k hk)
theorem fnd_up {B : Nat → Int32} {x : Int32} {c k : Nat} (h : fnd B x c = some k) : ∀ d, fnd B x (c + d) = some k
  | 0 => h
  | d + 1 => (fnd_s B x (c + d)).1 k (fnd_up h d)
theorem fnd_cong {B B' : Nat → Int32} {x : Int32} : ∀ {c : Nat}, (∀ k, k < c → B k = B' k) → fnd B x c = fnd B' x c
  | 0, _ => rfl
  | c + 1, h => by
    have ih := fnd_cong (B := B) (B' := B') (x := x) (c := c) (fun k hk => h k (by omega))
    rw [fnd, fnd, ih, h c (by omega)]
/-- names so far: how many, their bytes -/
abbrev NBt : Type := Nat × (Nat → Int32)
def nmS (x : Int32) (q : NBt) : NBt := match fnd q.2 x q.1 with
  | some _ => q
  | none => (q.1 + 1, fun k => if k = q.1 then x else q.2 k)
def nms (L : Nat → Int32) : Nat → NBt
  | 0 => (0, fun _ => 0)
  | r + 1 => nmS (L r) (nms L r)
theorem nmS_some {x : Int32} {q : NBt} {k : Nat} (h : fnd q.2 x q.1 = some k) : nmS x q = q := by unfold nmS; rw [h]
theorem nmS_none {x : Int32} {q : NBt} (h : fnd q.2 x q.1 = none) : nmS x q = (q.1 + 1, fun k => if k = q.1 then x else q.2 k) := by unfold nmS; rw [h]
theorem nms_cong {L L' : Nat → Int32} : ∀ {r : Nat}, (∀ k, k < r → L k = L' k) → nms L r = nms L' r
  | 0, _ => rfl
  | r + 1, h => by rw [nms, nms, nms_cong (fun k hk => h k (by omega)), h r (by omega)]
/-- every left byte has its number -/
theorem nms_has {L : Nat → Int32} : ∀ {r k : Nat}, k < r → ∃ j, fnd (nms L r).2 (L k) (nms L r).1 = some j
  | 0, k, h => absurd h (Nat.not_lt_zero _)
  | r + 1, k, h => by
    cases hc : fnd (nms L r).2 (L r) (nms L r).1 with
    | some j =>
      rw [nms, nmS_some hc]
      by_cases z : k = r
      · subst z; exact ⟨j, hc⟩
      · exact nms_has (by omega)
    | none =>
      rw [nms, nmS_none hc]
      by_cases z : k = r
      · subst z
        exact fnd_some (k := (nms L k).1) (by dsimp only; omega) (by dsimp only; rw [if_pos rfl])
      · obtain ⟨j, hj⟩ := nms_has (L := L) (r := r) (k := k) (by omega)
        have h1 := fnd_lt hj
        refine fnd_some (k := j) (by dsimp only; omega) ?_
        dsimp only
        rw [if_neg (by omega)]
        exact h1.2
/-- every numbered byte is a left one -/
theorem nms_from {L : Nat → Int32} : ∀ {r j : Nat}, j < (nms L r).1 → ∃ k, k < r ∧ (nms L r).2 j = L k
  | 0, j, h => absurd h (Nat.not_lt_zero _)
  | r + 1, j, h => by
    cases hc : fnd (nms L r).2 (L r) (nms L r).1 with
    | some i =>
      rw [nms, nmS_some hc] at h ⊢
      obtain ⟨k, h1, h2⟩ := nms_from h
      exact ⟨k, by omega, h2⟩
    | none =>
      rw [nms, nmS_none hc] at h ⊢
      dsimp only at h ⊢
      by_cases z : j = (nms L r).1
      · exact ⟨r, by omega, by rw [if_pos z]⟩
      · rw [if_neg z]
        obtain ⟨k, h1, h2⟩ := nms_from (L := L) (r := r) (j := j) (by omega)
        exact ⟨k, by omega, h2⟩
theorem nms_le {L : Nat → Int32} : ∀ r, (nms L r).1 ≤ r
  | 0 => Nat.le_refl _
  | r + 1 => by
    have := nms_le (L := L) r
    cases hc : fnd (nms L r).2 (L r) (nms L r).1 with
    | some i => rw [nms, nmS_some hc]; omega
    | none => rw [nms, nmS_none hc]; dsimp only; omega
theorem nms_mono {L : Nat → Int32} : ∀ r d, (nms L r).1 ≤ (nms L (r + d)).1
  | r, 0 => Nat.le_refl _
  | r, d + 1 => by
    have := nms_mono (L := L) r d
    show (nms L r).1 ≤ (nmS (L (r + d)) (nms L (r + d))).1
    cases hc : fnd (nms L (r + d)).2 (L (r + d)) (nms L (r + d)).1 with
    | some i => rw [nmS_some hc]; exact this
    | none => rw [nmS_none hc]; dsimp only; omega
/-- no more names than bits -/
theorem nms_bits {L : Nat → Int32} {w : Int32} : ∀ {r : Nat}, (∀ k, k < r → isNm (L k) = true ∧ ∀ i, bt (nB (L k)) i = true → bt w i = true) → (nms L r).1 ≤ ctI w 32 := by
  -- the bits of the numbered bytes
  have key : ∀ r, (∀ k, k < r → isNm (L k) = true) → ∃ y : Int32, ctI y 32 = (nms L r).1 ∧ (∀ i, bt y i = true → ∃ k, k < r ∧ bt (nB (L k)) i = true) ∧ ∀ j, j < (nms L r).1 → ∀ i, bt (nB ((nms L r).2 j)) i = true → bt y i = true := by
    intro r
    induction r with
    | zero =>
      intro _
      refine ⟨0, (by show ctI 0 32 = 0; decide +kernel), fun i h => ?_, fun j hj => absurd hj (Nat.not_lt_zero _)⟩
      rw [b_0] at h; cases h
    | succ r ih =>
      intro hN
      obtain ⟨y, h1, h2, h3⟩ := ih (fun k hk => hN k (by omega))
      cases hc : fnd (nms L r).2 (L r) (nms L r).1 with
      | some i =>
        rw [nms, nmS_some hc]
        refine ⟨y, h1, fun i hi => ?_, h3⟩
        obtain ⟨k, a, b⟩ := h2 i hi
        exact ⟨k, by omega, b⟩
      | none =>
        rw [nms, nmS_none hc]
        obtain ⟨i0, hi0, hx0, hb0⟩ := isNm_ix (hN r (by omega))
        have hnew : bt y i0 = false := by
          cases hy : bt y i0 with
          | false => rfl
          | true =>
            obtain ⟨k, hk, hbk⟩ := h2 i0 hy
            obtain ⟨i1, hi1, hx1, hb1⟩ := isNm_ix (hN k (by omega))
            rw [hb1] at hbk
            have e : i0 = i1 := of_decide_eq_true hbk
            have e2 : L k = L r := by rw [hx0, hx1, e]
            obtain ⟨j, hj⟩ := nms_has (L := L) (r := r) (k := k) hk
            rw [e2, hc] at hj
            cases hj
        have hy : ∀ i, bt (y ||| nB (L r)) i = (bt y i || decide (i = i0)) := fun i => by rw [b_or, hb0]
        refine ⟨y ||| nB (L r), ?_, fun i hi => ?_, fun j hj i hi => ?_⟩
        · dsimp only
          rw [ctI_new hnew hy 32, h1, if_pos (by omega)]
        · rw [hy, Bool.or_eq_true] at hi
          rcases hi with hi | hi
          · obtain ⟨k, a, b⟩ := h2 i hi
            exact ⟨k, by omega, b⟩
          · exact ⟨r, by omega, by rw [hb0]; exact hi⟩
        · dsimp only at hj hi
          rw [b_or]
          by_cases z : j = (nms L r).1
          · rw [if_pos z] at hi
            rw [hi, Bool.or_true]
          · rw [if_neg z] at hi
            rw [h3 j (by omega) i hi, Bool.true_or]
  intro r h
  obtain ⟨y, h1, h2, -⟩ := key r (fun k hk => (h k hk).1)
  rw [← h1]
  refine ctI_sub (fun i _ hi => ?_)
  obtain ⟨k, hk, hb⟩ := h2 i hi
  exact (h k hk).2 i hb
/-- signs by a set of bits: how many, their letters -/
def sgs (w : Int32) : Nat → Nat × (Nat → Nat)
  | 0 => (0, fun _ => 0)
  | i + 1 => if bt w i = true then ((sgs w i).1 + 1, fun k => if k = (sgs w i).1 then i else (sgs w i).2 k) else sgs w i
theorem sgs_ct (w : Int32) : ∀ i, (sgs w i).1 = ctI w i
  | 0 => rfl
  | i + 1 => by
    rw [sgs]
    show _ = ctI w i + (if bt w i = true then 1 else 0)
    by_cases z : bt w i = true
    · rw [if_pos z, if_pos z]; dsimp only; rw [sgs_ct w i]
    · rw [if_neg z, if_neg z, sgs_ct w i]; rfl
theorem sgs_in (w : Int32) : ∀ i k, k < (sgs w i).1 → (sgs w i).2 k < i ∧ bt w ((sgs w i).2 k) = true ∧ (sgs w ((sgs w i).2 k)).1 = k
  | 0, k, h => absurd h (Nat.not_lt_zero _)
  | i + 1, k, h => by
    rw [sgs] at h ⊢
    by_cases z : bt w i = true
    · rw [if_pos z] at h ⊢
      dsimp only at h ⊢
      by_cases y : k = (sgs w i).1
      · rw [if_pos y]
        exact ⟨by omega, z, y.symm⟩
      · rw [if_neg y]
        have := sgs_in w i k (by omega)
        exact ⟨by omega, this.2⟩
    · rw [if_neg z] at h ⊢
      have := sgs_in w i k h
      exact ⟨by omega, this.2⟩
theorem sgs_at (w : Int32) {i : Nat} (hb : bt w i = true) : ∀ d, (sgs w i).1 < (sgs w (i + 1 + d)).1 ∧ (sgs w (i + 1 + d)).2 (sgs w i).1 = i
  | 0 => by
    rw [Nat.add_zero, sgs, if_pos hb]
    dsimp only
    rw [if_pos rfl]
    exact ⟨by omega, rfl⟩
  | d + 1 => by
    have ih := sgs_at w hb d
    show (sgs w i).1 < (sgs w (i + 1 + d + 1)).1 ∧ (sgs w (i + 1 + d + 1)).2 (sgs w i).1 = i
    rw [sgs]
    by_cases z : bt w (i + 1 + d) = true
    · rw [if_pos z]
      dsimp only
      rw [if_neg (by omega)]
      exact ⟨by omega, ih.2⟩
    · rw [if_neg z]
      exact ih
