/-! The class: add, a slot more. -/
theorem YR_S {P : YP} {s : SX} (h : YR P s) : YS P s := by
  intro k hk
  exact YR_c (by omega) (fun i c q => by have := h.1.1 i c q; omega) (fun i c q => by have := h.1.2 i c q; omega) (h.2.1 k) (h.2.2 k) (fun h1 h2 => by omega)
theorem YR.fr {P : YP} {s s' : SX} (h : YR P s) (e : s'.2.2 = s.2.2) : YR P s' := by
  unfold YR at h ⊢
  rw [e]
  exact h
/-- the rows of kernels: row a is filled below h a, no cell twice -/
def KRw (h : Nat → Nat) (s : SX) : Prop := (∀ a i, (i < h a → ∃ c, s.2.2.2.2.2 a i = some c ∧ 99 ≤ c ∧ isKc c s.2.2.2.2.1) ∧ (h a ≤ i → s.2.2.2.2.2 a i = none)) ∧ (∀ a b i j c, s.2.2.2.2.2 a i = some c → s.2.2.2.2.2 b j = some c → a = b ∧ i = j) ∧ s.2.2.2.2.1 = h 37 + h 54 + h 71
theorem KRw.fr {h : Nat → Nat} {s s' : SX} (hk : KRw h s) (e : s'.2.2 = s.2.2) : KRw h s' := by
  unfold KRw at hk ⊢
  rw [e]
  exact hk
theorem KRw.lt {h : Nat → Nat} {s : SX} (hk : KRw h s) {a i c : Nat} (e : s.2.2.2.2.2 a i = some c) : i < h a ∧ 99 ≤ c ∧ isKc c s.2.2.2.2.1 := by
  rcases Nat.lt_or_ge i (h a) with z | z
  · obtain ⟨c', h1, h2, h3⟩ := (hk.1 a i).1 z
    rw [h1] at e
    have := Option.some.inj e
    subst this
    exact ⟨z, h2, h3⟩
  · rw [(hk.1 a i).2 z] at e; cases e
/-- what may be another when a kernel is made or written in the cell c, slot m -/
def frKc (c m : Nat) (u v : SX) : Prop := (∀ b j, ¬ (b = c ∧ j = 0) → v.1 b j = u.1 b j) ∧ (∀ b, b ≠ c + 1 → b ≠ c + 2 → v.2.1 b = u.2.1 b) ∧ v.2.2.1 = u.2.2.1 ∧ v.2.2.2.1 = u.2.2.2.1 ∧ (∀ b i, ¬ (b = 37 ∧ i = m) → v.2.2.2.2.2 b i = u.2.2.2.2.2 b i) ∧ u.2.2.2.2.1 ≤ v.2.2.2.2.1
theorem y_kernelAny {P : YP} {u : SX} {m : Nat} {h : Nat → Nat} (hY : YR P u) (hR : KRw h u) (hm : m < 200) (hmh : m ≤ h 37) : EvQ (ZY P) mX1_kernelIn [.ref 36, .int (nI m)] u (fun x v => ∃ c : Nat, x = some (.ref c) ∧ v.2.2.2.2.2 37 m = some c ∧ (99 ≤ c ∧ isKc c v.2.2.2.2.1) ∧ frKc c m u v ∧ YR P v ∧ ∃ h', KRw h' v ∧ m + 1 ≤ h' 37 ∧ (h' 37 = h 37 ∨ h' 37 = m + 1) ∧ ∀ a, a ≠ 37 → h' a = h a) := by
  cases e : u.2.2.2.2.2 37 m with
  | some c =>
    obtain ⟨h1, h2, h3⟩ := hR.lt e
    exact EQ_of (y_kernelIn hm e) ⟨c, rfl, e, ⟨h2, h3⟩, ⟨fun _ _ _ => rfl, fun _ _ _ => rfl, rfl, rfl, fun _ _ _ => rfl, Nat.le_refl _⟩, hY, h, hR, h1, Or.inl rfl, fun _ _ => rfl⟩
  | none =>
    have hm37 : m = h 37 := by
      rcases Nat.lt_or_ge m (h 37) with z | z
      · obtain ⟨c', h1, -⟩ := (hR.1 37 m).1 z
        rw [h1] at e; cases e
      · omega
    refine EQ_of (y_kernelNew (YR_S hY) hm e) ⟨3 * u.2.2.2.2.1 + 99, rfl, ?_, ⟨Nat.le_add_left _ _, ?_⟩, ⟨?_, ?_, rfl, rfl, ?_, ?_⟩, ⟨hY.1, ?_, ?_⟩, fun a => if a = 37 then m + 1 else h a, ⟨?_, ?_, ?_⟩, ?_, Or.inr rfl, fun a ha => if_neg ha⟩
    · simp [ynew, va_up]
    · exact Or.inr (Or.inr ⟨by omega, by omega, by show _ < 3 * (u.2.2.2.2.1 + 1) + 99; omega⟩)
    · intro b j hbj
      show updI u.1 (3 * u.2.2.2.2.1 + 99) 0 0 b j = u.1 b j
      by_cases z : b = 3 * u.2.2.2.2.1 + 99
      · subst z
        rw [updI_eq]
        unfold updS
        cases hj : Nat.beq j 0 with
        | true => exact absurd ⟨rfl, Nat.eq_of_beq_eq_true hj⟩ hbj
        | false => rfl
      · rw [updI_ne z]
    · intro b h1 h2
      show (if b = 3 * u.2.2.2.2.1 + 100 then fun _ => 0 else if b = 3 * u.2.2.2.2.1 + 101 then fun _ => 0 else u.2.1 b) = _
      rw [if_neg (by omega), if_neg (by omega)]
    · intro b i hbi
      show (if b = 37 then va_up (u.2.2.2.2.2 37) m (some (3 * u.2.2.2.2.1 + 99)) else u.2.2.2.2.2 b) i = _
      by_cases z : b = 37
      · rw [if_pos z, z]
        exact if_neg (fun y => hbi ⟨z, y⟩)
      · rw [if_neg z]
    · exact Nat.le_succ _
    · intro b j
      exact zsv_up (hY.2.1 b j) (by show _ ≤ 3 * (u.2.2.2.2.1 + 1) + 99; omega)
    · intro b i k hk
      show k < 3 * (u.2.2.2.2.1 + 1) + 99
      have hk : (if b = 37 then va_up (u.2.2.2.2.2 37) m (some (3 * u.2.2.2.2.1 + 99)) else u.2.2.2.2.2 b) i = some k := hk
      by_cases z : b = 37
      · rw [if_pos z] at hk
        have hk : (if i = m then some (3 * u.2.2.2.2.1 + 99) else u.2.2.2.2.2 37 i) = some k := hk
        by_cases y : i = m
        · rw [if_pos y] at hk; have := Option.some.inj hk; omega
        · rw [if_neg y] at hk; have := hY.2.2 37 i k hk; omega
      · rw [if_neg z] at hk; have := hY.2.2 b i k hk; omega
    · intro a i
      have hup : ∀ c, isKc c u.2.2.2.2.1 → isKc c (u.2.2.2.2.1 + 1) := fun c hc => by
        rcases hc with z | z | ⟨z1, z2, z3⟩
        · exact Or.inl z
        · exact Or.inr (Or.inl z)
        · exact Or.inr (Or.inr ⟨z1, z2, by omega⟩)
      show (i < (if a = 37 then m + 1 else h a) → ∃ c, (if a = 37 then va_up (u.2.2.2.2.2 37) m (some (3 * u.2.2.2.2.1 + 99)) else u.2.2.2.2.2 a) i = some c ∧ 99 ≤ c ∧ isKc c (u.2.2.2.2.1 + 1)) ∧ ((if a = 37 then m + 1 else h a) ≤ i → (if a = 37 then va_up (u.2.2.2.2.2 37) m (some (3 * u.2.2.2.2.1 + 99)) else u.2.2.2.2.2 a) i = none)
      by_cases z : a = 37
      · rw [if_pos z, if_pos z]
        show (i < m + 1 → ∃ c, (if i = m then some (3 * u.2.2.2.2.1 + 99) else u.2.2.2.2.2 37 i) = some c ∧ _) ∧ (m + 1 ≤ i → (if i = m then some (3 * u.2.2.2.2.1 + 99) else u.2.2.2.2.2 37 i) = none)
        by_cases y : i = m
        · rw [if_pos y]
          exact ⟨fun _ => ⟨_, rfl, by omega, Or.inr (Or.inr ⟨by omega, by omega, by omega⟩)⟩, fun w => by omega⟩
        · rw [if_neg y]
          refine ⟨fun w => ?_, fun w => (hR.1 37 i).2 (by omega)⟩
          obtain ⟨c, c1, c2, c3⟩ := (hR.1 37 i).1 (by omega)
          exact ⟨c, c1, c2, hup c c3⟩
      · rw [if_neg z, if_neg z]
        refine ⟨fun w => ?_, (hR.1 a i).2⟩
        obtain ⟨c, c1, c2, c3⟩ := (hR.1 a i).1 w
        exact ⟨c, c1, c2, hup c c3⟩
    · have key : ∀ a i c, (ynew u m).2.2.2.2.2 a i = some c → (a = 37 ∧ i = m ∧ c = 3 * u.2.2.2.2.1 + 99) ∨ (u.2.2.2.2.2 a i = some c ∧ c < 3 * u.2.2.2.2.1 + 99) := by
        intro a i c hc
        have hc : (if a = 37 then va_up (u.2.2.2.2.2 37) m (some (3 * u.2.2.2.2.1 + 99)) else u.2.2.2.2.2 a) i = some c := hc
        by_cases z : a = 37
        · rw [if_pos z] at hc
          have hc : (if i = m then some (3 * u.2.2.2.2.1 + 99) else u.2.2.2.2.2 37 i) = some c := hc
          by_cases y : i = m
          · rw [if_pos y] at hc; exact Or.inl ⟨z, y, (Option.some.inj hc).symm⟩
          · rw [if_neg y] at hc; rw [z]; exact Or.inr ⟨hc, hY.2.2 37 i c hc⟩
        · rw [if_neg z] at hc; exact Or.inr ⟨hc, hY.2.2 a i c hc⟩
      intro a b i j c ha hb
      rcases key a i c ha with ⟨a1, a2, a3⟩ | ⟨a1, a2⟩ <;> rcases key b j c hb with ⟨b1, b2, b3⟩ | ⟨b1, b2⟩
      · exact ⟨by omega, by omega⟩
      · omega
      · omega
      · exact hR.2.1 a b i j c a1 b1
    · show u.2.2.2.2.1 + 1 = (if (37 : Nat) = 37 then m + 1 else h 37) + (if (54 : Nat) = 37 then m + 1 else h 54) + (if (71 : Nat) = 37 then m + 1 else h 71)
      rw [if_pos rfl, if_neg (by omega), if_neg (by omega), hR.2.2]
      omega
    · show m + 1 ≤ (if (37 : Nat) = 37 then m + 1 else h 37)
      rw [if_pos rfl]; exact Nat.le_refl _
section ZCallN
variable {S : Type} {Z : ZW S} {M M' : MD} {pc nx n tg : Nat} {v : Int32} {l : List (Option Value)} {st : List Value} {s : S} {Q Q1 : Option Value → S → Prop}
/-- a call that may make cells -/
theorem RQ_VN (hM : ZMV M' n) {idx b : Nat} {as stk : List Value} (ev : EvQ Z M' (.ref b :: as) s Q1) (hfe : zfe M pc = some (.invokevirtual idx, 3, nx, tg, v)) (hlk : Cond.methodLink M.2.1.cls idx M'.2.1 ∈ zT)
    (hst : stk = as.reverse ++ .ref b :: st) (hn : as.length = n) (hcr : zcr M M' st = true) (hrc : zrc Z M' s b = true) (hg : zsf (Z.2.1 s) l st = true)
    (k : ∀ r1 s1, Q1 r1 s1 → RnQ Z M (nx, l, r1.toList ++ st, s1) Q) : RnQ Z M (pc, l, stk, s) Q := by
  obtain ⟨r1, s1, hq1, hev⟩ := ev
  obtain ⟨r, s', hq, hr⟩ := k r1 s1 hq1
  exact ⟨r, s', hq, Rn_callV hfe hlk hM.2.2 hev hst hn hcr hrc (Or.inr hg) hr⟩
end ZCallN
