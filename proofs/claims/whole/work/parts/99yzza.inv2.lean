/-! The invariant: its parts, what leaves them. -/
section Tr3
variable {G : ZGT} {os : Nat → Option ZAS} {u v : SX}
theorem X3.rs (h : X3 G os u) : ∀ b j, zsv (3 * u.2.2.2.2.1 + 99) (u.2.2.2.1 b j) = true := by
  intro b j
  have h1 : zsv (3 * u.2.2.2.2.1 + 99) (ze (zsw 0) (u.2.2.2.1 (zsw 0 (zsw 0 b)) j)) = true := (h 0 (by omega)).1.1.2.1 (zsw 0 b) j
  have h2 := zsv_sw (d := 0) (by omega) h1
  rw [ze_sw, zsw_sw] at h2
  exact h2
/-- what a call that asks no kind leaves of the kinds -/
theorem X3.gen (h : X3 G os u) (hF : ZFX G v) (e0 : v.1 3 4 = u.1 3 4) (e1 : ∀ b j, 25 ≤ b → b ≠ 97 → v.1 b j = u.1 b j) (e2 : ∀ a, 25 ≤ a → a ≠ 98 → v.2.1 a = u.2.1 a) (e3 : ∀ b j, zsv (3 * u.2.2.2.2.1 + 99) (v.2.2.2.1 b j) = true) (e4 : v.2.2.2.2 = u.2.2.2.2) : X3 G os v := by
  intro d hd
  have h0 := h d hd
  have eq5 : (swX d v).2.2.2.2 = (swX d u).2.2.2.2 := by
    show (v.2.2.2.2.1, fun b i => (v.2.2.2.2.2 (zsw d b) i).map (zsw d)) = (u.2.2.2.2.1, fun b i => (u.2.2.2.2.2 (zsw d b) i).map (zsw d))
    rw [e4]
  have hi : ∀ b j, 25 ≤ b → b < 87 → (swX d v).1 b j = (swX d u).1 b j := by
    intro b j h1 h2
    show v.1 (zsw d b) j = u.1 (zsw d b) j
    have r : 25 ≤ zsw d b ∧ zsw d b < 87 := by
      by_cases c1 : 36 ≤ b ∧ b < 53
      · rw [zsw_a c1.1 c1.2]; omega
      · by_cases c2 : 36 + 17 * d ≤ b ∧ b < 53 + 17 * d
        · rw [zsw_b c2.1 c2.2]; omega
        · rw [zsw_c c1 c2]; omega
    exact e1 _ j r.1 (by omega)
  have ha : ∀ b, 25 ≤ b → b < 87 → (swX d v).2.1 b = (swX d u).2.1 b := by
    intro b h1 h2
    show v.2.1 (zsw d b) = u.2.1 (zsw d b)
    have r : 25 ≤ zsw d b ∧ zsw d b < 87 := by
      by_cases c1 : 36 ≤ b ∧ b < 53
      · rw [zsw_a c1.1 c1.2]; omega
      · by_cases c2 : 36 + 17 * d ≤ b ∧ b < 53 + 17 * d
        · rw [zsw_b c2.1 c2.2]; omega
        · rw [zsw_c c1 c2]; omega
    exact e2 _ r.1 (by omega)
  obtain ⟨⟨⟨y1, y2, y3⟩, ⟨k, k1, k2⟩, hq, q1, q2⟩, -, -, -⟩ := id h0
  have kv : KRw k (swX d v) := by
    unfold KRw at k1 ⊢
    rw [eq5]; exact k1
  have hn : (swX d v).2.2.2.2.1 = u.2.2.2.2.1 := by show v.2.2.2.2.1 = _; rw [e4]
  refine h0.oth ⟨⟨y1, fun b j => ?_, fun b i c => ?_⟩, ⟨k, kv, k2⟩, hq, q1, ?_⟩ (hF.sw hd) ?_ (fun b j h1 h2 => hi b j (by omega) (by omega)) (fun b h1 h2 => ha b (by omega) (by omega)) (fun i => by rw [eq5]) (fun i c hc => ?_) (by rw [eq5]; exact Nat.le_refl _)
  · rw [hn]
    exact zsv_sw hd (e3 (zsw d b) j)
  · rw [eq5]; exact y3 b i c
  · rw [hi 25 3 (by omega) (by omega)]; exact q2
  · show v.1 (zsw d 3) 4 = u.1 (zsw d 3) 4
    rw [zsw_99 hd (by omega)]; exact e0
  · have h99 := (k1.lt hc).2.1
    refine ⟨?_, ?_, ?_⟩
    · show v.1 (zsw d c) 0 = u.1 (zsw d c) 0
      rw [zsw_99 hd (by omega)]; exact e1 c 0 (by omega) (by omega)
    · show v.2.1 (zsw d (c + 1)) = u.2.1 (zsw d (c + 1))
      rw [zsw_99 hd (by omega)]; exact e2 _ (by omega) (by omega)
    · show v.2.1 (zsw d (c + 2)) = u.2.1 (zsw d (c + 2))
      rw [zsw_99 hd (by omega)]; exact e2 _ (by omega) (by omega)
/-- the sets of a grammar by the cells that hold them -/
theorem ZFX.cells (h : ZFX G u) (e1 : ∀ j, j < 4 → v.1 3 j = u.1 3 j) (e2 : ∀ j, 1 ≤ j → j < 4 → v.1 14 j = u.1 14 j) (e3 : ∀ a, (4 ≤ a ∧ a < 7) ∨ (15 ≤ a ∧ a < 19) → v.2.1 a = u.2.1 a) : ZFX G v := by
  unfold ZFX ZGX RSX SR at h ⊢
  rw [e1 0 (by omega), e1 1 (by omega), e1 2 (by omega), e1 3 (by omega), e2 1 (by omega) (by omega), e2 2 (by omega) (by omega), e2 3 (by omega) (by omega), e3 4 (by omega), e3 5 (by omega), e3 6 (by omega), e3 15 (by omega), e3 16 (by omega), e3 17 (by omega), e3 18 (by omega)]
  exact h
theorem X3.low {ks : List (Nat × Nat)} {as : List Nat} (h : X3 G os u) (f : frX ks as u v) (h1 : ∀ x ∈ ks, x.1 ∈ [1, 11, 23]) (h2 : ∀ a ∈ as, a ∈ [2, 12, 13, 24]) : X3 G os v := by
  have g1 : ∀ b j, b ∉ [1, 11, 23] → v.1 b j = u.1 b j := fun b j hb => f.1 b j (fun y => hb (h1 _ y))
  have g2 : ∀ a, a ∉ [2, 12, 13, 24] → v.2.1 a = u.2.1 a := fun a ha => f.2.1 a (fun y => ha (h2 _ y))
  refine h.gen (h.f.cells (fun j _ => g1 3 j (by decide)) (fun j _ _ => g1 14 j (by decide)) (fun a ha => g2 a (fun y => by simp only [List.mem_cons, List.not_mem_nil, or_false] at y; omega))) (g1 3 4 (by decide)) (fun b j hb _ => g1 b j (fun y => by simp only [List.mem_cons, List.not_mem_nil, or_false] at y; omega)) (fun a ha _ => g2 a (fun y => by simp only [List.mem_cons, List.not_mem_nil, or_false] at y; omega)) (fun b j => ?_) (by rw [f.2.2])
  rw [f.2.2]; exact h.rs b j
theorem X3.kp (h : X3 G os u) (f : frKp u v) : X3 G os v := by
  refine h.gen (h.f.cells (fun j _ => f.1 3 j (fun y => by simp only [List.mem_cons, List.not_mem_nil, or_false, Prod.mk.injEq] at y; omega)) (fun j _ _ => f.1 14 j (fun y => by simp only [List.mem_cons, List.not_mem_nil, or_false, Prod.mk.injEq] at y; omega)) (fun a ha => f.2.1 a (fun y => by simp only [List.mem_cons, List.not_mem_nil, or_false] at y; omega))) (f.1 3 4 (by decide)) (fun b j hb hn => f.1 b j (fun y => by simp only [List.mem_cons, List.not_mem_nil, or_false, Prod.mk.injEq] at y; omega)) (fun a ha hn => f.2.1 a (fun y => by simp only [List.mem_cons, List.not_mem_nil, or_false] at y; omega)) (fun b j => ?_) (by rw [f.2.2.2])
  rw [f.2.2.2]; exact h.rs b j
theorem X3.tz (h : X3 G os u) (f : frTz u v) (hW : WyX v) : X3 G os v := by
  refine h.gen (h.f.cells (fun j _ => f.1 3 j (by simp)) (fun j _ hj => f.1 14 j (by simp only [ne_eq, Prod.mk.injEq]; omega)) (fun a ha => f.2.1 a (by omega))) (f.1 3 4 (by decide)) (fun b j hb _ => f.1 b j (by simp only [ne_eq, Prod.mk.injEq]; omega)) (fun a ha _ => f.2.1 a (by omega)) (fun b j => ?_) f.2.2.2.2
  by_cases e : b = 14
  · subst e
    by_cases e1 : j = 11
    · subst e1
      rcases hW with ⟨w1, -⟩ | ⟨w1, -⟩
      · rw [w1]; exact zblt (show 21 < 3 * u.2.2.2.2.1 + 99 by omega)
      · rw [w1]; exact zblt (show 22 < 3 * u.2.2.2.2.1 + 99 by omega)
    · by_cases e2 : j = 12
      · subst e2
        rcases hW with ⟨-, w1⟩ | ⟨-, w1⟩
        · rw [w1]; exact zblt (show 22 < 3 * u.2.2.2.2.1 + 99 by omega)
        · rw [w1]; exact zblt (show 21 < 3 * u.2.2.2.2.1 + 99 by omega)
      · rw [f.2.2.2.1 14 j (by omega)]; exact h.rs 14 j
  · rw [f.2.2.2.1 b j (by omega)]; exact h.rs b j
end Tr3
