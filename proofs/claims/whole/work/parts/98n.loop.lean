/-! The class: build's loop. -/
/-- what build's loop may change -/
def frB (u v : SX) : Prop := (∀ b j, b < 99 → (b, j) ∉ [(36, 4), (36, 5), (25, 3), (25, 4), (28, 0), (31, 0)] → v.1 b j = u.1 b j) ∧ (∀ b, b < 99 → b ∉ [26, 27, 38, 40, 29, 30, 32, 33, 39] → v.2.1 b = u.2.1 b) ∧ v.2.2.1 = u.2.2.1 ∧ v.2.2.2.1 = u.2.2.2.1 ∧ (∀ a i, a ≠ 37 → v.2.2.2.2.2 a i = u.2.2.2.2.2 a i) ∧ ∀ a i c, a ≠ 37 → u.2.2.2.2.2 a i = some c → v.1 c 0 = u.1 c 0 ∧ v.2.1 (c + 1) = u.2.1 (c + 1) ∧ v.2.1 (c + 2) = u.2.1 (c + 2)
theorem frB.tr {u v w : SX} (h1 : frB u v) (h2 : frB v w) : frB u w := by
  refine ⟨fun b j hb hn => (h2.1 b j hb hn).trans (h1.1 b j hb hn), fun b hb hn => (h2.2.1 b hb hn).trans (h1.2.1 b hb hn), h2.2.2.1.trans h1.2.2.1, h2.2.2.2.1.trans h1.2.2.2.1, fun a i ha => (h2.2.2.2.2.1 a i ha).trans (h1.2.2.2.2.1 a i ha), fun a i c ha hc => ?_⟩
  obtain ⟨a1, a2, a3⟩ := h1.2.2.2.2.2 a i c ha hc
  obtain ⟨b1, b2, b3⟩ := h2.2.2.2.2.2 a i c ha (by rw [h1.2.2.2.2.1 a i ha]; exact hc)
  exact ⟨b1.trans a1, b2.trans a2, b3.trans a3⟩
theorem frE.b {u v : SX} (h : frE u v) : frB u v := by
  refine ⟨fun b j hb hn => h.1 b j hb (fun y => hn ?_), h.2⟩
  simp only [List.mem_cons, List.not_mem_nil, or_false, Prod.mk.injEq] at y ⊢; omega
theorem frB.lo {h : Nat → Nat} {u v : SX} (hR : KRw h u) (hf : frX [(25, 3), (25, 4)] [27] u v) : frB u v := by
  refine ⟨fun b j _ hn => hf.1 b j (fun y => hn ?_), fun b _ hn => hf.2.1 b (fun y => hn ?_), by rw [hf.2.2], by rw [hf.2.2], fun a i _ => by rw [hf.2.2], fun a i c _ hc => ?_⟩
  · simp only [List.mem_cons, List.not_mem_nil, or_false, Prod.mk.injEq] at y ⊢; omega
  · simp only [List.mem_cons, List.not_mem_nil, or_false] at y ⊢; omega
  have hc99 : 99 ≤ c := (hR.lt hc).2.1
  refine ⟨hf.1 c 0 ?_, hf.2.1 (c + 1) ?_, hf.2.1 (c + 2) ?_⟩
  · simp only [List.mem_cons, List.not_mem_nil, or_false, Prod.mk.injEq]; omega
  · simp only [List.mem_cons, List.not_mem_nil, or_false]; omega
  · simp only [List.mem_cons, List.not_mem_nil, or_false]; omega
theorem ZGX.bb {G : ZGT} {u v : SX} (h : ZGX G u) (hf : frB u v) : ZGX G v := by
  unfold ZGX at h ⊢
  rw [hf.1 3 0 (by omega) (by decide), hf.1 3 1 (by omega) (by decide), hf.1 3 2 (by omega) (by decide), hf.1 3 3 (by omega) (by decide), hf.2.1 4 (by omega) (by decide), hf.2.1 5 (by omega) (by decide), hf.2.1 6 (by omega) (by decide)]
  exact h
