/-! The class: expand, all letters of one slot. -/
/-- what expand may change -/
def frE (u v : SX) : Prop := (∀ b j, b < 99 → (b, j) ∉ [(36, 4), (36, 5), (25, 4), (28, 0), (31, 0)] → v.1 b j = u.1 b j) ∧ (∀ b, b < 99 → b ∉ [26, 27, 38, 40, 29, 30, 32, 33, 39] → v.2.1 b = u.2.1 b) ∧ v.2.2.1 = u.2.2.1 ∧ v.2.2.2.1 = u.2.2.2.1 ∧ (∀ a i, a ≠ 37 → v.2.2.2.2.2 a i = u.2.2.2.2.2 a i) ∧ ∀ a i c, a ≠ 37 → u.2.2.2.2.2 a i = some c → v.1 c 0 = u.1 c 0 ∧ v.2.1 (c + 1) = u.2.1 (c + 1) ∧ v.2.1 (c + 2) = u.2.1 (c + 2)
theorem frE.tr {u v w : SX} (h1 : frE u v) (h2 : frE v w) : frE u w := by
  refine ⟨fun b j hb hn => (h2.1 b j hb hn).trans (h1.1 b j hb hn), fun b hb hn => (h2.2.1 b hb hn).trans (h1.2.1 b hb hn), h2.2.2.1.trans h1.2.2.1, h2.2.2.2.1.trans h1.2.2.2.1, fun a i ha => (h2.2.2.2.2.1 a i ha).trans (h1.2.2.2.2.1 a i ha), fun a i c ha hc => ?_⟩
  obtain ⟨a1, a2, a3⟩ := h1.2.2.2.2.2 a i c ha hc
  obtain ⟨b1, b2, b3⟩ := h2.2.2.2.2.2 a i c ha (by rw [h1.2.2.2.2.1 a i ha]; exact hc)
  exact ⟨b1.trans a1, b2.trans a2, b3.trans a3⟩
theorem frL.e {u v : SX} (h : frL u v) : frE u v := by
  refine ⟨fun b j hb hn => h.1 b j hb (fun y => hn ?_), fun b hb hn => h.2.1 b hb (fun y => hn ?_), h.2.2⟩
  · simp only [List.mem_cons, List.not_mem_nil, or_false, Prod.mk.injEq] at y ⊢; omega
  · simp only [List.mem_cons, List.not_mem_nil, or_false] at y ⊢; omega
theorem frE.lo {h : Nat → Nat} {u v : SX} (hR : KRw h u) (hf : frX [(28, 0), (31, 0)] [29, 30, 32, 33, 39] u v) : frE u v := by
  refine ⟨fun b j _ hn => hf.1 b j (fun y => hn ?_), fun b _ hn => hf.2.1 b (fun y => hn ?_), by rw [hf.2.2], by rw [hf.2.2], fun a i _ => by rw [hf.2.2], fun a i c _ hc => ?_⟩
  · simp only [List.mem_cons, List.not_mem_nil, or_false, Prod.mk.injEq] at y ⊢; omega
  · simp only [List.mem_cons, List.not_mem_nil, or_false] at y ⊢; omega
  have hc99 : 99 ≤ c := (hR.lt hc).2.1
  refine ⟨hf.1 c 0 ?_, hf.2.1 (c + 1) ?_, hf.2.1 (c + 2) ?_⟩
  · simp only [List.mem_cons, List.not_mem_nil, or_false, Prod.mk.injEq]; omega
  · simp only [List.mem_cons, List.not_mem_nil, or_false]; omega
  · simp only [List.mem_cons, List.not_mem_nil, or_false]; omega
theorem XA.fr {P : YP} {A : ZAS} {u v : SX} (hX : XA P A u) (hf : frX [(28, 0), (31, 0)] [29, 30, 32, 33, 39] u v) : XA P A v := by
  obtain ⟨m, K, go, q⟩ := A
  obtain ⟨h1, ⟨kc, hks⟩, h3, h4, hq, h6, h, h7, h8⟩ := hX
  dsimp only at h1 hks h3 h4 hq h8
  refine ⟨(hf.1 36 5 (by decide)).trans h1, ⟨kc, fun i hi => ?_, hks.2⟩, fun i hi => ?_, fun s hs b hb => ?_, ?_, h6.fr hf.2.2, h, h7.fr hf.2.2, h8⟩
  · obtain ⟨i1, i2, i3⟩ := hks.1 i hi
    have hc99 : 99 ≤ kc i := i2.1
    refine ⟨by rw [hf.2.2]; exact i1, by rw [hf.2.2]; exact i2, i3.fr (hf.1 _ _ ?_) (hf.2.1 _ ?_) (hf.2.1 _ ?_)⟩
    · simp only [List.mem_cons, List.not_mem_nil, or_false, Prod.mk.injEq]; omega
    · simp only [List.mem_cons, List.not_mem_nil, or_false]; omega
    · simp only [List.mem_cons, List.not_mem_nil, or_false]; omega
  · obtain ⟨c, c1, c2⟩ := h3 i hi
    exact ⟨c, by rw [hf.2.1 38 (by decide)]; exact c1, c2⟩
  · rw [hf.2.1 40 (by decide)]; exact h4 s hs b hb
  · obtain ⟨hd, q1, q2, q3, q4, q5⟩ := hq
    exact ⟨hd, q1, (hf.1 25 3 (by decide)).trans q2, (hf.1 25 4 (by decide)).trans q3, by rw [hf.2.1 26 (by decide)]; exact q4, by rw [hf.2.1 27 (by decide)]; exact q5⟩
theorem ZGX.e {G : ZGT} {u v : SX} (h : ZGX G u) (hf : frE u v) : ZGX G v := by
  unfold ZGX at h ⊢
  rw [hf.1 3 0 (by omega) (by decide), hf.1 3 1 (by omega) (by decide), hf.1 3 2 (by omega) (by decide), hf.1 3 3 (by omega) (by decide), hf.2.1 4 (by omega) (by decide), hf.2.1 5 (by omega) (by decide), hf.2.1 6 (by omega) (by decide)]
  exact h
/-- the size tells whether there is an item -/
theorem KX_sz {k : Nat → Int32} {c : Nat} {s : SX} (h : KX k c s) : (∃ m, s.1 c 0 = nI m ∧ m ≤ 81 ∧ (m = 0 ↔ ∀ i, i < 102 → k i = 0)) := by
  obtain ⟨m, it, hz, hm, h0, -⟩ := h
  refine ⟨m, h0, hm, fun z i hi => ?_, fun z => ?_⟩
  · refine Classical.byContradiction (fun y => ?_)
    obtain ⟨a, ha, -⟩ := hz.2.2 i hi y
    omega
  · rcases Nat.eq_zero_or_pos m with y | y
    · exact y
    · exact absurd (z _ (hz.2.1 0 y).1) (hz.2.1 0 y).2
