/-! The class's automaton as it arises: the invariant over the value, and its steps. -/
def XA (P : YP) (A : ZAS) (u : SX) : Prop := u.1 36 5 = nI A.1 ∧ (∃ kc, KSl A.1 A.2.1 kc u) ∧ COr A.1 A.2.1 u ∧ (∀ s, s < A.1 → ∀ b, b < 14 → u.2.1 40 (14 * s + b) = fI (A.2.2.1 s b)) ∧ XQu A.2.2.2 u ∧ YR P u ∧ ∃ h, KRw h u ∧ A.1 ≤ h 37 ∧ h 37 ≤ 200
/-- what holds of the cells whatever was built -/
def XI (P : YP) (u : SX) : Prop := YR P u ∧ (∃ h, KRw h u ∧ h 37 ≤ 200) ∧ ∃ hd, hd < 200 ∧ u.1 25 3 = nI hd
theorem XA.i {P : YP} {A : ZAS} {u : SX} (h : XA P A u) : XI P u := by
  obtain ⟨-, -, -, -, ⟨hd, q1, q2, -⟩, h6, k, h7, -, h8⟩ := h
  exact ⟨h6, ⟨k, h7, h8⟩, hd, q1, q2⟩
/-- what link may change -/
def frL (u v : SX) : Prop := (∀ b j, b < 99 → (b, j) ∉ [(36, 4), (36, 5), (25, 4)] → v.1 b j = u.1 b j) ∧ (∀ b, b < 99 → b ∉ [26, 27, 38, 40] → v.2.1 b = u.2.1 b) ∧ v.2.2.1 = u.2.2.1 ∧ v.2.2.2.1 = u.2.2.2.1 ∧ (∀ a i, a ≠ 37 → v.2.2.2.2.2 a i = u.2.2.2.2.2 a i) ∧ ∀ a i c, a ≠ 37 → u.2.2.2.2.2 a i = some c → v.1 c 0 = u.1 c 0 ∧ v.2.1 (c + 1) = u.2.1 (c + 1) ∧ v.2.1 (c + 2) = u.2.1 (c + 2)
theorem frL.tr {u v w : SX} (h1 : frL u v) (h2 : frL v w) : frL u w := by
  refine ⟨fun b j hb hn => (h2.1 b j hb hn).trans (h1.1 b j hb hn), fun b hb hn => (h2.2.1 b hb hn).trans (h1.2.1 b hb hn), h2.2.2.1.trans h1.2.2.1, h2.2.2.2.1.trans h1.2.2.2.1, fun a i ha => (h2.2.2.2.2.1 a i ha).trans (h1.2.2.2.2.1 a i ha), fun a i c ha hc => ?_⟩
  obtain ⟨a1, a2, a3⟩ := h1.2.2.2.2.2 a i c ha hc
  obtain ⟨b1, b2, b3⟩ := h2.2.2.2.2.2 a i c ha (by rw [h1.2.2.2.2.1 a i ha]; exact hc)
  exact ⟨b1.trans a1, b2.trans a2, b3.trans a3⟩
theorem frL.lo {h : Nat → Nat} {u v : SX} (hR : KRw h u) (hf : frX [(36, 4), (36, 5), (25, 4)] [26, 27, 38, 40] u v) : frL u v := by
  refine ⟨fun b j _ hn => hf.1 b j hn, fun b _ hn => hf.2.1 b hn, by rw [hf.2.2], by rw [hf.2.2], fun a i _ => by rw [hf.2.2], fun a i c _ hc => ?_⟩
  have hc99 : 99 ≤ c := (hR.lt hc).2.1
  refine ⟨hf.1 c 0 ?_, hf.2.1 (c + 1) ?_, hf.2.1 (c + 2) ?_⟩
  · simp only [List.mem_cons, List.not_mem_nil, or_false, Prod.mk.injEq]; omega
  · simp only [List.mem_cons, List.not_mem_nil, or_false]; omega
  · simp only [List.mem_cons, List.not_mem_nil, or_false]; omega
/-- the kernel in the cell c of row 37 is written -/
theorem frL.k {h : Nat → Nat} {u v : SX} {m c : Nat} (hR : KRw h u) (hm : u.2.2.2.2.2 37 m = some c) (hf : frX [(c, 0)] [c + 1, c + 2] u v) : frL u v := by
  obtain ⟨-, hc1, hc2⟩ := hR.lt hm
  refine ⟨fun b j hb _ => hf.1 b j ?_, fun b hb _ => hf.2.1 b ?_, by rw [hf.2.2], by rw [hf.2.2], fun a i _ => by rw [hf.2.2], fun a i d ha hd => ?_⟩
  · simp only [List.mem_cons, List.not_mem_nil, or_false, Prod.mk.injEq]; omega
  · simp only [List.mem_cons, List.not_mem_nil, or_false]; omega
  obtain ⟨-, hd1, hd2⟩ := hR.lt hd
  have hne : d ≠ c := fun y => ha (hR.2.1 a 37 i m c (by rw [hd, y]) hm).1
  have := isK_ap hd2 hc2 hne
  refine ⟨hf.1 d 0 ?_, hf.2.1 (d + 1) ?_, hf.2.1 (d + 2) ?_⟩
  · simp only [List.mem_cons, List.not_mem_nil, or_false, Prod.mk.injEq]; omega
  · simp only [List.mem_cons, List.not_mem_nil, or_false]; omega
  · simp only [List.mem_cons, List.not_mem_nil, or_false]; omega
theorem zKU_co {K : Nat → Nat → Int32} {t : Nat} {N : Nat → Int32} (h : zco (K t) N) (i : Nat) : zco (zKU K t (fun j => K t j ||| N j) i) (K i) := by
  unfold zKU
  by_cases z : i = t
  · rw [if_pos z, z]
    exact fun j hj => or_z (h j hj)
  · rw [if_neg z]; exact zco_rf
theorem zcf_co {K K' : Nat → Nat → Int32} (h : ∀ i, zco (K' i) (K i)) {i c : Nat} (hz : zcf K i c) : zcf K' i c :=
  ⟨hz.1, zco_tr (h c) (zco_tr hz.2.1 (zco_sy (h i))), fun x hx y => hz.2.2 x hx (zco_tr (zco_sy (h x)) (zco_tr y (h i)))⟩
/-- looks more in the slot t -/
theorem XA_join {P : YP} {m t : Nat} {K : Nat → Nat → Int32} {go : Nat → Nat → Option Nat} {q : List Nat} {kc : Nat → Nat} {u v : SX} {N : Nat → Int32} (hX : XA P (m, K, go, q) u) (ht : t < m) (hks : KSl m K kc u) (hz : zco (K t) N) (hK : KX (fun i => K t i ||| N i) (kc t) v) (hf : frX [(kc t, 0)] [kc t + 1, kc t + 2] u v) : XA P (m, zKU K t (fun i => K t i ||| N i), go, q) v := by
  obtain ⟨h1, -, h3, h4, h5, h6, h, h7, h8⟩ := hX
  dsimp only at h1 h3 h4 h5 h8
  obtain ⟨k1, k2, k3⟩ := hks.1 t ht
  have hc99 : 99 ≤ kc t := k2.1
  have lo : ∀ b, b < 99 → b ∉ [kc t + 1, kc t + 2] := fun b hb => by simp only [List.mem_cons, List.not_mem_nil, or_false]; omega
  have li : ∀ b j, b < 99 → (b, j) ∉ [(kc t, 0)] := fun b j hb => by simp only [List.mem_cons, List.not_mem_nil, or_false, Prod.mk.injEq]; omega
  refine ⟨(hf.1 36 5 (li 36 5 (by omega))).trans h1, ⟨kc, fun i hi => ?_, hks.2⟩, fun i hi => ?_, fun s hs b hb => ?_, ?_, h6.fr hf.2.2, h, h7.fr hf.2.2, h8⟩
  · obtain ⟨i1, i2, i3⟩ := hks.1 i hi
    refine ⟨by rw [hf.2.2]; exact i1, by rw [hf.2.2]; exact i2, ?_⟩
    show KX (zKU K t (fun i => K t i ||| N i) i) (kc i) v
    unfold zKU
    by_cases z : i = t
    · rw [if_pos z, z]; exact hK
    · rw [if_neg z]
      have := isK_ap i2.2 k2.2 (fun y => z (hks.2 i t hi ht y))
      refine i3.fr (hf.1 _ _ ?_) (hf.2.1 _ ?_) (hf.2.1 _ ?_)
      · simp only [List.mem_cons, List.not_mem_nil, or_false, Prod.mk.injEq]; omega
      · simp only [List.mem_cons, List.not_mem_nil, or_false]; omega
      · simp only [List.mem_cons, List.not_mem_nil, or_false]; omega
  · obtain ⟨c, c1, c2⟩ := h3 i hi
    exact ⟨c, by rw [hf.2.1 38 (lo 38 (by omega))]; exact c1, zcf_co (zKU_co hz) c2⟩
  · rw [hf.2.1 40 (lo 40 (by omega))]; exact h4 s hs b hb
  · obtain ⟨hd, q1, q2, q3, q4, q5⟩ := h5
    exact ⟨hd, q1, (hf.1 25 3 (li 25 3 (by omega))).trans q2, (hf.1 25 4 (li 25 4 (by omega))).trans q3, by rw [hf.2.1 26 (lo 26 (by omega))]; exact q4, by rw [hf.2.1 27 (lo 27 (by omega))]; exact q5⟩
