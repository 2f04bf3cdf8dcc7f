/-! Any two kernels of the class: what was proved in the world of two holds there. -/
def isKc (c n : Nat) : Prop := c = 28 ∨ c = 31 ∨ (99 ≤ c ∧ (c - 99) % 3 = 0 ∧ c < 3 * n + 99)
theorem yc_k {P : YP} {s : SX} {c : Nat} (h1 : 99 ≤ c) (h2 : (c - 99) % 3 = 0) : ycel P s c = .inr (7, [.int (s.1 c 0), .ref (c + 1), .ref (c + 2)]) := by
  have e1 : Nat.blt c 99 = false := by
    cases h : Nat.blt c 99 with
    | false => rfl
    | true => have := Nat.le_of_ble_eq_true h; omega
  unfold ycel yc
  rw [e1, h2]
  rfl
theorem yc_a {P : YP} {s : SX} {c : Nat} (h1 : 99 ≤ c) (h2 : (c - 99) % 3 ≠ 0) : ycel P s c = .inl (0, 81, .inl (s.2.1 c)) := by
  have e1 : Nat.blt c 99 = false := by
    cases h : Nat.blt c 99 with
    | false => rfl
    | true => have := Nat.le_of_ble_eq_true h; omega
  have e2 : Nat.beq ((c - 99) % 3) 0 = false := by
    cases h : Nat.beq ((c - 99) % 3) 0 with
    | false => rfl
    | true => exact absurd (Nat.eq_of_beq_eq_true h) h2
  unfold ycel yc
  rw [e1, e2]
  rfl
theorem isK_cell {P : YP} {s : SX} {c n : Nat} (h : isKc c n) : ycel P s c = .inr (7, [.int (s.1 c 0), .ref (c + 1), .ref (c + 2)]) ∧ ycel P s (c + 1) = .inl (0, 81, .inl (s.2.1 (c + 1))) ∧ ycel P s (c + 2) = .inl (0, 81, .inl (s.2.1 (c + 2))) := by
  rcases h with rfl | rfl | ⟨h1, h2, -⟩
  · exact ⟨rfl, rfl, rfl⟩
  · exact ⟨rfl, rfl, rfl⟩
  · exact ⟨yc_k h1 h2, yc_a (by omega) (by omega), yc_a (by omega) (by omega)⟩
theorem isK_lt {c n : Nat} (h : isKc c n) : c + 2 < 3 * n + 99 := by
  rcases h with rfl | rfl | ⟨h1, h2, h3⟩ <;> omega
theorem isK_ap {c d n m : Nat} (h : isKc c n) (h' : isKc d m) (hne : c ≠ d) : c + 3 ≤ d ∨ d + 3 ≤ c := by
  rcases h with rfl | rfl | ⟨h1, h2, h3⟩ <;> rcases h' with rfl | rfl | ⟨g1, g2, g3⟩ <;> omega
def eK (c d n k : Nat) : Nat := if k = 0 then c else if k = 1 then c + 1 else if k = 2 then c + 2 else if k = 3 then d else if k = 4 then d + 1 else if k = 5 then d + 2 else n + k
def kst (c d : Nat) (s : SX) : ZSK := (fun b => if b = 0 then s.1 c 0 else s.1 d 0, fun b => if b = 1 then s.2.1 (c + 1) else if b = 2 then s.2.1 (c + 2) else if b = 4 then s.2.1 (d + 1) else s.2.1 (d + 2))
def kput (c d : Nat) (s : SX) (t : ZSK) : SX := (updI (updI s.1 c 0 (t.1 0)) d 0 (t.1 3), setA (setA (setA (setA s.2.1 (c + 1) (t.2 1)) (c + 2) (t.2 2)) (d + 1) (t.2 4)) (d + 2) (t.2 5), s.2.2)
theorem updI_at {f : Nat → Nat → Int32} {a k : Nat} {x : Int32} : updI f a k x a k = x := by rw [updI_eq, updS_at]
section ZKer
variable {P : YP} {M : MD} {s : SX} {t : ZSK} {c d n : Nat}
theorem kput_v (h : c + 3 ≤ d ∨ d + 3 ≤ c) : (kput c d s t).1 c 0 = t.1 0 ∧ (kput c d s t).1 d 0 = t.1 3 ∧ (kput c d s t).2.1 (c + 1) = t.2 1 ∧ (kput c d s t).2.1 (c + 2) = t.2 2 ∧ (kput c d s t).2.1 (d + 1) = t.2 4 ∧ (kput c d s t).2.1 (d + 2) = t.2 5 := by
  unfold kput
  dsimp only
  refine ⟨?_, ?_, ?_, ?_, ?_, ?_⟩
  · rw [updI_ne (by omega), updI_at]
  · rw [updI_at]
  · rw [setA_ne (by omega), setA_ne (by omega), setA_ne (by omega), setA_at]
  · rw [setA_ne (by omega), setA_ne (by omega), setA_at]
  · rw [setA_ne (by omega), setA_at]
  · rw [setA_at]
theorem kput_o {b : Nat} (h0 : b ≠ c) (h3 : b ≠ d) : (kput c d s t).1 b = s.1 b := by
  unfold kput
  dsimp only
  rw [updI_ne h3, updI_ne h0]
theorem kput_a {b : Nat} (h1 : b ≠ c + 1) (h2 : b ≠ c + 2) (h4 : b ≠ d + 1) (h5 : b ≠ d + 2) : (kput c d s t).2.1 b = s.2.1 b := by
  unfold kput
  dsimp only
  rw [setA_ne h5, setA_ne h4, setA_ne h2, setA_ne h1]
theorem kst_v : (kst c d s).1 0 = s.1 c 0 ∧ (kst c d s).1 3 = s.1 d 0 ∧ (kst c d s).2 1 = s.2.1 (c + 1) ∧ (kst c d s).2 2 = s.2.1 (c + 2) ∧ (kst c d s).2 4 = s.2.1 (d + 1) ∧ (kst c d s).2 5 = s.2.1 (d + 2) := ⟨rfl, rfl, rfl, rfl, rfl, rfl⟩
theorem eK_v : eK c d n 0 = c ∧ eK c d n 1 = c + 1 ∧ eK c d n 2 = c + 2 ∧ eK c d n 3 = d ∧ eK c d n 4 = d + 1 ∧ eK c d n 5 = d + 2 := ⟨rfl, rfl, rfl, rfl, rfl, rfl⟩
theorem eK_b {k : Nat} (h : 6 ≤ k) : eK c d n k = n + k := by
  unfold eK
  rw [if_neg (by omega), if_neg (by omega), if_neg (by omega), if_neg (by omega), if_neg (by omega), if_neg (by omega)]
theorem lt6c {k : Nat} (h : k < 6) : k = 0 ∨ k = 1 ∨ k = 2 ∨ k = 3 ∨ k = 4 ∨ k = 5 := by omega
theorem Ev_ker {as : List Value} {r : Option Value} (hc : isKc c s.2.2.2.2.1) (hd : isKc d s.2.2.2.2.1) (hcd : c ≠ d) (h : Ev ZK M as (kst c d s) r t) : Ev (ZY P) M (as.map (ze (eK c d (3 * s.2.2.2.2.1 + 99)))) s (r.map (ze (eK c d (3 * s.2.2.2.2.1 + 99)))) (kput c d s t) := by
  have hap := isK_ap hc hd hcd
  have hlc := isK_lt hc
  have hld := isK_lt hd
  obtain ⟨v0, v1, v2, v3, v4, v5⟩ := kput_v (s := s) (t := t) hap
  refine Ev_emb (Z2 := ZY P) (s2 := s) (s2' := kput c d s t) (eK c d (3 * s.2.2.2.2.1 + 99)) h ⟨Nat.le_refl _, Nat.le_refl _⟩ ((Nat.sub_self _).trans (Nat.sub_self _).symm) ((Nat.sub_self _).trans (Nat.sub_self _).symm) ?_ ?_ ?_ ?_ ?_ ?_ ?_ ?_ ?_
  · intro k hk
    show eK c d _ k < 3 * s.2.2.2.2.1 + 99
    rcases lt6c hk with rfl | rfl | rfl | rfl | rfl | rfl
    · show c < _; omega
    · show c + 1 < _; omega
    · show c + 2 < _; omega
    · show d < _; omega
    · show d + 1 < _; omega
    · show d + 2 < _; omega
  · intro k hk
    show eK c d _ k < 3 * s.2.2.2.2.1 + 99
    rcases lt6c hk with rfl | rfl | rfl | rfl | rfl | rfl
    · show c < _; omega
    · show c + 1 < _; omega
    · show c + 2 < _; omega
    · show d < _; omega
    · show d + 1 < _; omega
    · show d + 2 < _; omega
  · intro k hk
    have hk : 6 ≤ k := hk
    show 3 * s.2.2.2.2.1 + 99 ≤ eK c d _ k
    rw [eK_b hk]; omega
  · intro j k hj hk he
    rcases lt6c hj with rfl | rfl | rfl | rfl | rfl | rfl <;> rcases lt6c hk with rfl | rfl | rfl | rfl | rfl | rfl <;> simp only [eK, if_true, if_false, Nat.reduceEqDiff] at he <;> omega
  · intro k hk
    obtain ⟨a1, a2, a3⟩ := isK_cell (P := P) (s := s) hc
    obtain ⟨b1', b2, b3⟩ := isK_cell (P := P) (s := s) hd
    rcases lt6c hk with rfl | rfl | rfl | rfl | rfl | rfl
    · exact a1
    · exact a2
    · exact a3
    · exact b1'
    · exact b2
    · exact b3
  · intro k hk
    obtain ⟨a1, a2, a3⟩ := isK_cell (P := P) (s := kput c d s t) hc
    obtain ⟨b1', b2, b3⟩ := isK_cell (P := P) (s := kput c d s t) hd
    rw [v0] at a1
    rw [v1] at b1'
    rw [v2] at a2
    rw [v3] at a3
    rw [v4] at b2
    rw [v5] at b3
    rcases lt6c hk with rfl | rfl | rfl | rfl | rfl | rfl
    · exact a1
    · exact a2
    · exact a3
    · exact b1'
    · exact b2
    · exact b3
  · intro b hb
    by_cases z : ∃ k, k < 6 ∧ b = eK c d (3 * s.2.2.2.2.1 + 99) k
    · exact Or.inl z
    · have z : ∀ k, k < 6 → b ≠ eK c d (3 * s.2.2.2.2.1 + 99) k := fun k hk e => z ⟨k, hk, e⟩
      refine Or.inr ⟨hb, z, ?_⟩
      have z0 : b ≠ c := z 0 (by omega)
      have z1 : b ≠ c + 1 := z 1 (by omega)
      have z2 : b ≠ c + 2 := z 2 (by omega)
      have z3 : b ≠ d := z 3 (by omega)
      have z4 : b ≠ d + 1 := z 4 (by omega)
      have z5 : b ≠ d + 2 := z 5 (by omega)
      show yc P ((kput c d s t).1 b) ((kput c d s t).2.1 b) _ _ _ b = yc P (s.1 b) (s.2.1 b) _ _ _ b
      rw [kput_o z0 z3, kput_a z1 z2 z4 z5]
      rfl
  · intro ad ad1 c1 c2 c3
    refine ⟨ad, fun _ _ => rfl, c3, fun k => ?_⟩
    by_cases z : k < 6
    · exact (c1 k z).symm
    · rw [c2 k (by show 6 ≤ k; omega)]
      apply c3
      show 3 * s.2.2.2.2.1 + 99 ≤ eK c d _ k
      rw [eK_b (by omega)]; omega
  · intro dA ad ad' b hb hne c1 c2 c3
    have e1 : ad' = ad := funext fun q => by
      by_cases z : q < 3 * s.2.2.2.2.1 + 99
      · exact c1 q z
      · have z1 : (ZY P).2.1 s ≤ q := by show 3 * s.2.2.2.2.1 + 99 ≤ q; omega
        rw [c2 q z1]
        exact c3 q z1
    rw [e1]
theorem kput_self (h : c + 3 ≤ d ∨ d + 3 ≤ c) : kput c d s (kst c d s) = s := by
  obtain ⟨v0, v1, v2, v3, v4, v5⟩ := kput_v (s := s) (t := kst c d s) h
  have e1 : (kput c d s (kst c d s)).1 = s.1 := by
    funext b k
    by_cases h0 : b = c
    · subst h0
      by_cases hk : k = 0
      · subst hk; exact v0
      · show updI (updI s.1 b 0 _) d 0 _ b k = _
        rw [updI_ne (by omega), updI_eq, updS_ne hk]
    · by_cases h3 : b = d
      · subst h3
        by_cases hk : k = 0
        · subst hk; exact v1
        · show updI (updI s.1 c 0 _) b 0 _ b k = _
          rw [updI_eq, updS_ne hk, updI_ne h0]
      · rw [kput_o h0 h3]
  have e2 : (kput c d s (kst c d s)).2.1 = s.2.1 := by
    funext b
    by_cases h1 : b = c + 1
    · subst h1; exact v2
    by_cases h2 : b = c + 2
    · subst h2; exact v3
    by_cases h4 : b = d + 1
    · subst h4; exact v4
    by_cases h5 : b = d + 2
    · subst h5; exact v5
    exact kput_a h1 h2 h4 h5
  rw [show (kput c d s (kst c d s)) = ((kput c d s (kst c d s)).1, (kput c d s (kst c d s)).2.1, s.2.2) from rfl, e1, e2]
end ZKer
/-- a kernel of the class tells these looks -/
def KX (k : Nat → Int32) (c : Nat) (s : SX) : Prop := ∃ m it, zen k m it ∧ m ≤ 81 ∧ s.1 c 0 = nI m ∧ ∀ b, b < m → s.2.1 (c + 1) b = nI (it b) ∧ s.2.1 (c + 2) b = k (it b)
theorem KX.fr {k : Nat → Int32} {c : Nat} {s s' : SX} (h : KX k c s) (h0 : s'.1 c 0 = s.1 c 0) (h1 : s'.2.1 (c + 1) = s.2.1 (c + 1)) (h2 : s'.2.1 (c + 2) = s.2.1 (c + 2)) : KX k c s' := by
  obtain ⟨m, it, a, b, c', d⟩ := h
  exact ⟨m, it, a, b, by rw [h0]; exact c', by rw [h1, h2]; exact d⟩
theorem zen_cg {k k' : Nat → Int32} {m : Nat} {it : Nat → Nat} (h : zen k m it) (e : ∀ i, i < 102 → k i = k' i) : zen k' m it := ⟨h.1, fun a ha => ⟨(h.2.1 a ha).1, by rw [← e _ (h.2.1 a ha).1]; exact (h.2.1 a ha).2⟩, fun i hi hk => h.2.2 i hi (by rw [e i hi]; exact hk)⟩
theorem KX.cg {k k' : Nat → Int32} {c : Nat} {s : SX} (h : KX k c s) (e : ∀ i, i < 102 → k i = k' i) : KX k' c s := by
  obtain ⟨m, it, a, b, c', d⟩ := h
  exact ⟨m, it, zen_cg a e, b, c', fun j hj => ⟨(d j hj).1, by rw [(d j hj).2]; exact e _ (a.2.1 j hj).1⟩⟩
section ZKer2
variable {P : YP} {s : SX} {c d : Nat} {k k' : Nat → Int32}
theorem KX.p {m : Nat} {it : Nat → Nat} (h : zen k m it ∧ m ≤ 81 ∧ s.1 c 0 = nI m ∧ ∀ b, b < m → s.2.1 (c + 1) b = nI (it b) ∧ s.2.1 (c + 2) b = k (it b)) : KP k m it 0 (kst c d s) := h
theorem KX.p3 {m : Nat} {it : Nat → Nat} (h : zen k m it ∧ m ≤ 81 ∧ s.1 d 0 = nI m ∧ ∀ b, b < m → s.2.1 (d + 1) b = nI (it b) ∧ s.2.1 (d + 2) b = k (it b)) : KP k m it 3 (kst c d s) := h
theorem y_hasCoreOf (hc : isKc c s.2.2.2.2.1) (hd : isKc d s.2.2.2.2.1) (hcd : c ≠ d) (h : KX k c s) (h' : KX k' d s) : Ev (ZY P) mX7_hasCoreOf [.ref c, .ref d] s (some (.int (bI (zcB (zco k k'))))) s := by
  obtain ⟨m, it, h⟩ := h
  obtain ⟨m', it', h'⟩ := h'
  have h0 := Ev_ker (P := P) hc hd hcd (k_hasCoreOf (KX.p h) (KX.p3 h'))
  rw [kput_self (isK_ap hc hd hcd)] at h0
  exact h0
theorem y_hasLooksOf (hc : isKc c s.2.2.2.2.1) (hd : isKc d s.2.2.2.2.1) (hcd : c ≠ d) (h : KX k c s) (h' : KX k' d s) (hz : zco k k') : Ev (ZY P) mX7_hasLooksOf [.ref c, .ref d] s (some (.int (bI (zcB (∀ i, i < 102 → k i = k' i))))) s := by
  obtain ⟨m, it, h⟩ := h
  obtain ⟨m', it', h'⟩ := h'
  have h0 := Ev_ker (P := P) hc hd hcd (k_hasLooksOf (KX.p h) (KX.p3 h') hz)
  rw [kput_self (isK_ap hc hd hcd)] at h0
  exact h0
theorem y_isCompatible (hc : isKc c s.2.2.2.2.1) (hd : isKc d s.2.2.2.2.1) (hcd : c ≠ d) (h : KX k c s) (h' : KX k' d s) (hz : zco k k') : Ev (ZY P) mX7_isCompatible [.ref c, .ref d] s (some (.int (bI (zcB (zwk k k'))))) s := by
  obtain ⟨m, it, h⟩ := h
  obtain ⟨m', it', h'⟩ := h'
  have h0 := Ev_ker (P := P) hc hd hcd (k_isCompatible (KX.p h) (KX.p3 h') hz)
  rw [kput_self (isK_ap hc hd hcd)] at h0
  exact h0
theorem y_lookOf (hc : isKc c s.2.2.2.2.1) (h : KX k c s) {i : Nat} (hi : i < 102) : Ev (ZY P) mX7_lookOf [.ref c, .int (nI i)] s (some (.int (k i))) s := by
  obtain ⟨m, it, h⟩ := h
  by_cases z : c = 28
  · have h0 := Ev_ker (P := P) (d := 31) hc (Or.inr (Or.inl rfl)) (by omega) (k_lookOf (KX.p h) hi)
    rw [kput_self (isK_ap hc (n := s.2.2.2.2.1) (m := 0) (Or.inr (Or.inl rfl)) (by omega))] at h0
    exact h0
  · have h0 := Ev_ker (P := P) (d := 28) hc (Or.inl rfl) z (k_lookOf (KX.p h) hi)
    rw [kput_self (isK_ap hc (n := s.2.2.2.2.1) (m := 0) (Or.inl rfl) z)] at h0
    exact h0
/-- only the first kernel is another -/
theorem kput_fr {t : ZSK} (h : c + 3 ≤ d ∨ d + 3 ≤ c) (e0 : t.1 3 = s.1 d 0) (e1 : t.2 4 = s.2.1 (d + 1)) (e2 : t.2 5 = s.2.1 (d + 2)) : frX [(c, 0)] [c + 1, c + 2] s (kput c d s t) := by
  obtain ⟨v0, v1, v2, v3, v4, v5⟩ := kput_v (s := s) (t := t) h
  refine ⟨fun b k hb => ?_, fun b hb => ?_, rfl⟩
  · by_cases h0 : b = c
    · subst h0
      have hk : k ≠ 0 := fun z => hb (by rw [z]; exact List.mem_cons_self)
      show updI (updI s.1 b 0 _) d 0 _ b k = _
      rw [updI_ne (by omega), updI_eq, updS_ne hk]
    · by_cases h3 : b = d
      · subst h3
        by_cases hk : k = 0
        · subst hk; rw [v1]; exact e0
        · show updI (updI s.1 c 0 _) b 0 _ b k = _
          rw [updI_eq, updS_ne hk, updI_ne h0]
      · rw [kput_o h0 h3]
  · have h1 : b ≠ c + 1 := fun z => hb (by rw [z]; exact List.mem_cons_self)
    have h2 : b ≠ c + 2 := fun z => hb (by rw [z]; exact List.mem_cons_of_mem _ List.mem_cons_self)
    by_cases h4 : b = d + 1
    · subst h4; rw [v4]; exact e1
    by_cases h5 : b = d + 2
    · subst h5; rw [v5]; exact e2
    exact kput_a h1 h2 h4 h5
theorem y_copy (hc : isKc c s.2.2.2.2.1) (hd : isKc d s.2.2.2.2.1) (hcd : c ≠ d) (h' : KX k d s) : EvQ (ZY P) mX7_copy [.ref c, .ref d] s (fun r s' => r = none ∧ KX k c s' ∧ frX [(c, 0)] [c + 1, c + 2] s s') := by
  obtain ⟨m', it', h'⟩ := h'
  obtain ⟨r, t, ⟨rfl, a1, a2, a3, a4⟩, h0⟩ := k_copy (KX.p3 (c := c) h')
  have h1 := Ev_ker (P := P) hc hd hcd h0
  have hap := isK_ap hc hd hcd
  obtain ⟨v0, v1, v2, v3, v4, v5⟩ := kput_v (s := s) (t := t) hap
  refine ⟨_, _, ⟨rfl, ⟨m', it', a1.1, a1.2.1, ?_, ?_⟩, kput_fr hap a2 a3 a4⟩, h1⟩
  · rw [v0]; exact a1.2.2.1
  · rw [v2, v3]; exact a1.2.2.2
theorem y_join (hc : isKc c s.2.2.2.2.1) (hd : isKc d s.2.2.2.2.1) (hcd : c ≠ d) (h : KX k c s) (h' : KX k' d s) (hz : zco k k') : EvQ (ZY P) mX7_join [.ref c, .ref d] s (fun r s' => r = some (.int (bI (zcB (∃ i, i < 102 ∧ k i ||| k' i ≠ k i)))) ∧ KX (fun i => k i ||| k' i) c s' ∧ frX [(c, 0)] [c + 1, c + 2] s s') := by
  obtain ⟨m, it, h⟩ := h
  obtain ⟨m', it', h'⟩ := h'
  obtain ⟨r, t, ⟨rfl, a1, a2, a3, a4⟩, h0⟩ := k_join (KX.p (d := d) h) (KX.p3 h') hz
  have h1 := Ev_ker (P := P) hc hd hcd h0
  have hap := isK_ap hc hd hcd
  obtain ⟨v0, v1, v2, v3, v4, v5⟩ := kput_v (s := s) (t := t) hap
  refine ⟨_, _, ⟨rfl, ⟨m, it, a1.1, a1.2.1, ?_, ?_⟩, kput_fr hap a2 a3 a4⟩, h1⟩
  · rw [v0]; exact a1.2.2.1
  · rw [v2, v3]; exact a1.2.2.2
/-- put, of Builder's next (31) -/
theorem y_put {i : Nat} {x : Int32} (h : KX k 31 s) (h81 : ∀ m it, zen k m it → m < 81) (hi : i < 102) (hl : ∀ j, j < 102 → k j ≠ 0 → j < i) (hx : x ≠ 0) : EvQ (ZY P) mX7_put [.ref 31, .int (nI i), .int x] s (fun r s' => r = none ∧ KX (upd k i x) 31 s' ∧ frX [(31, 0)] [32, 33] s s') := by
  obtain ⟨m, it, h⟩ := h
  obtain ⟨r, t, ⟨rfl, a1, a2, a3, a4⟩, h0⟩ := k_put (KX.p (d := 28) h) (h81 m it h.1) hi hl hx
  have h1 := Ev_ker (P := P) (c := 31) (d := 28) (Or.inr (Or.inl rfl)) (Or.inl rfl) (by decide) h0
  obtain ⟨v0, v1, v2, v3, v4, v5⟩ := kput_v (c := 31) (d := 28) (s := s) (t := t) (by omega)
  refine ⟨_, _, ⟨rfl, ⟨m + 1, updN it m i, a1.1, a1.2.1, ?_, ?_⟩, kput_fr (by omega) a2 a3 a4⟩, h1⟩
  · rw [v0]; exact a1.2.2.1
  · rw [v2, v3]; exact a1.2.2.2
end ZKer2
