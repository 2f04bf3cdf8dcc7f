/-! Kernels: a world of two of them. A kernel is told by its looks: item to look, 0: it has no such item. -/
noncomputable def zcB (p : Prop) : Bool := @decide p (Classical.propDecidable p)
theorem zcB_t {p : Prop} (h : p) : zcB p = true := @decide_eq_true p (Classical.propDecidable p) h
theorem zcB_f {p : Prop} (h : ¬ p) : zcB p = false := @decide_eq_false p (Classical.propDecidable p) h
theorem zcB_iff {p : Prop} : zcB p = true ↔ p := ⟨fun h => Classical.byContradiction (fun z => by rw [zcB_f z] at h; cases h), zcB_t⟩
abbrev ZSK : Type := (Nat → Int32) × (Nat → Nat → Int32)
def kcel (s : ZSK) (b : Nat) : zc := bif Nat.beq b 0 then .inr (7, [.int (s.1 0), .ref 1, .ref 2]) else bif Nat.beq b 1 then .inl (0, 81, .inl (s.2 1)) else bif Nat.beq b 2 then .inl (0, 81, .inl (s.2 2)) else bif Nat.beq b 3 then .inr (7, [.int (s.1 3), .ref 4, .ref 5]) else bif Nat.beq b 4 then .inl (0, 81, .inl (s.2 4)) else bif Nat.beq b 5 then .inl (0, 81, .inl (s.2 5)) else .inl (0, 0, .inl fun _ => 0)
def kwf (s : ZSK) (a k : Nat) (v : Value) : Option ZSK := match v with
  | .int x => bif (Nat.beq a 0 || Nat.beq a 3) && Nat.beq k 0 then some (updS s.1 a x, s.2) else none
  | _ => none
def kwa (s : ZSK) (a j : Nat) (x : Int32) : Option ZSK := bif Nat.beq a 1 || Nat.beq a 2 || Nat.beq a 4 || Nat.beq a 5 then some (s.1, updA s.2 a j x) else none
def ZK : ZW ZSK := (kcel, fun _ => 6, fun _ => 0, kwf, kwa, fun _ _ _ _ => none)
theorem ZK_ok : ZOk ZK := by
  refine ⟨?_, ?_, fun s a k v s1 h ha => (by cases h)⟩
  · intro s a k v s1 h ha
    change kwf s a k v = some s1 at h
    unfold kwf at h
    split at h
    · rename_i x
      cases hb : (Nat.beq a 0 || Nat.beq a 3) && Nat.beq k 0 with
      | false => rw [hb] at h; cases h
      | true =>
        rw [hb] at h
        cases h
        rw [Bool.and_eq_true, Bool.or_eq_true] at hb
        have hk : k = 0 := Nat.eq_of_beq_eq_true hb.2
        subst hk
        refine ⟨⟨rfl, rfl⟩, fun b hb0 => ?_, fun ci fs hc hk => ?_⟩
        · show kcel (updS s.1 a x, s.2) b = kcel s b
          unfold kcel
          rcases hb.1 with h | h
          · have : a = 0 := Nat.eq_of_beq_eq_true h
            subst this
            cases h0 : Nat.beq b 0 with
            | true => exact absurd (Nat.eq_of_beq_eq_true h0) hb0
            | false => rfl
          · have : a = 3 := Nat.eq_of_beq_eq_true h
            subst this
            cases h0 : Nat.beq b 3 with
            | true => exact absurd (Nat.eq_of_beq_eq_true h0) hb0
            | false => rfl
        · rcases hb.1 with h | h
          · have : a = 0 := Nat.eq_of_beq_eq_true h
            subst this
            cases hc
            rfl
          · have : a = 3 := Nat.eq_of_beq_eq_true h
            subst this
            cases hc
            rfl
    · cases h
  · intro s a j x s1 h ha
    change kwa s a j x = some s1 at h
    unfold kwa at h
    cases hb : Nat.beq a 1 || Nat.beq a 2 || Nat.beq a 4 || Nat.beq a 5 with
    | false => rw [hb] at h; cases h
    | true =>
      rw [hb] at h
      cases h
      simp only [Bool.or_eq_true] at hb
      have ha : a = 1 ∨ a = 2 ∨ a = 4 ∨ a = 5 := by
        rcases hb with ((h | h) | h) | h
        · exact Or.inl (Nat.eq_of_beq_eq_true h)
        · exact Or.inr (Or.inl (Nat.eq_of_beq_eq_true h))
        · exact Or.inr (Or.inr (Or.inl (Nat.eq_of_beq_eq_true h)))
        · exact Or.inr (Or.inr (Or.inr (Nat.eq_of_beq_eq_true h)))
      refine ⟨⟨rfl, rfl⟩, fun b hb0 => ?_, fun t nn g hc => ?_⟩
      · show kcel (s.1, updA s.2 a j x) b = kcel s b
        unfold kcel
        have e1 : a ≠ 1 → updA s.2 a j x 1 = s.2 1 := fun z => updA_ne (fun y => z y.symm)
        have e2 : a ≠ 2 → updA s.2 a j x 2 = s.2 2 := fun z => updA_ne (fun y => z y.symm)
        have e4 : a ≠ 4 → updA s.2 a j x 4 = s.2 4 := fun z => updA_ne (fun y => z y.symm)
        have e5 : a ≠ 5 → updA s.2 a j x 5 = s.2 5 := fun z => updA_ne (fun y => z y.symm)
        have n : ∀ q, b = q ∨ Nat.beq b q = false := fun q => by
          cases h : Nat.beq b q with
          | true => exact Or.inl (Nat.eq_of_beq_eq_true h)
          | false => exact Or.inr rfl
        dsimp only
        rcases ha with rfl | rfl | rfl | rfl
        · rw [e2 (by decide), e4 (by decide), e5 (by decide), (n 1).resolve_left hb0]; rfl
        · rw [e1 (by decide), e4 (by decide), e5 (by decide), (n 2).resolve_left hb0]; rfl
        · rw [e1 (by decide), e2 (by decide), e5 (by decide), (n 4).resolve_left hb0]; rfl
        · rw [e1 (by decide), e2 (by decide), e4 (by decide), (n 5).resolve_left hb0]; rfl
      · rcases ha with rfl | rfl | rfl | rfl <;> (cases hc; rfl)
/-- the items of a kernel, rising -/
def zen (k : Nat → Int32) (m : Nat) (it : Nat → Nat) : Prop := (∀ a b, a < b → b < m → it a < it b) ∧ (∀ a, a < m → it a < 102 ∧ k (it a) ≠ 0) ∧ ∀ i, i < 102 → k i ≠ 0 → ∃ a, a < m ∧ it a = i
def KP (k : Nat → Int32) (m : Nat) (it : Nat → Nat) (a : Nat) (s : ZSK) : Prop := zen k m it ∧ m ≤ 81 ∧ s.1 a = nI m ∧ ∀ b, b < m → s.2 (a + 1) b = nI (it b) ∧ s.2 (a + 2) b = k (it b)
/-- the same core -/
def zco (k k' : Nat → Int32) : Prop := ∀ i, i < 102 → (k i = 0 ↔ k' i = 0)
theorem zen_inj {k : Nat → Int32} {m : Nat} {it : Nat → Nat} (h : zen k m it) {a b : Nat} (ha : a < m) (hb : b < m) (e : it a = it b) : a = b := by
  rcases Nat.lt_trichotomy a b with z | z | z
  · have := h.1 a b z hb; omega
  · exact z
  · have := h.1 b a z ha; omega
theorem zen_le {k : Nat → Int32} {m : Nat} {it : Nat → Nat} (h : zen k m it) {a b : Nat} (hab : a ≤ b) (hb : b < m) : it a ≤ it b := by
  rcases Nat.lt_or_ge a b with z | z
  · exact Nat.le_of_lt (h.1 a b z hb)
  · have : a = b := by omega
    rw [this]; exact Nat.le_refl _
theorem zen_co {k k' : Nat → Int32} {m m' : Nat} {it it' : Nat → Nat} (h : zen k m it) (h' : zen k' m' it') (hc : zco k k') : m = m' ∧ ∀ a, a < m → it a = it' a := by
  have key : ∀ j, j < m → j < m' → it j = it' j := by
    intro j
    induction j using Nat.strongRecOn with
    | ind j ih =>
      intro hj hj'
      obtain ⟨a1, a2⟩ := h.2.1 j hj
      obtain ⟨b1', b2⟩ := h'.2.1 j hj'
      obtain ⟨c, hc1, hc2⟩ := h'.2.2 (it j) a1 (fun z => a2 ((hc _ a1).mpr z))
      obtain ⟨d, hd1, hd2⟩ := h.2.2 (it' j) b1' (fun z => b2 ((hc _ b1').mp z))
      have hcj : j ≤ c := by
        apply Nat.le_of_not_lt
        intro z
        have e := ih c z (by omega) hc1
        rw [hc2] at e
        have := zen_inj h (by omega) hj e
        omega
      have hdj : j ≤ d := by
        apply Nat.le_of_not_lt
        intro z
        have e := ih d z hd1 (by omega)
        rw [hd2] at e
        have := zen_inj h' hj' (by omega) e
        omega
      have l1 := zen_le h' hcj hc1
      have l2 := zen_le h hdj hd1
      omega
  have hm : m = m' := by
    rcases Nat.lt_trichotomy m m' with z | z | z
    · exfalso
      obtain ⟨b1', b2⟩ := h'.2.1 m z
      obtain ⟨d, hd1, hd2⟩ := h.2.2 (it' m) b1' (fun y => b2 ((hc _ b1').mp y))
      have e := key d hd1 (by omega)
      rw [hd2] at e
      have := zen_inj h' z (by omega) e
      omega
    · exact z
    · exfalso
      obtain ⟨a1, a2⟩ := h.2.1 m' z
      obtain ⟨d, hd1, hd2⟩ := h'.2.2 (it m') a1 (fun y => a2 ((hc _ a1).mpr y))
      have e := key d (by omega) hd1
      rw [hd2] at e
      have := zen_inj h (by omega) z e
      omega
  exact ⟨hm, fun a ha => key a ha (by omega)⟩
/-- two lists that tell the same items are of one core -/
theorem zen_eq {k k' : Nat → Int32} {m : Nat} {it it' : Nat → Nat} (h : zen k m it) (h' : zen k' m it') (e : ∀ a, a < m → it a = it' a) : zco k k' := by
  intro i hi
  refine ⟨fun z => Classical.byContradiction fun y => ?_, fun z => Classical.byContradiction fun y => ?_⟩
  · obtain ⟨a, ha, hai⟩ := h'.2.2 i hi y
    rw [← e a ha] at hai
    exact (h.2.1 a ha).2 (by rw [hai]; exact z)
  · obtain ⟨a, ha, hai⟩ := h.2.2 i hi y
    rw [e a ha] at hai
    exact (h'.2.1 a ha).2 (by rw [hai]; exact z)
/-- an item more -/
theorem zen_up {k : Nat → Int32} {m : Nat} {it : Nat → Nat} (h : zen k m it) {i : Nat} {x : Int32} (hi : i < 102) (hl : ∀ j, j < 102 → k j ≠ 0 → j < i) (hx : x ≠ 0) : zen (upd k i x) (m + 1) (updN it m i) := by
  refine ⟨fun a b hab hb => ?_, fun a ha => ?_, fun j hj hk => ?_⟩
  · by_cases z : b = m
    · subst z
      rw [updN_at, updN_ne (by omega)]
      obtain ⟨h1, h2⟩ := h.2.1 a hab
      exact hl _ h1 h2
    · rw [updN_ne (by omega), updN_ne z]
      exact h.1 a b hab (by omega)
  · by_cases z : a = m
    · subst z; rw [updN_at, upd_at]; exact ⟨hi, hx⟩
    · rw [updN_ne z]
      obtain ⟨h1, h2⟩ := h.2.1 a (by omega)
      have := hl _ h1 h2
      rw [upd_ne (by omega)]
      exact ⟨h1, h2⟩
  · by_cases z : j = i
    · subst z; exact ⟨m, by omega, updN_at⟩
    · rw [upd_ne z] at hk
      obtain ⟨a, ha, e⟩ := h.2.2 j hj hk
      exact ⟨a, by omega, by rw [updN_ne (by omega)]; exact e⟩
theorem k_put {s : ZSK} {k : Nat → Int32} {m : Nat} {it : Nat → Nat} (h : KP k m it 0 s) (hm : m < 81) {i : Nat} {x : Int32} (hi : i < 102) (hl : ∀ j, j < 102 → k j ≠ 0 → j < i) (hx : x ≠ 0) : EvQ ZK mX7_put [.ref 0, .int (nI i), .int x] s (fun r t => r = none ∧ KP (upd k i x) (m + 1) (updN it m i) 0 t ∧ t.1 3 = s.1 3 ∧ t.2 4 = s.2 4 ∧ t.2 5 = s.2 5) := by
  obtain ⟨h1, h2, h3, h4⟩ := h
  have hmc : (nI m).toNatClampNeg = m := nI_clamp (by omega)
  have hin : vp_in (nI m) 81 := nI_in (by omega) (by omega)
  refine EQ_V vX7_put rfl ?_
  refine RQ_n ZK_ok 3 rfl trivial ?_
  refine RQ_b rfl (fun q => absurd ((zq_le (a := 81) rfl h3 (by omega) (by omega)).mp q) (by omega)) (fun _ => ?_)
  refine RQ_n ZK_ok 18 rfl ⟨by rw [h3]; exact hin, by show vp_in (s.1 0) 81; rw [h3]; exact hin, trivial⟩ ?_
  refine RQ_to (Rn_vret rfl rfl) ⟨rfl, ⟨zen_up h1 hi hl hx, by omega, ?_, fun b hb => ?_⟩, rfl, rfl, rfl⟩
  · show s.1 0 + 1 = nI (m + 1)
    rw [h3, nI_1]
  · show upd (s.2 1) (s.1 0).toNatClampNeg (nI i) b = nI (updN it m i b) ∧ upd (s.2 2) (s.1 0).toNatClampNeg x b = upd k i x (updN it m i b)
    rw [h3, hmc]
    by_cases z : b = m
    · subst z; rw [upd_at, upd_at, updN_at, upd_at]; exact ⟨rfl, rfl⟩
    · rw [upd_ne z, upd_ne z, updN_ne z]
      obtain ⟨h5, h6⟩ := h1.2.1 b (by omega)
      have := hl _ h5 h6
      rw [upd_ne (by omega)]
      exact h4 b (by omega)
theorem k_copy {s : ZSK} {k : Nat → Int32} {m : Nat} {it : Nat → Nat} (h : KP k m it 3 s) : EvQ ZK mX7_copy [.ref 0, .ref 3] s (fun r t => r = none ∧ KP k m it 0 t ∧ t.1 3 = s.1 3 ∧ t.2 4 = s.2 4 ∧ t.2 5 = s.2 5) := by
  obtain ⟨h1, h2, h3, h4⟩ := h
  refine EQ_V vX7_copy rfl ?_
  refine RQ_n ZK_ok 12 rfl trivial ?_
  refine RQ_copy (s' := (updS s.1 0 (s.1 3), setA s.2 1 (va_cpy (s.2 4) (s.2 1) 0 0 m))) (i := 0) (j := 0) (n := m) (n0 := 81) (n1 := 81) (f := s.2 4) (g := s.2 1) rfl k7_22 rfl rfl rfl h3 rfl rfl (by show 4 < 6; omega) (by show 1 < 6; omega) (by omega) (by omega) ⟨by omega, by omega⟩ ⟨⟨rfl, rfl⟩, fun b hb => ?_, rfl⟩ ?_
  · show kcel _ b = kcel _ b
    unfold kcel
    dsimp only
    have n1 : Nat.beq b 1 = false := by
      cases h : Nat.beq b 1 with
      | true => exact absurd (Nat.eq_of_beq_eq_true h) hb
      | false => rfl
    rw [n1]
    rfl
  refine RQ_n ZK_ok 8 rfl trivial ?_
  refine RQ_copy (s' := (updS s.1 0 (s.1 3), setA (setA s.2 1 (va_cpy (s.2 4) (s.2 1) 0 0 m)) 2 (va_cpy (s.2 5) (s.2 2) 0 0 m))) (i := 0) (j := 0) (n := m) (n0 := 81) (n1 := 81) (f := s.2 5) (g := s.2 2) rfl k7_22 rfl rfl rfl h3 rfl rfl (by show 5 < 6; omega) (by show 2 < 6; omega) (by omega) (by omega) ⟨by omega, by omega⟩ ⟨⟨rfl, rfl⟩, fun b hb => ?_, rfl⟩ ?_
  · show kcel _ b = kcel _ b
    unfold kcel
    dsimp only
    have n1 : Nat.beq b 2 = false := by
      cases h : Nat.beq b 2 with
      | true => exact absurd (Nat.eq_of_beq_eq_true h) hb
      | false => rfl
    rw [n1]
    rfl
  refine RQ_to (Rn_vret rfl rfl) ⟨rfl, ⟨h1, h2, h3, fun b hb => ?_⟩, rfl, rfl, rfl⟩
  show va_cpy (s.2 4) (s.2 1) 0 0 m b = _ ∧ va_cpy (s.2 5) (s.2 2) 0 0 m b = _
  unfold va_cpy
  rw [if_pos ⟨by omega, by omega⟩, if_pos ⟨by omega, by omega⟩, Nat.zero_add, Nat.sub_zero]
  exact h4 b hb
theorem k_hasCoreOf {s : ZSK} {k k' : Nat → Int32} {m m' : Nat} {it it' : Nat → Nat} (h : KP k m it 0 s) (h' : KP k' m' it' 3 s) : Ev ZK mX7_hasCoreOf [.ref 0, .ref 3] s (some (.int (bI (zcB (zco k k'))))) s := by
  obtain ⟨h1, h2, h3, h4⟩ := h
  obtain ⟨g1, g2, g3, g4⟩ := h'
  refine EQ_ev (EQ_V vX7_hasCoreOf rfl ?_)
  refine RQ_n ZK_ok 4 rfl trivial ?_
  have no : ¬ zco k k' → ∀ o, RnQ ZK mX7_hasCoreOf (19, [some (.ref 0), some (.ref 3), some (.int 0), some (.int o)], [], s) (fun r u => r = some (.int (bI (zcB (zco k k')))) ∧ u = s) := by
    intro hn o
    refine RQ_n ZK_ok 1 rfl trivial ?_
    refine RQ_b rfl (fun _ => ?_) (fun q => absurd rfl q)
    refine RQ_n ZK_ok 1 rfl trivial ?_
    exact RQ_to (Rn_zret rfl rfl (Or.inl rfl)) ⟨by rw [zcB_f hn]; rfl, rfl⟩
  refine RQ_b rfl (fun q => ?_) (fun q => ?_)
  · have q := (not_congr (zq_eq h3 g3 (by omega) (by omega))).mp q
    refine RQ_n ZK_ok 4 rfl trivial ?_
    exact no (fun z => q (zen_co h1 g1 z).1) _
  have q := (zq_eq h3 g3 (by omega) (by omega)).mp (Classical.not_not.mp q)
  subst q
  refine RQ_n ZK_ok 5 rfl trivial ?_
  refine loopU m (fun i (_ : Unit) => [some (.ref 0), some (.ref 3), some (.int 1), some (.int (nI i))]) (fun i _ u => u = s ∧ ∀ a, a < i → it a = it' a) ?_ 0 () s (by omega) ⟨rfl, fun a ha => by omega⟩
  intro i _ u hi hJ ih
  obtain ⟨rfl, he⟩ := hJ
  refine RQ_n ZK_ok 1 rfl trivial ?_
  refine RQ_b rfl (fun z => absurd z (by show ¬ ((1 : Int32) = 0); decide)) (fun _ => ?_)
  refine RQ_n ZK_ok 3 rfl trivial ?_
  refine RQ_b rfl (fun q => ?_) (fun q => ?_)
  · have q := (zq_le h3 rfl (by omega) (by omega)).mp q
    have : i = m := by omega
    subst this
    refine RQ_n ZK_ok 1 rfl trivial ?_
    exact RQ_to (Rn_zret rfl rfl (Or.inr rfl)) ⟨by rw [zcB_t (zen_eq h1 g1 he)]; rfl, rfl⟩
  have q := (not_congr (zq_le h3 rfl (by omega) (by omega))).mp q
  have hi2 : i < m := by omega
  have hin : vp_in (nI i) 81 := nI_in (by omega) (by omega)
  have hic : (nI i).toNatClampNeg = i := nI_clamp (by omega)
  have e1 : u.2 1 (nI i).toNatClampNeg = nI (it i) := by rw [hic]; exact (h4 i hi2).1
  have e2 : u.2 4 (nI i).toNatClampNeg = nI (it' i) := by rw [hic]; exact (g4 i hi2).1
  have b1' := (h1.2.1 i hi2).1
  have b2 := (g1.2.1 i hi2).1
  refine RQ_n ZK_ok 8 rfl ⟨hin, hin, trivial⟩ ?_
  refine RQ_b rfl (fun q2 => ?_) (fun q2 => ?_)
  · have q2 := (not_congr (zq_eq e1 e2 (by omega) (by omega))).mp q2
    refine RQ_n ZK_ok 4 rfl trivial ?_
    exact no (fun z => q2 ((zen_co h1 g1 z).2 i hi2)) _
  · have q2 := (zq_eq e1 e2 (by omega) (by omega)).mp (Classical.not_not.mp q2)
    refine RQ_n ZK_ok 5 rfl trivial ?_
    refine ih hi2 () _ _ ⟨rfl, rfl, rfl, nIs i, trivial⟩ ⟨rfl, fun a ha => ?_⟩
    by_cases y : a = i
    · subst y; exact q2
    · exact he a (by omega)
theorem k_hasLooksOf {s : ZSK} {k k' : Nat → Int32} {m m' : Nat} {it it' : Nat → Nat} (h : KP k m it 0 s) (h' : KP k' m' it' 3 s) (hc : zco k k') : Ev ZK mX7_hasLooksOf [.ref 0, .ref 3] s (some (.int (bI (zcB (∀ i, i < 102 → k i = k' i))))) s := by
  obtain ⟨h1, h2, h3, h4⟩ := h
  obtain ⟨g1, g2, g3, g4⟩ := h'
  obtain ⟨rfl, hit⟩ := zen_co h1 g1 hc
  refine EQ_ev (EQ_V vX7_hasLooksOf rfl ?_)
  refine RQ_n ZK_ok 4 rfl trivial ?_
  refine loopU m (fun i (_ : Unit) => [some (.ref 0), some (.ref 3), some (.int 1), some (.int (nI i))]) (fun i _ u => u = s ∧ ∀ a, a < i → k (it a) = k' (it a)) ?_ 0 () s (by omega) ⟨rfl, fun a ha => by omega⟩
  intro i _ u hi hJ ih
  obtain ⟨rfl, he⟩ := hJ
  refine RQ_n ZK_ok 1 rfl trivial ?_
  refine RQ_b rfl (fun z => absurd z (by show ¬ ((1 : Int32) = 0); decide)) (fun _ => ?_)
  refine RQ_n ZK_ok 3 rfl trivial ?_
  refine RQ_b rfl (fun q => ?_) (fun q => ?_)
  · have q := (zq_le h3 rfl (by omega) (by omega)).mp q
    have : i = m := by omega
    subst this
    refine RQ_n ZK_ok 1 rfl trivial ?_
    refine RQ_to (Rn_zret rfl rfl (Or.inr rfl)) ⟨?_, rfl⟩
    rw [zcB_t (fun j hj => ?_)]; rfl
    by_cases z : k j = 0
    · rw [z, (hc j hj).mp z]
    · obtain ⟨a, ha, e⟩ := h1.2.2 j hj z
      rw [← e]; exact he a ha
  have q := (not_congr (zq_le h3 rfl (by omega) (by omega))).mp q
  have hi2 : i < m := by omega
  have hin : vp_in (nI i) 81 := nI_in (by omega) (by omega)
  have hic : (nI i).toNatClampNeg = i := nI_clamp (by omega)
  have e1 : u.2 2 (nI i).toNatClampNeg = k (it i) := by rw [hic]; exact (h4 i hi2).2
  have e2 : u.2 5 (nI i).toNatClampNeg = k' (it i) := by rw [hic, hit i hi2]; exact (g4 i hi2).2
  refine RQ_n ZK_ok 8 rfl ⟨hin, hin, trivial⟩ ?_
  rw [e1, e2]
  refine RQ_b rfl (fun q2 => ?_) (fun q2 => ?_)
  · have q2 : ¬ k (it i) = k' (it i) := q2
    refine RQ_n ZK_ok 4 rfl trivial ?_
    refine RQ_n ZK_ok 1 rfl trivial ?_
    refine RQ_b rfl (fun _ => ?_) (fun z => absurd rfl z)
    refine RQ_n ZK_ok 1 rfl trivial ?_
    exact RQ_to (Rn_zret rfl rfl (Or.inl rfl)) ⟨by rw [zcB_f (fun z => q2 (z _ (h1.2.1 i hi2).1))]; rfl, rfl⟩
  · have q2 : k (it i) = k' (it i) := Classical.not_not.mp q2
    refine RQ_n ZK_ok 5 rfl trivial ?_
    refine ih hi2 () _ _ ⟨rfl, rfl, rfl, nIs i, trivial⟩ ⟨rfl, fun a ha => ?_⟩
    by_cases y : a = i
    · subst y; exact q2
    · exact he a (by omega)
theorem k_lookOf {s : ZSK} {k : Nat → Int32} {m : Nat} {it : Nat → Nat} (h : KP k m it 0 s) {i : Nat} (hi : i < 102) : Ev ZK mX7_lookOf [.ref 0, .int (nI i)] s (some (.int (k i))) s := by
  obtain ⟨h1, h2, h3, h4⟩ := h
  refine EQ_ev (EQ_V vX7_lookOf rfl ?_)
  refine RQ_n ZK_ok 2 rfl trivial ?_
  refine loopU m (fun a (_ : Unit) => [some (.ref 0), some (.int (nI i)), some (.int (nI a))]) (fun a _ u => u = s ∧ ∀ b, b < a → it b ≠ i) ?_ 0 () s (by omega) ⟨rfl, fun b hb => by omega⟩
  intro a _ u ha hJ ih
  obtain ⟨rfl, he⟩ := hJ
  refine RQ_n ZK_ok 3 rfl trivial ?_
  refine RQ_b rfl (fun q => ?_) (fun q => ?_)
  · have q := (zq_le h3 rfl (by omega) (by omega)).mp q
    refine RQ_n ZK_ok 1 rfl trivial ?_
    refine RQ_to (Rn_iret rfl rfl) ⟨?_, rfl⟩
    have : k i = 0 := Classical.byContradiction fun z => by
      obtain ⟨b, hb, e⟩ := h1.2.2 i hi z
      exact he b (by omega) e
    rw [this]
  have q := (not_congr (zq_le h3 rfl (by omega) (by omega))).mp q
  have ha2 : a < m := by omega
  have hin : vp_in (nI a) 81 := nI_in (by omega) (by omega)
  have hac : (nI a).toNatClampNeg = a := nI_clamp (by omega)
  have e1 : u.2 1 (nI a).toNatClampNeg = nI (it a) := by rw [hac]; exact (h4 a ha2).1
  have b1' := (h1.2.1 a ha2).1
  refine RQ_n ZK_ok 5 rfl ⟨hin, trivial⟩ ?_
  refine RQ_b rfl (fun q2 => ?_) (fun q2 => ?_)
  · have q2 := (not_congr (zq_eq e1 rfl (by omega) (by omega))).mp q2
    refine RQ_n ZK_ok 2 rfl trivial ?_
    refine ih ha2 () _ _ ⟨rfl, rfl, nIs a, trivial⟩ ⟨rfl, fun b hb => ?_⟩
    by_cases y : b = a
    · subst y; exact q2
    · exact he b (by omega)
  · have q2 := (zq_eq e1 rfl (by omega) (by omega)).mp (Classical.not_not.mp q2)
    refine RQ_n ZK_ok 4 rfl ⟨hin, trivial⟩ ?_
    refine RQ_to (Rn_iret rfl rfl) ⟨?_, rfl⟩
    rw [hac, (h4 a ha2).2, q2]
