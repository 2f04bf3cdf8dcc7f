/-! Kernels: isCompatible, join; any two kernels of the class. -/
/-- weakly compatible: at two items -/
def zwp (k k' : Nat → Int32) (i j : Nat) : Prop := ((k i &&& k' j) = 0 ∧ (k j &&& k' i) = 0) ∨ (k i &&& k j) ≠ 0 ∨ (k' i &&& k' j) ≠ 0
def zwk (k k' : Nat → Int32) : Prop := ∀ i, i < 102 → ∀ j, j < i → k' i ≠ 0 → k' j ≠ 0 → zwp k k' i j
theorem and_cm (x y : Int32) : x &&& y = y &&& x := b_ext fun i _ => by rw [b_and, b_and, Bool.and_comm]
theorem zwp_cm {k k' : Nat → Int32} {i j : Nat} : zwp k k' i j ↔ zwp k k' j i := by
  unfold zwp
  rw [and_cm (k j) (k i), and_cm (k' j) (k' i)]
  exact ⟨fun h => by rcases h with h | h; exact Or.inl ⟨h.2, h.1⟩; exact Or.inr h, fun h => by rcases h with h | h; exact Or.inl ⟨h.2, h.1⟩; exact Or.inr h⟩
set_option maxHeartbeats 1000000 in
theorem k_isCompatible {s : ZSK} {k k' : Nat → Int32} {m m' : Nat} {it it' : Nat → Nat} (h : KP k m it 0 s) (h' : KP k' m' it' 3 s) (hc : zco k k') : Ev ZK mX7_isCompatible [.ref 0, .ref 3] s (some (.int (bI (zcB (zwk k k'))))) s := by
  obtain ⟨h1, h2, h3, h4⟩ := h
  obtain ⟨g1, g2, g3, g4⟩ := h'
  obtain ⟨rfl, hit⟩ := zen_co h1 g1 hc
  have v1 : ∀ a, a < m → s.2 2 (nI a).toNatClampNeg = k (it a) := fun a ha => by rw [nI_clamp (by omega)]; exact (h4 a ha).2
  have v2 : ∀ a, a < m → s.2 5 (nI a).toNatClampNeg = k' (it a) := fun a ha => by rw [nI_clamp (by omega), hit a ha]; exact (g4 a ha).2
  refine EQ_ev (EQ_V vX7_isCompatible rfl ?_)
  refine RQ_n ZK_ok 2 rfl trivial ?_
  refine loopU m (fun i (_ : Unit) => [some (.ref 0), some (.ref 3), some (.int (nI i)), none, none]) (fun i _ u => u = s ∧ ∀ a b, a < i → a < b → b < m → zwp k k' (it a) (it b)) ?_ 0 () s (by omega) ⟨rfl, fun a b ha => by omega⟩
  intro i _ u hi hJ ih
  obtain ⟨rfl, he⟩ := hJ
  refine RQ_n ZK_ok 3 rfl trivial ?_
  refine RQ_b rfl (fun q => ?_) (fun q => ?_)
  · have q := (zq_le h3 rfl (by omega) (by omega)).mp q
    refine RQ_n ZK_ok 1 rfl trivial ?_
    have hw : zwk k k' := by
      intro x hx y hy hkx hky
      have hkx2 : k x ≠ 0 := fun z => hkx ((hc x hx).mp z)
      have hky2 : k y ≠ 0 := fun z => hky ((hc y (by omega)).mp z)
      obtain ⟨a, ha, ea⟩ := h1.2.2 x hx hkx2
      obtain ⟨b, hb, eb⟩ := h1.2.2 y (by omega) hky2
      have hba : b < a := by
        apply Nat.lt_of_not_le
        intro z
        have := zen_le h1 z hb
        omega
      rw [← ea, ← eb]
      exact zwp_cm.mp (he b a (by omega) hba ha)
    exact RQ_to (Rn_zret rfl rfl (Or.inr rfl)) ⟨by rw [zcB_t hw]; rfl, rfl⟩
  have q := (not_congr (zq_le h3 rfl (by omega) (by omega))).mp q
  have hi2 : i < m := by omega
  refine RQ_n ZK_ok 4 rfl trivial ?_
  rw [nI_1]
  have key := loopU (Z := ZK) (M := mX7_isCompatible) (pc := 14) (Q := fun r v => r = some (.int (bI (zcB (zwk k k')))) ∧ v = u) (m - (i + 1)) (fun d (_ : Unit) => [some (.ref 0), some (.ref 3), some (.int (nI i)), some (.int (nI (i + 1 + d))), none]) (fun d _ v => v = u ∧ ∀ b, i < b → b < i + 1 + d → zwp k k' (it i) (it b)) ?_ 0 () u (by omega) ⟨rfl, fun b h1 h2 => by omega⟩
  · exact key
  intro d _ v hd hJ2 ih2
  obtain ⟨rfl, he2⟩ := hJ2
  refine RQ_n ZK_ok 3 rfl trivial ?_
  refine RQ_b rfl (fun q2 => ?_) (fun q2 => ?_)
  · have q2 := (zq_le h3 rfl (by omega) (by omega)).mp q2
    refine RQ_n ZK_ok 2 rfl trivial ?_
    refine ih hi2 () _ _ ⟨rfl, rfl, nIs i, trivial⟩ ⟨rfl, fun a b ha hab hb => ?_⟩
    by_cases y : a = i
    · subst y; exact he2 b hab (by omega)
    · exact he a b (by omega) hab hb
  have q2 := (not_congr (zq_le h3 rfl (by omega) (by omega))).mp q2
  obtain ⟨j, hj⟩ : ∃ j, j = i + 1 + d := ⟨_, rfl⟩
  rw [← hj] at he2 q2 ⊢
  have hj2 : j < m := by omega
  have hini : vp_in (nI i) 81 := nI_in (by omega) (by omega)
  have hinj : vp_in (nI j) 81 := nI_in (by omega) (by omega)
  -- on to the next pair
  have next : zwp k k' (it i) (it j) → ∀ o, RnQ ZK mX7_isCompatible (100, [some (.ref 0), some (.ref 3), some (.int (nI i)), some (.int (nI j)), o], [], v) (fun r w => r = some (.int (bI (zcB (zwk k k')))) ∧ w = v) := by
    intro hw o
    refine RQ_n ZK_ok 2 rfl trivial ?_
    refine ih2 (by omega) () _ _ ⟨rfl, rfl, rfl, ?_, trivial⟩ ⟨rfl, fun b h1 h2 => ?_⟩
    · show Value.int (nI (i + 1 + (d + 1))) = Value.int (nI j + 1)
      rw [nI_1, hj]; rfl
    · by_cases y : b = j
      · subst y; exact hw
      · exact he2 b h1 (by omega)
  have tail : ((k (it i) &&& k' (it j)) ≠ 0 ∨ (k (it j) &&& k' (it i)) ≠ 0) → RnQ ZK mX7_isCompatible (54, [some (.ref 0), some (.ref 3), some (.int (nI i)), some (.int (nI j)), none], [], v) (fun r w => r = some (.int (bI (zcB (zwk k k')))) ∧ w = v) := by
    intro hcr
    refine RQ_n ZK_ok 4 rfl trivial ?_
    refine RQ_b rfl (fun z => absurd z (by show ¬ ((1 : Int32) = 0); decide)) (fun _ => ?_)
    refine RQ_n ZK_ok 9 rfl ⟨hini, hinj, trivial⟩ ?_
    rw [v1 i hi2, v1 j hj2]
    refine RQ_b rfl (fun q5 => next (Or.inr (Or.inl q5)) _) (fun q5 => ?_)
    have q5 : (k (it i) &&& k (it j)) = 0 := Classical.not_not.mp q5
    refine RQ_n ZK_ok 9 rfl ⟨hini, hinj, trivial⟩ ?_
    rw [v2 i hi2, v2 j hj2]
    refine RQ_b rfl (fun q6 => next (Or.inr (Or.inr q6)) _) (fun q6 => ?_)
    have q6 : (k' (it i) &&& k' (it j)) = 0 := Classical.not_not.mp q6
    refine RQ_n ZK_ok 1 rfl trivial ?_
    refine RQ_to (Rn_zret rfl rfl (Or.inl rfl)) ⟨?_, rfl⟩
    rw [zcB_f (fun z => ?_)]; rfl
    obtain ⟨a1, a2⟩ := h1.2.1 i hi2
    obtain ⟨b1', b2⟩ := h1.2.1 j hj2
    have hlt := h1.1 i j (by omega) hj2
    have hz := zwp_cm.mp (z (it j) b1' (it i) hlt (fun y => b2 ((hc _ b1').mpr y)) (fun y => a2 ((hc _ a1).mpr y)))
    rcases hz with y | y | y
    · rcases hcr with w | w
      · exact w y.1
      · exact w y.2
    · exact y q5
    · exact y q6
  refine RQ_n ZK_ok 9 rfl ⟨hini, hinj, trivial⟩ ?_
  rw [v1 i hi2, v2 j hj2]
  refine RQ_b rfl (fun q3 => tail (Or.inl q3)) (fun q3 => ?_)
  have q3 : (k (it i) &&& k' (it j)) = 0 := Classical.not_not.mp q3
  refine RQ_n ZK_ok 9 rfl ⟨hinj, hini, trivial⟩ ?_
  rw [v1 j hj2, v2 i hi2]
  refine RQ_b rfl (fun q4 => ?_) (fun q4 => tail (Or.inr q4))
  have q4 : (k (it j) &&& k' (it i)) = 0 := q4
  refine RQ_n ZK_ok 3 rfl trivial ?_
  refine RQ_b rfl (fun _ => next (Or.inl ⟨q3, q4⟩) _) (fun z => absurd rfl z)
set_option maxHeartbeats 1000000 in
theorem k_join {s : ZSK} {k k' : Nat → Int32} {m m' : Nat} {it it' : Nat → Nat} (h : KP k m it 0 s) (h' : KP k' m' it' 3 s) (hc : zco k k') : EvQ ZK mX7_join [.ref 0, .ref 3] s (fun r t => r = some (.int (bI (zcB (∃ i, i < 102 ∧ k i ||| k' i ≠ k i)))) ∧ KP (fun i => k i ||| k' i) m it 0 t ∧ t.1 3 = s.1 3 ∧ t.2 4 = s.2 4 ∧ t.2 5 = s.2 5) := by
  obtain ⟨h1, h2, h3, h4⟩ := h
  obtain ⟨g1, g2, g3, g4⟩ := h'
  obtain ⟨rfl, hit⟩ := zen_co h1 g1 hc
  have hz : zen (fun i => k i ||| k' i) m it := by
    have h0 : ∀ i, i < 102 → ((k i ||| k' i) = 0 ↔ k i = 0) := by
      intro i hi
      refine ⟨fun z => ?_, fun z => by rw [z, (hc i hi).mp z]; decide⟩
      refine bsub_an ?_ bsub_0
      rw [← z]; exact bsub_l
    refine ⟨h1.1, fun a ha => ⟨(h1.2.1 a ha).1, fun z => (h1.2.1 a ha).2 ((h0 _ (h1.2.1 a ha).1).mp z)⟩, fun i hi hne => h1.2.2 i hi (fun z => hne ((h0 i hi).mpr z))⟩
  refine EQ_V vX7_join rfl ?_
  refine RQ_n ZK_ok 4 rfl trivial ?_
  refine loopU m (fun i (x : Bool) => [some (.ref 0), some (.ref 3), some (.int (bI x)), some (.int (nI i)), none]) (fun i x t => t.1 = s.1 ∧ (t.2 1 = s.2 1 ∧ t.2 4 = s.2 4 ∧ t.2 5 = s.2 5) ∧ (∀ b, b < m → t.2 2 b = if b < i then k (it b) ||| k' (it b) else k (it b)) ∧ (x = true ↔ ∃ b, b < i ∧ k (it b) ||| k' (it b) ≠ k (it b))) ?_ 0 false s (by omega) ⟨rfl, ⟨rfl, rfl, rfl⟩, fun b hb => (by rw [if_neg (by omega)]; exact (h4 b hb).2), ⟨fun z => (by cases z), fun z => (by obtain ⟨b, hb, -⟩ := z; omega)⟩⟩
  intro i x t hi hJ ih
  obtain ⟨c1, ⟨c2, c3, c4⟩, c5, c6⟩ := hJ
  have t0 : t.1 0 = nI m := by rw [c1]; exact h3
  refine RQ_n ZK_ok 3 rfl trivial ?_
  refine RQ_b rfl (fun q => ?_) (fun q => ?_)
  · have q := (zq_le t0 rfl (by omega) (by omega)).mp q
    have : i = m := by omega
    subst this
    refine RQ_n ZK_ok 1 rfl trivial ?_
    refine RQ_to (Rn_zret rfl rfl (bI_01 _)) ⟨?_, ⟨hz, h2, t0, fun b hb => ⟨by rw [c2]; exact (h4 b hb).1, by rw [c5 b hb, if_pos hb]⟩⟩, by rw [c1], c3, c4⟩
    congr 3
    cases x with
    | true =>
      obtain ⟨b, hb, hne⟩ := c6.mp rfl
      exact (zcB_t ⟨it b, (h1.2.1 b hb).1, hne⟩).symm
    | false =>
      refine (zcB_f (fun z => ?_)).symm
      obtain ⟨j, hj, hne⟩ := z
      have hkj : k j ≠ 0 := fun y => hne (by rw [y, (hc j hj).mp y]; decide)
      obtain ⟨b, hb, e⟩ := h1.2.2 j hj hkj
      have := c6.mpr ⟨b, hb, by rw [e]; exact hne⟩
      cases this
  have q := (not_congr (zq_le t0 rfl (by omega) (by omega))).mp q
  have hi2 : i < m := by omega
  have hin : vp_in (nI i) 81 := nI_in (by omega) (by omega)
  have hic : (nI i).toNatClampNeg = i := nI_clamp (by omega)
  have e1 : t.2 2 (nI i).toNatClampNeg = k (it i) := by rw [hic, c5 i hi2, if_neg (by omega)]
  have e2 : t.2 5 (nI i).toNatClampNeg = k' (it i) := by rw [hic, c4, hit i hi2]; exact (g4 i hi2).2
  refine RQ_n ZK_ok 16 rfl ⟨hin, hin, hin, trivial⟩ ?_
  rw [e1, e2]
  have fin : ∀ y : Bool, (y = true ↔ k (it i) ||| k' (it i) ≠ k (it i)) → RnQ ZK mX7_join (44, [some (.ref 0), some (.ref 3), some (.int (bI x)), some (.int (nI i)), some (.int (k (it i) ||| k' (it i)))], [.int (bI y), .int (bI x)], t) (fun r t => r = some (.int (bI (zcB (∃ i, i < 102 ∧ k i ||| k' i ≠ k i)))) ∧ KP (fun i => k i ||| k' i) m it 0 t ∧ t.1 3 = s.1 3 ∧ t.2 4 = s.2 4 ∧ t.2 5 = s.2 5) := by
    intro y hy
    have hor : ∀ a b : Bool, bI a ||| bI b = bI (a || b) := by decide
    refine RQ_n ZK_ok 1 rfl trivial ?_
    rw [show (bI x ||| bI y) = bI (x || y) from hor x y]
    refine RQ_n ZK_ok 8 rfl ⟨hin, trivial⟩ ?_
    refine ih hi2 (x || y) _ _ ⟨rfl, rfl, rfl, nIs i, trivial⟩ ⟨c1, ⟨c2, c3, c4⟩, fun b hb => ?_, ?_⟩
    · show upd (t.2 2) (nI i).toNatClampNeg (k (it i) ||| k' (it i)) b = _
      rw [hic]
      by_cases z : b = i
      · subst z; rw [upd_at, if_pos (by omega)]
      · rw [upd_ne z, c5 b hb]
        by_cases w : b < i
        · rw [if_pos w, if_pos (by omega)]
        · rw [if_neg w, if_neg (by omega)]
    · rw [Bool.or_eq_true, c6, hy]
      refine ⟨fun z => ?_, fun z => ?_⟩
      · rcases z with ⟨b, hb, hne⟩ | z
        · exact ⟨b, by omega, hne⟩
        · exact ⟨i, by omega, z⟩
      · obtain ⟨b, hb, hne⟩ := z
        by_cases w : b = i
        · subst w; exact Or.inr hne
        · exact Or.inl ⟨b, by omega, hne⟩
  refine RQ_b rfl (fun q2 => ?_) (fun q2 => ?_)
  · have q2 : k (it i) ||| k' (it i) = k (it i) := q2
    refine RQ_n ZK_ok 1 rfl trivial ?_
    exact fin false ⟨fun z => (by cases z), fun z => absurd q2 z⟩
  · have q2 : ¬ (k (it i) ||| k' (it i) = k (it i)) := q2
    refine RQ_n ZK_ok 2 rfl trivial ?_
    exact fin true ⟨fun _ => q2, fun _ => rfl⟩
