/-! fault and text of the reference, in every state. -/
section TxM
variable {s : SM} {f : Nat → Int32} {n m : Nat} {ln : Nat → Nat} {yy : Nat → Nat → Nat}
theorem SnM.row {v : SM} {k : Nat} (h : SnM m ln yy s) (hk : m ≤ k) (h14 : v.1 14 = s.1 14) (h13 : ∀ j, j ≠ k → v.2.1 13 j = s.2.1 13 j) (h12 : ∀ j, (j < 24 * k ∨ 24 * k + 24 ≤ j) → v.2.1 12 j = s.2.1 12 j) : SnM m ln yy v := by
  refine ⟨h14.trans h.1, h.2.1, fun i hi => ?_⟩
  obtain ⟨a, b, c⟩ := h.2.2 i hi
  exact ⟨(h13 i (by omega)).trans a, b, fun j hj => ⟨(h12 _ (Or.inl (by omega))).trans (c j hj).1, (c j hj).2⟩⟩
theorem m_faultG (hn : s.1 2 = nI n) (hf : s.2.1 1 = f) (h2 : n ≤ 240) (hb : ∀ j, j < n → f j ≠ -1) (hS : SnM m ln yy s) (x : Int32) : EvQ ZR mX12_fault [.ref 0, .int x] s (fun r v => r = some (.int (zflt f n x)) ∧ SnM m ln yy v ∧ frM [3, 4, 8, 9, 10, 11] [5, 6, 7, 12, 13] s v) := by
  subst hf
  have h4 := hS.2.1
  refine EQ_V vX12_fault rfl ?_
  refine RQ_n ZR_ok 1 rfl trivial ?_
  unfold zflt
  by_cases h0 : x = 0
  · rw [if_pos h0]
    refine RQ_b rfl (fun z => absurd h0 z) (fun _ => ?_)
    refine RQ_n ZR_ok 1 rfl trivial ?_
    refine RQ_V vX12_readGrammar (m_readGrammar s n hn h2 hb) rfl k12_219 rfl rfl rfl rfl (fun _ _ _ => rfl) ?_
    rintro r1 v1 ⟨rfl, q1, -⟩
    refine RQ_n ZR_ok 1 rfl trivial ?_
    refine RQ_to (Rn_iret rfl rfl) ⟨rfl, ?_, q1.up (by decide) (by decide)⟩
    exact hS.row (k := 4) (by omega) (q1.1 14 (by decide)) (fun j _ => by rw [q1.2.1 13 (by decide)]) (fun j _ => by rw [q1.2.1 12 (by decide)])
  rw [if_neg h0]
  refine RQ_b rfl (fun _ => ?_) (fun z => absurd h0 z)
  refine RQ_n ZR_ok 2 rfl trivial ?_
  by_cases h1 : x = 1
  · rw [if_pos h1]
    refine RQ_b rfl (fun z => absurd h1 z) (fun _ => ?_)
    refine RQ_n ZR_ok 2 rfl trivial ?_
    refine RQ_V vX12_readSentence (m_readSentence s n 4 hn h2 (by omega) hb) rfl k12_222 rfl rfl rfl rfl (fun _ _ _ => rfl) ?_
    rintro r1 v1 ⟨rfl, q1, q2, q3, -⟩
    refine RQ_n ZR_ok 1 rfl trivial ?_
    refine RQ_to (Rn_iret rfl rfl) ⟨rfl, ?_, q1.up (by decide) (by decide)⟩
    exact hS.row (k := 4) (by omega) (q1.1 14 (by decide)) q2 q3
  · rw [if_neg h1]
    refine RQ_b rfl (fun _ => ?_) (fun z => absurd h1 z)
    refine RQ_n ZR_ok 1 rfl trivial ?_
    exact RQ_to (Rn_iret rfl rfl) ⟨rfl, hS, frM.rf⟩
def tsM (f : Nat → Int32) (n m : Nat) (ln : Nat → Nat) (yy : Nat → Nat → Nat) (ok : Bool) (s v : SM) : Prop :=
  SnM (txm ok m) (txl ok m (sL f n 0) ln) (txy ok m (sL f n 0) yy) v ∧ v.1 2 = (if ok = true then 0 else nI n) ∧ frM [2, 3, 4, 8, 9, 10, 11, 14] [5, 6, 7, 12, 13] s v
set_option maxHeartbeats 1000000 in
theorem m_textG (hn : s.1 2 = nI n) (hf : s.2.1 1 = f) (h2 : n ≤ 240) (hb : ∀ j, j < n → f j ≠ -1) (hS : SnM m ln yy s) (x : Int32) (hx : ¬ (x = 0 ∧ gF f n 0 gq0 = none)) : EvQ ZR mX12_text [.ref 0, .int x] s (fun r v => r = some (.int (if ztx f n m x = true then nI m else -1)) ∧ tsM f n m ln yy (ztx f n m x) s v) := by
  subst hf
  have h4 := hS.2.1
  refine EQ_V vX12_text rfl ?_
  have no : ∀ v, ztx (s.2.1 1) n m x = false → SnM m ln yy v → frM [3, 4, 8, 9, 10, 11] [5, 6, 7, 12, 13] s v → RnQ ZR mX12_text (69, [some (.ref 0), some (.int x)], [], v) (fun r v => r = some (.int (if ztx (s.2.1 1) n m x = true then nI m else -1)) ∧ tsM (s.2.1 1) n m ln yy (ztx (s.2.1 1) n m x) s v) := by
    intro v e h f
    rw [e]
    refine RQ_n ZR_ok 1 rfl trivial ?_
    exact RQ_to (Rn_iret rfl rfl) ⟨rfl, h, (f.1 2 (by decide)).trans hn, f.up (by decide) (by decide)⟩
  refine RQ_n ZR_ok 1 rfl trivial ?_
  by_cases h0 : x = 0
  · have hne : gF (s.2.1 1) n 0 gq0 ≠ none := fun y => hx ⟨h0, y⟩
    have e1 : ztx (s.2.1 1) n m x = false := by unfold ztx; rw [decide_eq_false (fun y => by rw [h0] at y; exact absurd y (by decide))]; rfl
    refine RQ_b rfl (fun z => absurd h0 z) (fun _ => ?_)
    refine RQ_n ZR_ok 1 rfl trivial ?_
    refine RQ_V vX12_readGrammar (m_readGrammar s n hn h2 hb) rfl k12_219 rfl rfl rfl rfl (fun _ _ _ => rfl) ?_
    rintro r1 v1 ⟨rfl, q1, -⟩
    refine RQ_n ZR_ok 1 rfl trivial ?_
    have hm1 : fI (gF (s.2.1 1) n 0 gq0) ≠ -1 := fun y => hne ((fI_m1 (fun k hk => by have := gF_le _ n 0 gq0 k hk; omega)).mp y)
    refine RQ_b rfl (fun _ => ?_) (fun z => absurd (Classical.not_not.mp z) hm1)
    refine RQ_n ZR_ok 2 rfl trivial ?_
    refine RQ_b rfl (fun _ => ?_) (fun z => absurd (show x = 1 from Classical.not_not.mp z) (fun y => by rw [h0] at y; exact absurd y (by decide)))
    exact no v1 e1 (hS.row (k := 4) (by omega) (q1.1 14 (by decide)) (fun j _ => by rw [q1.2.1 13 (by decide)]) (fun j _ => by rw [q1.2.1 12 (by decide)])) (q1.up (by decide) (by decide))
  refine RQ_b rfl (fun _ => ?_) (fun z => absurd h0 z)
  refine RQ_n ZR_ok 2 rfl trivial ?_
  by_cases h1 : x = 1
  rotate_left
  · refine RQ_b rfl (fun _ => ?_) (fun z => absurd h1 z)
    exact no s (by unfold ztx; rw [decide_eq_false h1]; rfl) hS frM.rf
  refine RQ_b rfl (fun z => absurd h1 z) (fun _ => ?_)
  refine RQ_n ZR_ok 3 rfl trivial ?_
  rw [hS.1]
  by_cases hm : m < 4
  rotate_left
  · refine RQ_b rfl (fun _ => ?_) (fun z => absurd ((zq_le (a := 4) (b := m) rfl rfl (by omega) (by omega)).mpr (by omega)) z)
    exact no s (by unfold ztx; rw [decide_eq_false hm, Bool.and_false]) hS frM.rf
  refine RQ_b rfl (fun z => ?_) (fun _ => ?_)
  · have z := (zq_le (a := 4) (b := m) rfl rfl (by omega) (by omega)).mp z
    omega
  refine RQ_n ZR_ok 3 rfl trivial ?_
  rw [hS.1]
  refine RQ_V vX12_readSentence (m_readSentence s n m hn h2 (by omega) hb) rfl k12_222 rfl rfl rfl rfl (fun _ _ _ => rfl) ?_
  rintro r1 v1 ⟨rfl, q1, q2, q3, q4⟩
  have hSv := hS.row (k := m) (Nat.le_refl _) (q1.1 14 (by decide)) q2 q3
  refine RQ_n ZR_ok 1 rfl trivial ?_
  show RnQ ZR mX12_text (44, _, [.int (-1), .int (fI (sF (s.2.1 1) n 0 0))], v1) _
  cases e : sF (s.2.1 1) n 0 0 with
  | some k =>
    have hk := sF_le _ n 0 0 k e
    refine RQ_b rfl (fun _ => ?_) (fun z => absurd (show nI k = -1 from Classical.not_not.mp z) (nI_m1 (by omega)))
    exact no v1 (by unfold ztx; rw [e, decide_eq_false (show ¬ some k = none from fun y => by cases y), Bool.and_false]; rfl) hSv (q1.up (by decide) (by decide))
  | none =>
  have et : ztx (s.2.1 1) n m x = true := by unfold ztx; rw [e, decide_eq_true h1, decide_eq_true rfl, decide_eq_true hm]; rfl
  rw [et]
  clear no
  obtain ⟨l1, l2⟩ := sL_ok _ n 0 0 (by omega) e
  obtain ⟨z1, z2, z3⟩ := q4 e
  rw [List.nil_append] at z1 z2 z3
  have e14 : v1.1 14 = nI m := (q1.1 14 (by decide)).trans hS.1
  refine RQ_b rfl (fun z => absurd rfl z) (fun _ => ?_)
  refine RQ_n ZR_ok 13 rfl trivial ?_
  refine RQ_to (Rn_iret rfl rfl) ⟨?_, ⟨?_, by show m + 1 ≤ 4; omega, fun k hk => ?_⟩, rfl, ?_⟩
  · show some (Value.int (v1.1 14 + 1 - 1)) = some (.int (nI m))
    rw [e14, nI_1, nI_pred]
  · show v1.1 14 + 1 = nI (m + 1)
    rw [e14, nI_1]
  · have hk : k < m + 1 := hk
    show v1.2.1 13 k = nI (if true = true ∧ k = m then _ else ln k) ∧ (if true = true ∧ k = m then _ else ln k) ≤ 24 ∧ ∀ j, j < (if true = true ∧ k = m then _ else ln k) → v1.2.1 12 (24 * k + j) = nI (97 + if true = true ∧ k = m then _ else yy k j) ∧ (if true = true ∧ k = m then _ else yy k j) < 26
    by_cases ek : k = m
    · rw [if_pos ⟨rfl, ek⟩]
      refine ⟨by rw [ek]; exact z1, by omega, fun j hj => ?_⟩
      obtain ⟨y1, y2, y3⟩ := zyy_ok l2 hj
      rw [if_pos ⟨rfl, ek⟩, ek]
      exact ⟨by rw [z3 j hj]; exact y2, y1⟩
    · obtain ⟨s1, s2, s3⟩ := hSv.2.2 k (by omega)
      rw [if_neg (fun y => ek y.2)]
      refine ⟨s1, s2, fun j hj => ?_⟩
      rw [if_neg (fun y => ek y.2)]
      exact s3 j hj
  · exact ((q1.up (by decide) (by decide)).tr (frM.i 2 (by decide))).tr (frM.i 14 (by decide))
/-- the reference with another grammar -/
def tgM (f : Nat → Int32) (n : Nat) (s : SM) (x : Option Value) (v : SM) : Prop :=
  x = some (.int (nI (zgR (zGD (pr f n 0 false gD0) (so f n 0 0))))) ∧ (ZGM (zGD (pr f n 0 false gD0) (so f n 0 0)) v ∧ TMc (zGD (pr f n 0 false gD0) (so f n 0 0)) (nms (pr f n 0 false gD0).2.1 (pr f n 0 false gD0).1).2 (sgs (so f n 0 0) 26).2 v) ∧ (v.1 2 = 0 ∧ v.1 23 = 0 ∧ v.1 24 = 0 ∧ v.1 37 = 0 ∧ v.1 77 = 0 ∧ v.1 29 = 0) ∧ (v.2.1 30 0 = 0 ∧ v.2.1 30 1 = 0 ∧ v.2.1 30 2 = 0) ∧ frM [2, 3, 4, 8, 9, 10, 11, 15, 16, 17, 23, 24, 37, 77, 29] [5, 6, 7, 18, 19, 20, 21, 22, 30] s v
theorem gA.fr {D : pD} {u v : SM} (h : gA D u) (h1 : v.1 8 = u.1 8) (h2 : v.2.1 = u.2.1) : gA D v := by
  unfold gA at h ⊢
  rw [h1, h2]; exact h
theorem m_textGr (hn : s.1 2 = nI n) (hf : s.2.1 1 = f) (h2 : n ≤ 240) (hb : ∀ j, j < n → f j ≠ -1) (hF : gF f n 0 gq0 = none) : EvQ ZR mX12_text [.ref 0, .int 0] s (tgM f n s) := by
  subst hf
  obtain ⟨r, l, nm, hC⟩ := tape_ok hF
  obtain ⟨b1, b2, b3, b4, b5, b6⟩ := gC_b hC
  refine EQ_V vX12_text rfl ?_
  refine RQ_n ZR_ok 1 rfl trivial ?_
  refine RQ_b rfl (fun z => absurd rfl z) (fun _ => ?_)
  refine RQ_n ZR_ok 1 rfl trivial ?_
  refine RQ_V vX12_readGrammar (m_readGrammar s n hn h2 hb) rfl k12_219 rfl rfl rfl rfl (fun _ _ _ => rfl) ?_
  rintro r1 v1 ⟨rfl, q1, q2⟩
  obtain ⟨g1, g2⟩ := q2 hF
  rw [hF]
  refine RQ_n ZR_ok 1 rfl trivial ?_
  refine RQ_b rfl (fun z => absurd rfl z) (fun _ => ?_)
  refine RQ_n ZR_ok 4 rfl trivial ?_
  obtain ⟨v2, hv2⟩ : ∃ w : SM, w = (updS v1.1 2 0, v1.2) := ⟨_, rfl⟩
  show RnQ ZR mX12_text (18, _, _, ((updS v1.1 2 0, v1.2) : SM)) _
  rw [← hv2]
  have f2 : frM [2] [] v1 v2 := by rw [hv2]; exact frM.i 2 (by decide)
  have e2 : v2.1 2 = 0 := by rw [hv2]; rfl
  refine RQ_V vX12_takeGrammar (m_takeGrammar v2 (pr (s.2.1 1) n 0 false gD0) (so (s.2.1 1) n 0 0) (g1.fr (f2.1 8 (by decide)) (by rw [hv2])) ((f2.1 11 (by decide)).trans g2) b2 b3 b4) rfl k12_260 rfl rfl rfl rfl (fun _ _ _ => rfl) ?_
  rintro r2 v3 q
  obtain ⟨y1, y2⟩ := zGD_M hC q
  obtain ⟨rfl, ⟨-, -, -, a4, a5, a6, a7, a8⟩, a9, -, -, -, -, a10⟩ := q
  refine RQ_to (Rn_iret rfl rfl) ⟨rfl, ⟨y1, y2⟩, ⟨?_, a4, a5, a6, a7, a8⟩, a9, ?_⟩
  · rw [a10.1 2 (by decide)]; exact e2
  · exact ((q1.up (by decide) (by decide)).tr (f2.up (by decide) (by decide))).tr (a10.up (by decide) (by decide))
end TxM
