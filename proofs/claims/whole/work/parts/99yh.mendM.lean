/-! What mends: layMended of the reference. -/
section MMend
variable {G : ZGT} {kd m : Nat} {os : Nat → Option ZAS} {s : SM} {ln : Nat → Nat} {yy : Nat → Nat → Nat} {nb : Nat → Int32} {sl : Nat → Nat}
theorem nIsub {a b : Nat} (h : b ≤ a) : nI a - nI b = nI (a - b) := by
  have e : nI a = nI (a - b) + nI b := by rw [nI_add, Nat.sub_add_cancel h]
  rw [e, Int32.add_sub_cancel]
set_option maxHeartbeats 1000000 in
theorem m_layMended (hG : ZGM G s) (hS : SnM m ln yy s) (hT : TMc G nb sl s) {k pl c : Nat} (hk : k < m) (hp : pl ≤ ln k) (h1 : c < 20 → pl < ln k) (h2 : 20 ≤ c → ln k < 24) (hc : c < 100) : EvQ ZR mX12_layMended [.ref 0, .int (nI k), .int (nI pl), .int (nI c)] s (fun x v => x = none ∧ v.1 57 = nI (zcl1 (ln k) (zmo c) (zms c)) ∧ (∀ i, i < zcl1 (ln k) (zmo c) (zms c) → v.2.1 56 i = nI (zci (fun i => zsno sl (zgT G) (yy k i)) pl (zmo c) (zms c) i)) ∧ frM [57] [56] s v) := by
  have s2 := (hS.2.2 k hk).2.1
  obtain ⟨I0, hI0⟩ : ∃ I0 : Nat → Nat, I0 = fun i => zsno sl (zgT G) (yy k i) := ⟨_, rfl⟩
  have hlay := m_laySentence hG hS hT hk
  rw [show (fun i => zsno sl (zgT G) (yy k i)) = I0 from hI0.symm]
  refine EQ_V vX12_layMended rfl ?_
  refine RQ_n ZR_ok 2 rfl trivial ?_
  refine RQ_V vX12_laySentence hlay rfl k12_500 rfl rfl rfl rfl (fun _ _ _ => rfl) (fun r1 v h => ?_)
  obtain ⟨rfl, q1, q2', q3⟩ := h
  have q2 : ∀ i, i < ln k → v.2.1 56 i = nI (I0 i) := fun i hi => by rw [hI0]; exact q2' i hi
  clear q2'
  refine RQ_n ZR_ok 1 rfl trivial ?_
  by_cases c0 : c = 0
  · have hpl := h1 (by omega)
    have e1 : zmo c = 1 := by unfold zmo; rw [if_pos (by omega)]
    have e2 : zms c = none := by unfold zms; rw [if_pos c0]
    rw [e1, e2]
    subst c0
    refine RQ_b rfl (fun z => absurd rfl z) (fun _ => ?_)
    refine RQ_n ZR_ok 8 rfl trivial ?_
    rw [q1, show nI (ln k) - 1 = nI (ln k - 1) from nIsub (b := 1) (by omega)]
    obtain ⟨v1, hv1⟩ : ∃ x : SM, x = (updS v.1 57 (nI (ln k - 1)), v.2) := ⟨_, rfl⟩
    show RnQ ZR mX12_layMended (22, _, _, ((updS v.1 57 (nI (ln k - 1)), v.2) : SM)) _
    rw [← hv1]
    have f1 : frM [57] [56] v v1 := by rw [hv1]; exact frM.i 57 (by decide)
    have e57 : v1.1 57 = nI (ln k - 1) := by rw [hv1]; rfl
    have e56 : v1.2.1 56 = v.2.1 56 := by rw [hv1]
    refine loopU (ln k - 1) (fun i (_ : Unit) => [some (.ref 0), some (.int (nI k)), some (.int (nI pl)), some (.int (nI 0)), some (.int (nI i))]) (fun i _ w => w.1 57 = nI (ln k - 1) ∧ (∀ j, j < i → w.2.1 56 j = nI (zci I0 pl 1 none j)) ∧ (∀ j, i ≤ j → j < ln k → w.2.1 56 j = nI (I0 j)) ∧ pl ≤ i ∧ frM [57] [56] s w) ?_ pl () v1 (by omega) ⟨e57, fun j hj => by rw [e56, q2 j (by omega)]; unfold zci; rw [if_pos hj], fun j _ hj => by rw [e56]; exact q2 j hj, Nat.le_refl _, q3.tr f1⟩
    intro i _ w hi hJ ih
    obtain ⟨g1, g2, g3, g4, g5⟩ := hJ
    refine RQ_n ZR_ok 3 rfl trivial ?_
    rw [g1]
    refine RQ_b rfl (fun z => ?_) (fun z => ?_)
    · have z := (zq_le (a := ln k - 1) (b := i) rfl rfl (by omega) (by omega)).mp z
      have hie : i = ln k - 1 := by omega
      refine RQ_n ZR_ok 1 rfl trivial ?_
      refine RQ_to (Rn_vret rfl rfl) ⟨rfl, g1, fun j hj => g2 j (by rw [hie]; exact hj), g5⟩
    have z := (not_congr (zq_le (a := ln k - 1) (b := i) rfl rfl (by omega) (by omega))).mp z
    refine RQ_n ZR_ok 8 rfl trivial ?_
    rw [show nI i + 1 = nI (i + 1) from nI_add i 1]
    refine RQ_n ZR_ok 1 rfl ⟨nI_in (by omega) (by omega), trivial⟩ ?_
    rw [nI_clamp (show i + 1 < 2 ^ 31 by omega), g3 (i + 1) (by omega) (by omega)]
    refine RQ_n ZR_ok 1 rfl ⟨nI_in (by omega) (by omega), trivial⟩ ?_
    rw [nI_clamp (show i < 2 ^ 31 by omega)]
    obtain ⟨w2, hw2⟩ : ∃ x : SM, x = (w.1, updA w.2.1 56 i (nI (I0 (i + 1))), w.2.2) := ⟨_, rfl⟩
    rw [← hw2]
    have f2 : frM [57] [56] w w2 := by rw [hw2]; exact frM.a 56 (by decide)
    have h56 : w2.2.1 56 = upd (w.2.1 56) i (nI (I0 (i + 1))) := by rw [hw2]; rfl
    refine RQ_n ZR_ok 2 rfl trivial ?_
    refine ih (by omega) () _ _ ⟨rfl, rfl, rfl, rfl, nIs i, trivial⟩ ⟨by rw [hw2]; exact g1, fun j hj => ?_, fun j h1 hj => ?_, by omega, g5.tr f2⟩
    · rw [h56]
      by_cases y : j = i
      · rw [y, upd_at]; unfold zci; rw [if_neg (by omega)]
      · rw [upd_ne y]; exact g2 j (by omega)
    · rw [h56, upd_ne (by omega)]; exact g3 j (by omega) hj
  refine RQ_b rfl (fun _ => ?_) (fun z => absurd ((zq_eq (a := c) (b := 0) rfl rfl (by omega) (by omega)).mp (Classical.not_not.mp z)) c0)
  refine RQ_n ZR_ok 2 rfl trivial ?_
  by_cases c1 : c < 20
  · have hpl := h1 c1
    have e1 : zmo c = 1 := by unfold zmo; rw [if_pos c1]
    have e2 : zms c = some (c - 1) := by unfold zms; rw [if_neg c0, if_pos c1]
    rw [e1, e2]
    refine RQ_b rfl (fun z => ?_) (fun _ => ?_)
    · have := (zq_le (a := 20) (b := c) rfl rfl (by omega) (by omega)).mp z
      omega
    refine RQ_n ZR_ok 6 rfl trivial ?_
    rw [show nI c - 1 = nI (c - 1) from nIsub (b := 1) (by omega)]
    refine RQ_n ZR_ok 1 rfl ⟨nI_in (by omega) (by omega), trivial⟩ ?_
    rw [nI_clamp (show pl < 2 ^ 31 by omega)]
    obtain ⟨w2, hw2⟩ : ∃ x : SM, x = (v.1, updA v.2.1 56 pl (nI (c - 1)), v.2.2) := ⟨_, rfl⟩
    rw [← hw2]
    have f2 : frM [57] [56] v w2 := by rw [hw2]; exact frM.a 56 (by decide)
    have h56 : w2.2.1 56 = upd (v.2.1 56) pl (nI (c - 1)) := by rw [hw2]; rfl
    refine RQ_n ZR_ok 1 rfl trivial ?_
    refine RQ_to (Rn_vret rfl rfl) ⟨rfl, ?_, fun j hj => ?_, q3.tr f2⟩
    · rw [show zcl1 (ln k) 1 (some (c - 1)) = ln k by show ln k - 1 + 1 = ln k; omega, hw2]; exact q1
    · have hj : j < ln k - 1 + 1 := hj
      rw [h56]
      by_cases y : j = pl
      · rw [y, upd_at]; unfold zci; rw [if_neg (Nat.lt_irrefl _)]; dsimp only; rw [if_pos rfl]
      · rw [upd_ne y, q2 j (by omega)]
        unfold zci
        by_cases x : j < pl
        · rw [if_pos x]
        · rw [if_neg x]; dsimp only; rw [if_neg y, show j - 1 + 1 = j by omega]
  have h24 := h2 (by omega)
  have e1 : zmo c = 0 := by unfold zmo; rw [if_neg c1]
  have e2 : zms c = some (c - 20) := by unfold zms; rw [if_neg c0, if_neg c1]
  rw [e1, e2]
  refine RQ_b rfl (fun _ => ?_) (fun z => absurd ((zq_le (a := 20) (b := c) rfl rfl (by omega) (by omega)).mpr (by omega)) z)
  refine RQ_n ZR_ok 3 rfl trivial ?_
  rw [q1]
  refine loopU (ln k - pl) (fun d (_ : Unit) => [some (.ref 0), some (.int (nI k)), some (.int (nI pl)), some (.int (nI c)), some (.int (nI (ln k - d)))]) (fun d _ w => w.1 57 = nI (ln k) ∧ (∀ j, ln k - d < j → j ≤ ln k → w.2.1 56 j = nI (I0 (j - 1))) ∧ (∀ j, j < ln k - d + 1 → j < ln k → w.2.1 56 j = nI (I0 j)) ∧ frM [57] [56] s w) ?_ 0 () v (by omega) ⟨q1, fun j h1 h2 => by omega, fun j _ hj => q2 j hj, q3⟩
  intro d _ w hd hJ ih
  obtain ⟨g1, g2, g3, g4⟩ := hJ
  refine RQ_n ZR_ok 2 rfl trivial ?_
  refine RQ_b rfl (fun z => ?_) (fun z => ?_)
  · have z := (zq_le (a := ln k - d) (b := pl) rfl rfl (by omega) (by omega)).mp z
    have hde : ln k - d = pl := by omega
    rw [hde] at g2 g3
    refine RQ_n ZR_ok 12 rfl trivial ?_
    rw [g1, show nI (ln k) + 1 = nI (ln k + 1) from nI_add _ 1, show nI c - 20 = nI (c - 20) from nIsub (b := 20) (by omega)]
    refine RQ_n ZR_ok 1 rfl ⟨nI_in (by omega) (by omega), trivial⟩ ?_
    rw [nI_clamp (show pl < 2 ^ 31 by omega)]
    obtain ⟨w2, hw2⟩ : ∃ x : SM, x = (updS w.1 57 (nI (ln k + 1)), updA w.2.1 56 pl (nI (c - 20)), w.2.2) := ⟨_, rfl⟩
    show RnQ ZR mX12_layMended (128, _, _, ((updS w.1 57 (nI (ln k + 1)), updA w.2.1 56 pl (nI (c - 20)), w.2.2) : SM)) _
    rw [← hw2]
    have f2 : frM [57] [56] w w2 := by rw [hw2]; exact (frM.i (s := w) 57 (by decide)).tr (frM.a (s := (updS w.1 57 (nI (ln k + 1)), w.2)) 56 (by decide))
    have h56 : w2.2.1 56 = upd (w.2.1 56) pl (nI (c - 20)) := by rw [hw2]; rfl
    refine RQ_to (Rn_vret rfl rfl) ⟨rfl, by rw [hw2]; rfl, fun j hj => ?_, g4.tr f2⟩
    have hj : j < ln k - 0 + 1 := hj
    rw [h56]
    by_cases y : j = pl
    · rw [y, upd_at]; unfold zci; rw [if_neg (Nat.lt_irrefl _)]; dsimp only; rw [if_pos rfl]
    · rw [upd_ne y]
      unfold zci
      by_cases x : j < pl
      · rw [if_pos x, g3 j (by omega) (by omega)]
      · rw [if_neg x]; dsimp only; rw [if_neg y, Nat.add_zero, g2 j (by omega) (by omega)]
  have z := (not_congr (zq_le (a := ln k - d) (b := pl) rfl rfl (by omega) (by omega))).mp z
  refine RQ_n ZR_ok 8 rfl trivial ?_
  rw [show nI (ln k - d) - 1 = nI (ln k - d - 1) from nIsub (b := 1) (by omega)]
  refine RQ_n ZR_ok 1 rfl ⟨nI_in (by omega) (by omega), trivial⟩ ?_
  rw [nI_clamp (show ln k - d - 1 < 2 ^ 31 by omega), g3 (ln k - d - 1) (by omega) (by omega)]
  refine RQ_n ZR_ok 1 rfl ⟨nI_in (by omega) (by omega), trivial⟩ ?_
  rw [nI_clamp (show ln k - d < 2 ^ 31 by omega)]
  obtain ⟨w2, hw2⟩ : ∃ x : SM, x = (w.1, updA w.2.1 56 (ln k - d) (nI (I0 (ln k - d - 1))), w.2.2) := ⟨_, rfl⟩
  rw [← hw2]
  have f2 : frM [57] [56] w w2 := by rw [hw2]; exact frM.a 56 (by decide)
  have h56 : w2.2.1 56 = upd (w.2.1 56) (ln k - d) (nI (I0 (ln k - d - 1))) := by rw [hw2]; rfl
  refine RQ_n ZR_ok 2 rfl trivial ?_
  refine ih (by omega) () _ _ ⟨rfl, rfl, rfl, rfl, ?_, trivial⟩ ⟨by rw [hw2]; exact g1, fun j h1 hj => ?_, fun j h1 hj => ?_, g4.tr f2⟩
  · show Value.int (nI (ln k - (d + 1))) = Value.int (nI (ln k - d) + -1)
    rw [← Int32.sub_eq_add_neg, show nI (ln k - d) - 1 = nI (ln k - d - 1) from nIsub (b := 1) (by omega), Nat.sub_sub]
  · rw [h56]
    by_cases y : j = ln k - d
    · rw [y, upd_at]
    · rw [upd_ne y]; exact g2 j (by omega) hj
  · rw [h56, upd_ne (by omega)]; exact g3 j (by omega) hj
end MMend
