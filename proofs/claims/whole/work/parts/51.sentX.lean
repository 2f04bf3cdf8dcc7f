/-! takeSentence of the class. -/
theorem x_open (s : SX) (m : Nat) (hm : s.1 11 0 = nI m) (h4 : m < 4) : EvQ ZX mX9_open [.ref 11] s (fun r s' => r = none ∧ frX [(11, 0)] [12] s s' ∧ s'.1 11 0 = nI (m + 1) ∧ s'.2.1 12 m = 0 ∧ ∀ j, j ≠ m → s'.2.1 12 j = s.2.1 12 j) := by
  have hc : (s.1 11 0).toNatClampNeg = m := by rw [hm]; exact nI_clamp (by omega)
  refine EQ_V vX9_open rfl ?_
  refine RQ_n ZX_ok 3 rfl trivial ?_
  refine RQ_b rfl (fun q => absurd (show (4 : Int32) ≤ s.1 11 0 from q) (by rw [hm]; exact nI_ge (b := 4) (by omega) (by omega))) (fun _ => ?_)
  refine RQ_n ZX_ok 12 rfl ⟨by rw [hm]; exact nI_in (by omega) (by omega), trivial⟩ ?_
  refine RQ_to (Rn_vret rfl rfl) ⟨rfl, ?_, ?_, ?_, ?_⟩
  · exact (frX.rf.tr (frX.a 12 (by decide))).tr (frX.i 11 0 (by decide))
  · show s.1 11 0 + 1 = _
    rw [hm, nI_1]
  · show upd _ (s.1 11 0).toNatClampNeg 0 m = 0
    rw [hc, upd_at]
  · intro j hj
    show upd _ (s.1 11 0).toNatClampNeg 0 j = _
    rw [hc, upd_ne hj]
theorem x_putL (s : SX) (m c : Nat) (x : Int32) (hm : s.1 11 0 = nI (m + 1)) (h4 : m < 4) (hc : s.2.1 12 m = nI c) (h24 : c < 24) :
    EvQ ZX mX9_put [.ref 11, .int x] s (fun r s' => r = none ∧ frX [] [12, 13] s s' ∧ (s'.2.1 12 m = nI (c + 1) ∧ ∀ j, j ≠ m → s'.2.1 12 j = s.2.1 12 j) ∧ s'.2.1 13 (24 * m + c) = x ∧ ∀ j, j ≠ 24 * m + c → s'.2.1 13 j = s.2.1 13 j) := by
  have h1 : s.1 11 0 - 1 = nI m := by rw [hm, nI_pred]
  have hmc : (nI m).toNatClampNeg = m := nI_clamp (by omega)
  have hin : vp_in (s.1 11 0 - 1) 4 := by rw [h1]; exact nI_in (by omega) (by omega)
  have hcl : (s.1 11 0 - 1).toNatClampNeg = m := by rw [h1, hmc]
  have hix : (s.1 11 0 - 1) * 24 + s.2.1 12 (s.1 11 0 - 1).toNatClampNeg = nI (24 * m + c) := by
    rw [hcl, hc, h1, show (24 : Int32) = nI 24 from rfl, nI_mul, nI_add, Nat.mul_comm m 24]
  have hic : (nI (24 * m + c)).toNatClampNeg = 24 * m + c := nI_clamp (by omega)
  refine EQ_V vX9_put rfl ?_
  refine RQ_n ZX_ok 6 rfl trivial ?_
  refine RQ_b rfl (fun q => absurd (show s.1 11 0 - 1 < 0 from q) (by rw [h1]; exact nI_pos (by omega))) (fun _ => ?_)
  refine RQ_n ZX_ok 5 rfl ⟨hin, trivial⟩ ?_
  refine RQ_b rfl (fun q => absurd (show (24 : Int32) ≤ s.2.1 12 (s.1 11 0 - 1).toNatClampNeg from q) (by rw [hcl, hc]; exact nI_ge (b := 24) (by omega) (by omega))) (fun _ => ?_)
  refine RQ_n ZX_ok 20 rfl ⟨hin, by rw [hix]; exact nI_in (by omega) (by omega), hin, hin, trivial⟩ ?_
  refine RQ_to (Rn_vret rfl rfl) ⟨rfl, ?_, ⟨?_, ?_⟩, ?_, ?_⟩
  · exact (frX.rf.tr (frX.a 13 (by decide))).tr (frX.a 12 (by decide))
  · show upd _ (s.1 11 0 - 1).toNatClampNeg (s.2.1 12 (s.1 11 0 - 1).toNatClampNeg + 1) m = _
    rw [hcl, upd_at, hc, nI_1]
  · intro j hj
    show upd _ (s.1 11 0 - 1).toNatClampNeg _ j = _
    rw [hcl, upd_ne hj]
    rfl
  · show upd _ ((s.1 11 0 - 1) * 24 + s.2.1 12 (s.1 11 0 - 1).toNatClampNeg).toNatClampNeg x _ = _
    rw [hix, hic, upd_at]
  · intro j hj
    show upd _ ((s.1 11 0 - 1) * 24 + s.2.1 12 (s.1 11 0 - 1).toNatClampNeg).toNatClampNeg x j = _
    rw [hix, hic, upd_ne hj]
/-- while a sentence is taken over -/
def tsI (s : SX) (f : Nat → Int32) (n m : Nat) (p : List Int32) (u : SX) : Prop :=
  (u.1 1 1 = nI n ∧ u.2.1 2 = f ∧ u.1 11 0 = nI (m + 1) ∧ u.2.1 12 m = nI p.length) ∧ frX [(11, 0)] [12, 13] s u ∧ (∀ j, j ≠ m → u.2.1 12 j = s.2.1 12 j) ∧ (∀ j, (j < 24 * m ∨ 24 * m + 24 ≤ j) → u.2.1 13 j = s.2.1 13 j) ∧ ∀ j, j < p.length → u.2.1 13 (24 * m + j) = p.getD j 0 - 97
def tsQ (s : SX) (m : Nat) (p : List Int32) (r : Option Value) (s' : SX) : Prop :=
  r = some (.int (nI m)) ∧ (s'.1 1 1 = 0 ∧ s'.1 11 0 = nI (m + 1) ∧ s'.2.1 12 m = nI p.length) ∧ frX [(1, 1), (11, 0)] [12, 13] s s' ∧ (∀ j, j ≠ m → s'.2.1 12 j = s.2.1 12 j) ∧ (∀ j, (j < 24 * m ∨ 24 * m + 24 ≤ j) → s'.2.1 13 j = s.2.1 13 j) ∧ ∀ j, j < p.length → s'.2.1 13 (24 * m + j) = p.getD j 0 - 97
set_option maxHeartbeats 4000000 in
theorem x_takeSentence (s : SX) (n m : Nat) (hn : s.1 1 1 = nI n) (h2 : n ≤ 240) (hm : s.1 11 0 = nI m) (h4 : m < 4) (hF : sF (s.2.1 2) n 0 0 = none) : EvQ ZX mX11_takeSentence [.ref 0] s (tsQ s m (sL (s.2.1 2) n 0)) := by
  obtain ⟨f, hf⟩ : ∃ f, f = s.2.1 2 := ⟨_, rfl⟩
  rw [← hf] at hF ⊢
  refine EQ_V vX11_takeSentence rfl ?_
  have key : ∀ d i p u, i + d = n → sF f d i p.length = none → tsI s f n m p u → RnQ ZX mX11_takeSentence (22, [some (.ref 0), some (.int (nI i))], [], u) (tsQ s m (p ++ sL f d i)) := by
    intro d
    induction d with
    | zero =>
      intro i p u hd hN hI
      have hin : i = n := by omega
      subst hin
      refine RQ_n ZX_ok 4 rfl trivial ?_
      refine RQ_b rfl (fun _ => ?_) (fun q => absurd (by show u.1 1 1 ≤ nI i; rw [hI.1.1]; exact Int32.le_refl _) q)
      refine RQ_n ZX_ok 9 rfl trivial ?_
      refine RQ_to (Rn_iret rfl rfl) ?_
      rw [sL, List.append_nil]
      refine ⟨?_, ⟨rfl, hI.1.2.2.1, hI.1.2.2.2⟩, (hI.2.1.up (by decide) (by decide)).tr (frX.i 1 1 (by decide)), hI.2.2.1, hI.2.2.2.1, hI.2.2.2.2⟩
      show some (Value.int (u.1 11 0 - 1)) = _
      rw [hI.1.2.2.1, nI_pred]
    | succ d ih =>
      intro i p u hd hN hI
      have hge : ¬ (u.1 1 1 ≤ nI i) := by rw [hI.1.1]; exact nI_ge (by omega) (by omega)
      have hin : vp_in (nI i) 240 := nI_in (by omega) (by omega)
      have hcl : (nI i).toNatClampNeg = i := nI_clamp (by omega)
      refine RQ_n ZX_ok 4 rfl trivial ?_
      refine RQ_b rfl (fun q => absurd q hge) (fun _ => ?_)
      refine RQ_n ZX_ok 6 rfl ⟨hin, trivial⟩ ?_
      refine RQ_b rfl (fun q => ?_) (fun q => ?_)
      · have q : f i = 32 := by
          have q : u.2.1 2 (nI i).toNatClampNeg = 32 := q
          rw [hcl, hI.1.2.1] at q; exact q
        rw [sF, if_pos q] at hN
        refine RQ_n ZX_ok 2 rfl trivial ?_
        have h0 := ih (i + 1) p u (by omega) hN hI
        rw [show sL f (d + 1) i = sL f d (i + 1) by rw [sL, if_pos q]]
        rw [nI_succ] at h0
        exact h0
      · have q : ¬ f i = 32 := by
          have q : ¬ u.2.1 2 (nI i).toNatClampNeg = 32 := q
          rw [hcl, hI.1.2.1] at q; exact q
        rw [sF, if_neg q] at hN
        have hs2 : isSg (f i) = true ∧ p.length < 24 := by
          apply Classical.byContradiction
          intro z
          rw [if_neg z] at hN
          cases hN
        rw [if_pos hs2] at hN
        refine RQ_n ZX_ok 9 rfl ⟨hin, trivial⟩ ?_
        have hx : u.2.1 2 (nI i).toNatClampNeg = f i := by rw [hcl, hI.1.2.1]
        refine RQ_V vX9_put (x_putL u m p.length (u.2.1 2 (nI i).toNatClampNeg - 97) hI.1.2.2.1 h4 hI.1.2.2.2 hs2.2) rfl k11_138 rfl rfl rfl (zx11 u rfl) (fun r1 s1 h => h.2.1.n) (fun r1 u1 h => ?_)
        obtain ⟨rfl, a1, ⟨a2, a3⟩, a4, a5⟩ := h
        have hI1 : tsI s f n m (p ++ [f i]) u1 := by
          refine ⟨⟨by rw [a1.1 1 1 (by decide)]; exact hI.1.1, by rw [a1.2.1 2 (by decide)]; exact hI.1.2.1, by rw [a1.1 11 0 (by decide)]; exact hI.1.2.2.1, by rw [a2, List.length_append, List.length_singleton]⟩, hI.2.1.tr (a1.up (by decide) (by decide)), fun j hj => (a3 j hj).trans (hI.2.2.1 j hj), fun j hj => ?_, fun j hj => ?_⟩
          · rw [a5 j (by omega)]
            exact hI.2.2.2.1 j hj
          · rw [List.length_append, List.length_singleton] at hj
            by_cases w : j = p.length
            · subst w
              rw [a4, hx]
              simp
            · rw [a5 (24 * m + j) (by omega), hI.2.2.2.2 j (by omega)]
              rw [List.getD_eq_getElem?_getD, List.getD_eq_getElem?_getD, List.getElem?_append_left (by omega)]
        have h0 := ih (i + 1) (p ++ [f i]) u1 (by omega) (by rw [List.length_append, List.length_singleton]; exact hN) hI1
        rw [show p ++ sL f (d + 1) i = (p ++ [f i]) ++ sL f d (i + 1) by rw [sL, if_neg q, List.append_assoc, List.singleton_append]]
        rw [nI_succ] at h0
        refine RQ_n ZX_ok 2 rfl trivial ?_
        exact h0
  refine RQ_n ZX_ok 4 rfl trivial ?_
  refine RQ_b rfl (fun _ => ?_) (fun q => absurd (show ¬ s.1 11 0 = 4 from by rw [hm]; exact fun z => absurd ((nI_eq (a := m) (b := 4) (by omega) (by omega)).mp z) (by omega)) q)
  refine RQ_n ZX_ok 2 rfl trivial ?_
  refine RQ_V vX9_open (x_open s m hm h4) rfl k11_131 rfl rfl rfl (zx11 s rfl) (fun r1 s1 h => h.2.1.n) (fun r1 u1 h => ?_)
  obtain ⟨rfl, a1, a2, a3, a4⟩ := h
  refine RQ_n ZX_ok 2 rfl trivial ?_
  exact key n 0 [] u1 (by omega) hF ⟨⟨by rw [a1.1 1 1 (by decide)]; exact hn, by rw [a1.2.1 2 (by decide)]; exact hf.symm, a2, a3⟩, a1.up (by decide) (by decide), a4, fun j _ => by rw [a1.2.1 13 (by decide)], fun j hj => absurd hj (Nat.not_lt_zero _)⟩
