/-! readGrammar of the reference. -/
def gq0 : gS := (0, 0, 0, 0, 0, 0)
def gD0 : pD := (0, fun _ => 0, fun _ => 0, fun _ _ => 0)
def rgQ (s : SM) (f : Nat → Int32) (n : Nat) (r : Option Value) (u : SM) : Prop :=
  r = some (.int (fI (gF f n 0 gq0))) ∧ frM [3, 4, 8, 9, 10, 11] [5, 6, 7] s u ∧ (gF f n 0 gq0 = none → gA (pr f n 0 false gD0) u ∧ u.1 11 = so f n 0 0)
theorem gU_at0 {s : SM} {f : Nat → Int32} {n i j : Nat} {nm lf sg : Int32} {D : pD} {u : SM} {x : Int32} (h : gU s f n i nm lf sg D u) (hx : x = nI j) : gU s f n j nm lf sg D (updS u.1 3 x, u.2) := by
  subst hx
  exact gU_at h
set_option maxHeartbeats 4000000 in
theorem m_readGrammar (s : SM) (n : Nat) (hn : s.1 2 = nI n) (h2 : n ≤ 240) (hb : ∀ j, j < n → s.2.1 1 j ≠ -1) : EvQ ZR mX12_readGrammar [.ref 0] s (rgQ s (s.2.1 1) n) := by
  obtain ⟨f, hf⟩ : ∃ f, f = s.2.1 1 := ⟨_, rfl⟩
  rw [← hf] at hb ⊢
  refine EQ_V vX12_readGrammar rfl ?_
  -- nothing more comes
  have fin : ∀ (u : SM) (i' R l nm lf sg) (D : pD), i' ≤ n → gF f n 0 gq0 = gF f (n - i') i' (2, R + 1, l, nm, lf, sg) → pr f n 0 false gD0 = pr f (n - i') i' true D → so f n 0 0 = so f (n - i') i' sg → (i' < n → f i' ≠ 32 ∧ isNm (f i') = false ∧ isSg (f i') = false) → (i' < n → f i' = 59 → 16 ≤ R + 1) → gU s f n i' nm lf sg D u →
      RnQ ZR mX12_readGrammar (93, [some (.ref 0), some (.int 0)], [], u) (rgQ s f n) := by
    intro u i' R l nm lf sg D hi hF hP hO hno h59 h
    refine RQ_n ZR_ok 3 rfl trivial ?_
    refine RQ_b rfl (fun q => absurd h.1.2.2.1 q) (fun _ => ?_)
    refine RQ_n ZR_ok 1 rfl trivial ?_
    refine RQ_v vX12_ahead (g_ahead0 h h2 hi (fun z => (hno z).1)) rfl k12_180 rfl rfl rfl rfl rfl ?_
    refine RQ_n ZR_ok 1 rfl trivial ?_
    have bad : gF f n 0 gq0 = some i' → RnQ ZR mX12_readGrammar (120, [some (.ref 0), some (.int 0)], [], u) (rgQ s f n) := by
      intro hs
      refine RQ_n ZR_ok 1 rfl trivial ?_
      refine RQ_v vX12_bad (m_bad u h.1.2.2.1) rfl k12_203 rfl rfl rfl rfl rfl ?_
      refine RQ_n ZR_ok 2 rfl trivial ?_
      refine RQ_to (Rn_iret rfl rfl) ⟨?_, h.2.2.tr (frM.i 4 (by decide)), fun z => by rw [hs] at z; cases z⟩
      rw [hs]
      show some (Value.int (u.1 3)) = _
      rw [h.1.2.1]; rfl
    by_cases z : i' < n
    · obtain ⟨z1, z2, z3⟩ := hno z
      obtain ⟨e, he⟩ : ∃ e, n - i' = e + 1 := ⟨n - i' - 1, by omega⟩
      refine RQ_b rfl (fun _ => bad ?_) (fun q => absurd (show aht f n i' = -1 from Classical.not_not.mp q) (by rw [aht_lt z]; exact hb i' z))
      rw [hF, he, gF_s, gnx, if_neg (fun y => absurd y.2 (by decide)), if_neg (fun y => absurd y.2 (by decide)), if_neg (fun y => by have := h59 z y.1; omega), if_neg (fun y => by rw [z2] at y; exact absurd y.1 (by decide)), if_neg (fun y => by rw [z3] at y; exact absurd y.1 (by decide)), if_neg z1]
      rfl
    · have hz : n - i' = 0 := by omega
      refine RQ_b rfl (fun q => absurd (show aht f n i' = -1 from aht_ge z) q) (fun _ => ?_)
      refine RQ_n ZR_ok 4 rfl trivial ?_
      refine RQ_b rfl (fun q => ?_) (fun q => ?_)
      · have q : nm = lf := by
          have q : u.1 9 = u.1 10 := q
          rw [h.1.2.2.2.1, h.1.2.2.2.2.1] at q
          exact q
        have hs : gF f n 0 gq0 = none := by rw [hF, hz, gF, if_pos ⟨rfl, q⟩]
        refine RQ_n ZR_ok 2 rfl trivial ?_
        refine RQ_to (Rn_iret rfl rfl) ⟨?_, h.2.2, fun _ => ⟨?_, ?_⟩⟩
        · rw [hs]
          show some (Value.int (u.1 4)) = _
          rw [h.1.2.2.1]; rfl
        · rw [hP, hz, pr]
          exact h.2.1
        · rw [hO, hz, so]
          exact h.1.2.2.2.2.2.1
      · have q : ¬ nm = lf := by
          have q : ¬ u.1 9 = u.1 10 := q
          rw [h.1.2.2.2.1, h.1.2.2.2.2.1] at q
          exact q
        refine bad ?_
        rw [hF, hz, gF, if_neg (fun y => q y.2)]
  have key : ∀ d i R l nm lf sg D u, R + d = 16 → i ≤ n → D.1 = R → R < 16 → l ≤ 5 → mny nm sg = false → gF f n 0 gq0 = gF f (n - i) i (0, R, l, nm, lf, sg) → pr f n 0 false gD0 = pr f (n - i) i false D → so f n 0 0 = so f (n - i) i sg → gU s f n i nm lf sg D u →
      RnQ ZR mX12_readGrammar (32, [some (.ref 0), some (.int 1)], [], u) (rgQ s f n) := by
    intro d
    induction d with
    | zero =>
      intro i R l nm lf sg D u hd hin hD hR hl hm hF hP hO h
      exact absurd hR (by omega)
    | succ d ih =>
      intro i R l nm lf sg D u hd hin hD hR hl hm hF hP hO h
      refine RQ_n ZR_ok 1 rfl trivial ?_
      refine RQ_b rfl (fun q => absurd q (by show ¬ ((1 : Int32) = 0); decide)) (fun _ => ?_)
      refine RQ_n ZR_ok 1 rfl trivial ?_
      refine RQ_V vX12_readRule (m_readRule h h2 hin hD hR hl hm) rfl k12_216 rfl rfl rfl rfl (fun _ _ _ => rfl) (fun r1 u1 hq => ?_)
      obtain ⟨rfl, hq⟩ := hq
      refine RQ_n ZR_ok 3 rfl trivial ?_
      rcases hq with ⟨p, hp, hfp, hw⟩ | ⟨i', l', nm', lf', sg', D', ⟨hi', hF', hl', hm'⟩, ⟨hP', hO', hD'⟩, hno, h'⟩
      · refine RQ_b rfl (fun _ => ?_) (fun q => absurd (show ¬ u1.1 4 = -1 by rw [hw.1]; exact nI_m1 (by omega)) q)
        refine RQ_n ZR_ok 6 rfl trivial ?_
        refine RQ_b rfl (fun _ => ?_) (fun q => absurd rfl q)
        refine RQ_n ZR_ok 5 rfl trivial ?_
        refine RQ_b rfl (fun _ => ?_) (fun q => absurd rfl q)
        refine RQ_n ZR_ok 3 rfl trivial ?_
        refine RQ_b rfl (fun _ => ?_) (fun q => absurd (show ¬ u1.1 4 = -1 by rw [hw.1]; exact nI_m1 (by omega)) q)
        refine RQ_n ZR_ok 2 rfl trivial ?_
        refine RQ_to (Rn_iret rfl rfl) ⟨?_, hw.2.tr (frM.i 3 (by decide)), fun z => by rw [hF, hfp] at z; cases z⟩
        rw [hF, hfp]
        show some (Value.int (u1.1 4)) = _
        rw [hw.1]; rfl
      · have hF2 := hF.trans hF'
        have hP2 := hP.trans hP'
        have hO2 := hO.trans hO'
        have stop : (i' < n → f i' = 59 → 16 ≤ R + 1) → RnQ ZR mX12_readGrammar (70, [some (.ref 0), some (.int 1)], [], u1) (rgQ s f n) := by
          intro hs
          refine RQ_n ZR_ok 6 rfl trivial ?_
          refine RQ_b rfl (fun _ => ?_) (fun q => absurd rfl q)
          refine RQ_n ZR_ok 5 rfl trivial ?_
          refine RQ_b rfl (fun _ => ?_) (fun q => absurd rfl q)
          refine fin _ i' R l' nm' lf' sg' D' hi' hF2 hP2 hO2 hno hs ?_
          refine gU_at0 h' ?_
          show u1.1 3 + 0 = _
          rw [h'.1.2.1]
          exact nI_add i' 0
        refine RQ_b rfl (fun q => absurd h'.1.2.2.1 q) (fun _ => ?_)
        refine RQ_n ZR_ok 1 rfl trivial ?_
        refine RQ_v vX12_ahead (g_ahead0 h' h2 hi' (fun z => (hno z).1)) rfl k12_180 rfl rfl rfl rfl rfl ?_
        refine RQ_n ZR_ok 1 rfl trivial ?_
        refine RQ_b rfl (fun q => stop (fun z1 z2 => absurd (show aht f n i' = 59 by rw [aht_lt z1, z2]) q)) (fun q => ?_)
        have q : aht f n i' = 59 := Classical.not_not.mp q
        have hlt : i' < n := by
          apply Classical.byContradiction
          intro z
          rw [aht_ge z] at q
          exact absurd q (by decide)
        rw [aht_lt hlt] at q
        refine RQ_n ZR_ok 3 rfl trivial ?_
        have h8 : u1.1 8 = nI (R + 1) := by rw [← hD']; exact h'.2.1.1
        refine RQ_b rfl (fun q2 => stop (fun _ _ => ?_)) (fun q2 => ?_)
        · have q2 : (16 : Int32) ≤ u1.1 8 := q2
          rw [h8] at q2
          exact (nI_leI (a := 16) (by omega) (by omega)).mp q2
        · have q2 : ¬ (16 : Int32) ≤ u1.1 8 := q2
          rw [h8] at q2
          have hR1 : R + 1 < 16 := by
            apply Classical.byContradiction
            intro z
            exact q2 (nI_le (a := 16) (by omega) (by omega))
          obtain ⟨e, he⟩ : ∃ e, n - i' = e + 1 := ⟨n - i' - 1, by omega⟩
          refine RQ_n ZR_ok 7 rfl trivial ?_
          refine RQ_b rfl (fun z => absurd z (by show ¬ ((1 : Int32) = 0); decide)) (fun _ => ?_)
          refine RQ_n ZR_ok 5 rfl trivial ?_
          have hnn : n - (i' + 1) = e := by omega
          refine ih (i' + 1) (R + 1) l' nm' lf' sg' D' _ (by omega) (by omega) hD' hR1 hl' hm' ?_ ?_ ?_ ?_
          · rw [hF2, he, gF_s, q, gnx, if_neg (fun y => absurd y.2 (by decide)), if_neg (fun y => absurd y.2 (by decide)), if_pos ⟨rfl, rfl, hR1⟩, gck, if_neg (by dsimp only; omega), if_neg (by dsimp only; rw [hm']; decide), hnn]
            rfl
          · rw [hP2, he, pr, if_neg (by rw [q]; decide), if_pos q, hnn]
          · rw [hO2, he, so, q, if_neg (by decide), hnn]
          · refine gU_at0 h' ?_
            show u1.1 3 + 1 = _
            rw [h'.1.2.1, nI_1]
  refine RQ_n ZR_ok 20 rfl trivial ?_
  refine key 16 0 0 0 0 0 0 gD0 _ (by omega) (by omega) rfl (by decide) (by decide) (by decide +kernel) rfl rfl rfl ⟨⟨hn, rfl, rfl, rfl, rfl, rfl, hf.symm⟩, ⟨rfl, fun j hj => absurd hj (Nat.not_lt_zero _)⟩, ?_⟩
  exact (((((frM.rf.tr (frM.i 3 (by decide))).tr (frM.i 4 (by decide))).tr (frM.i 8 (by decide))).tr (frM.i 9 (by decide))).tr (frM.i 10 (by decide))).tr (frM.i 11 (by decide))
