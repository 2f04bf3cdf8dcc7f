/-! readSentence of the reference. -/
theorem upd_at {f : Nat → Int32} {k : Nat} {x : Int32} : upd f k x k = x := by unfold upd; rw [if_pos rfl]
theorem upd_ne {f : Nat → Int32} {k j : Nat} {x : Int32} (h : j ≠ k) : upd f k x j = f j := by unfold upd; rw [if_neg h]
theorem nI_mul (a b : Nat) : nI a * nI b = nI (a * b) := (Int32.ofNat_mul a b).symm
/-- while a sentence is read: i bytes are passed, the signs p are noted in row k -/
def rsI (s : SM) (f : Nat → Int32) (n k i : Nat) (p : List Int32) (u : SM) : Prop :=
  (u.1 2 = nI n ∧ u.1 3 = nI i ∧ u.1 4 = -1 ∧ u.2.1 1 = f ∧ u.2.1 13 k = nI p.length) ∧ frM [3, 4] [12, 13] s u ∧ (∀ j, j ≠ k → u.2.1 13 j = s.2.1 13 j) ∧ (∀ j, (j < 24 * k ∨ 24 * k + 24 ≤ j) → u.2.1 12 j = s.2.1 12 j) ∧ ∀ j, j < p.length → u.2.1 12 (24 * k + j) = p.getD j 0
def rsQ (s : SM) (f : Nat → Int32) (k d i : Nat) (p : List Int32) (r : Option Value) (s' : SM) : Prop :=
  r = some (.int (fI (sF f d i p.length))) ∧ frM [3, 4] [12, 13] s s' ∧ (∀ j, j ≠ k → s'.2.1 13 j = s.2.1 13 j) ∧ (∀ j, (j < 24 * k ∨ 24 * k + 24 ≤ j) → s'.2.1 12 j = s.2.1 12 j) ∧
  (sF f d i p.length = none → s'.2.1 13 k = nI (p ++ sL f d i).length ∧ (p ++ sL f d i).length ≤ 24 ∧ ∀ j, j < (p ++ sL f d i).length → s'.2.1 12 (24 * k + j) = (p ++ sL f d i).getD j 0)
theorem rsI_at {s : SM} {f : Nat → Int32} {n k i j : Nat} {p : List Int32} {u : SM} (h : rsI s f n k i p u) : rsI s f n k j p (atS u j) :=
  ⟨⟨h.1.1, rfl, h.1.2.2.1, h.1.2.2.2.1, h.1.2.2.2.2⟩, h.2.1.tr (frM.i 3 (by decide)), h.2.2.1, h.2.2.2.1, h.2.2.2.2⟩
set_option maxHeartbeats 4000000 in
theorem m_readSentence (s : SM) (n k : Nat) (hn : s.1 2 = nI n) (h2 : n ≤ 240) (hk : k ≤ 4) (hb : ∀ j, j < n → s.2.1 1 j ≠ -1) : EvQ ZR mX12_readSentence [.ref 0, .int (nI k)] s (rsQ s (s.2.1 1) k n 0 []) := by
  obtain ⟨f, hf⟩ : ∃ f, f = s.2.1 1 := ⟨_, rfl⟩
  rw [← hf] at hb ⊢
  have hkc : (nI k).toNatClampNeg = k := nI_clamp (by omega)
  have hk5 : vp_in (nI k) 5 := nI_in (by omega) (by omega)
  refine EQ_V vX12_readSentence rfl ?_
  have key : ∀ d i p u, i + d = n → p.length ≤ 24 → rsI s f n k i p u → RnQ ZR mX12_readSentence (17, [some (.ref 0), some (.int (nI k))], [], u) (rsQ s f k d i p) := by
    intro d
    induction d using Nat.strongRecOn with
    | ind d ih =>
      intro i p u hd hp hI
      obtain ⟨i', hi'⟩ : ∃ i', i' = skp f d i := ⟨_, rfl⟩
      have hle := skp_le f d i
      rw [← hi'] at hle
      have ev := m_ahead u n i hI.1.1 h2 hI.1.2.1 (by omega)
      rw [hI.1.2.2.2.1, show n - i = d by omega, ← hi'] at ev
      have hF : sF f d i p.length = sF f (n - i') i' p.length := by rw [sF_skp f d i, ← hi', show i + d = n by omega]
      have hL : sL f d i = sL f (n - i') i' := by rw [sL_skp f d i, ← hi', show i + d = n by omega]
      have hI1 : rsI s f n k i' p (atS u i') := rsI_at hI
      -- the end, with the state at 86
      have done : ∀ w : SM, rsI s f n k i' p w → (i' < n → ¬ (isSg (f i') = true ∧ p.length < 24)) → RnQ ZR mX12_readSentence (86, [some (.ref 0), some (.int (nI k))], [], w) (rsQ s f k d i p) := by
        intro w hw hno
        have ev2 := m_ahead w n i' hw.1.1 h2 hw.1.2.1 (by omega)
        have hsk : skp f (n - i') i' = i' := by
          by_cases q : i' < n
          · have hne : f i' ≠ 32 := by
              rw [hi']
              exact skp_ne f d i (by rw [← hi']; omega)
            obtain ⟨e, he⟩ : ∃ e, n - i' = e + 1 := ⟨n - i' - 1, by omega⟩
            rw [he, skp, if_neg hne]
          · rw [show n - i' = 0 by omega, skp]
        rw [hw.1.2.2.2.1, hsk, atS_self hw.1.2.1] at ev2
        refine RQ_n ZR_ok 1 rfl trivial ?_
        refine RQ_v vX12_ahead ev2 rfl k12_180 rfl rfl rfl rfl rfl ?_
        refine RQ_n ZR_ok 1 rfl trivial ?_
        by_cases q : i' < n
        · have hfl : sF f d i p.length = some i' := by
            have hne : f i' ≠ 32 := by
              rw [hi']
              exact skp_ne f d i (by rw [← hi']; omega)
            obtain ⟨e, he⟩ : ∃ e, n - i' = e + 1 := ⟨n - i' - 1, by omega⟩
            rw [hF, he, sF, if_neg hne, if_neg (hno q)]
          have hah : aht f n i' = f i' := by unfold aht; rw [if_pos q]
          refine RQ_b rfl (fun z => absurd (show aht f n i' = -1 from z) (by rw [hah]; exact hb i' q)) (fun _ => ?_)
          refine RQ_n ZR_ok 1 rfl trivial ?_
          refine RQ_v vX12_bad (m_bad w hw.1.2.2.1) rfl k12_203 rfl rfl rfl rfl rfl ?_
          refine RQ_n ZR_ok 2 rfl trivial ?_
          refine RQ_to (Rn_iret rfl rfl) ⟨?_, hw.2.1.tr (frM.i 4 (by decide)), hw.2.2.1, hw.2.2.2.1, fun z => ?_⟩
          · rw [hfl]
            show some (Value.int (w.1 3)) = _
            rw [hw.1.2.1]; rfl
          · rw [hfl] at z; cases z
        · have hnn : sF f d i p.length = none := by rw [hF, show n - i' = 0 by omega, sF]
          have hll : sL f d i = [] := by rw [hL, show n - i' = 0 by omega, sL]
          have hah : aht f n i' = -1 := by unfold aht; rw [if_neg q]
          refine RQ_b rfl (fun _ => ?_) (fun z => absurd (show aht f n i' = -1 from hah) z)
          refine RQ_n ZR_ok 2 rfl trivial ?_
          refine RQ_to (Rn_iret rfl rfl) ⟨?_, hw.2.1, hw.2.2.1, hw.2.2.2.1, fun _ => ?_⟩
          · rw [hnn]
            show some (Value.int (w.1 4)) = _
            rw [hw.1.2.2.1]; rfl
          · rw [hll, List.append_nil]
            exact ⟨hw.1.2.2.2.2, hp, hw.2.2.2.2⟩
      refine RQ_n ZR_ok 1 rfl trivial ?_
      refine RQ_v vX12_ahead ev rfl k12_180 rfl rfl rfl rfl rfl ?_
      refine RQ_s vX12_isSign (e_isSign (atS u i') (aht f n i')) rfl k12_191 rfl rfl rfl rfl ?_
      refine RQ_b rfl (fun q => ?_) (fun q => ?_)
      · have q := bI_0.mp q
        refine done (atS u i') hI1 (fun h9 z => ?_)
        unfold aht at q
        rw [if_pos h9, z.1] at q
        cases q
      · have q := bI_t q
        have hlt : i' < n := by
          apply Classical.byContradiction
          intro z
          unfold aht at q
          rw [if_neg z] at q
          exact absurd q (by decide)
        have hsg : isSg (f i') = true := by unfold aht at q; rw [if_pos hlt] at q; exact q
        have h13 : (atS u i').2.1 13 (nI k).toNatClampNeg = nI p.length := by rw [hkc]; exact hI1.1.2.2.2.2
        refine RQ_n ZR_ok 5 rfl ⟨hk5, trivial⟩ ?_
        refine RQ_b rfl (fun q2 => ?_) (fun q2 => ?_)
        · have q2 : (24 : Int32) ≤ (atS u i').2.1 13 (nI k).toNatClampNeg := q2
          refine done (atS u i') hI1 (fun _ z => ?_)
          rw [h13] at q2
          exact absurd q2 (nI_ge (b := 24) z.2 (by omega))
        · have q2 : ¬ (24 : Int32) ≤ (atS u i').2.1 13 (nI k).toNatClampNeg := q2
          have hc : p.length < 24 := by
            apply Classical.byContradiction
            intro z
            apply q2
            rw [h13]
            exact nI_le (a := 24) (by omega) (by omega)
          have hix : (24 * nI k + (atS u i').2.1 13 (nI k).toNatClampNeg) = nI (24 * k + p.length) := by
            rw [h13, ← nI_add, ← nI_mul]; rfl
          have hic : (nI (24 * k + p.length)).toNatClampNeg = 24 * k + p.length := nI_clamp (by omega)
          have hne : f i' ≠ 32 := by
            rw [hi']
            exact skp_ne f d i (by rw [← hi']; omega)
          obtain ⟨e, he⟩ : ∃ e, n - i' = e + 1 := ⟨n - i' - 1, by omega⟩
          have hF2 : sF f d i p.length = sF f e (i' + 1) (p ++ [f i']).length := by rw [hF, he, sF, if_neg hne, if_pos ⟨hsg, hc⟩, List.length_append, List.length_singleton]
          have hL2 : p ++ sL f d i = (p ++ [f i']) ++ sL f e (i' + 1) := by rw [hL, he, sL, if_neg hne, List.append_assoc, List.singleton_append]
          refine RQ_n ZR_ok 31 rfl ⟨hk5, nI_in (by omega) (by omega), by rw [hix]; exact nI_in (by omega) (by omega), hk5, hk5, trivial⟩ ?_
          refine RQ_mono (ih e (by omega) (i' + 1) (p ++ [f i']) _ (by omega) (by rw [List.length_append, List.length_singleton]; omega) ?_) (fun r s' h => ?_)
          · refine ⟨⟨hI1.1.1, ?_, hI1.1.2.2.1, hI1.1.2.2.2.1, ?_⟩, ?_, ?_, ?_, ?_⟩
            · show nI i' + 1 = nI (i' + 1)
              exact nI_1 i'
            · rw [List.length_append, List.length_singleton, ← nI_1]
              show upd _ (nI k).toNatClampNeg _ k = _
              rw [hkc, upd_at]
              show (atS u i').2.1 13 k + 1 = _
              rw [hI1.1.2.2.2.2]
            · exact ((hI1.2.1.tr (frM.a 12 (by decide))).tr (frM.a 13 (by decide))).tr (frM.i 3 (by decide))
            · intro j hj
              show upd _ (nI k).toNatClampNeg _ j = _
              rw [hkc, upd_ne hj]
              exact hI1.2.2.1 j hj
            · intro j hj
              show upd _ (24 * nI k + (atS u i').2.1 13 (nI k).toNatClampNeg).toNatClampNeg _ j = _
              rw [hix, hic, upd_ne (by omega)]
              exact hI1.2.2.2.1 j hj
            · intro j hj
              show upd _ (24 * nI k + (atS u i').2.1 13 (nI k).toNatClampNeg).toNatClampNeg _ (24 * k + j) = _
              rw [hix, hic]
              rw [List.length_append, List.length_singleton] at hj
              by_cases z : j = p.length
              · subst z
                rw [upd_at]
                show (atS u i').2.1 1 ((nI i').toNatClampNeg) = _
                rw [nI_clamp (by omega), hI1.1.2.2.2.1]
                simp
              · rw [upd_ne (by omega)]
                rw [List.getD_eq_getElem?_getD, List.getElem?_append_left (by omega), ← List.getD_eq_getElem?_getD]
                exact hI1.2.2.2.2 j (by omega)
          · obtain ⟨a1, a2, a3, a4, a5⟩ := h
            refine ⟨by rw [hF2]; exact a1, a2, a3, a4, fun z => ?_⟩
            rw [hF2] at z
            rw [hL2]
            exact a5 z
  refine RQ_n ZR_ok 11 rfl ⟨hk5, trivial⟩ ?_
  refine key n 0 [] _ (by omega) (by decide) ⟨⟨hn, rfl, rfl, hf.symm, ?_⟩, ?_, ?_, fun _ _ => rfl, fun j hj => absurd hj (Nat.not_lt_zero _)⟩
  · show upd _ (nI k).toNatClampNeg _ k = _
    rw [hkc, upd_at]; rfl
  · exact ((frM.rf.tr (frM.i 3 (by decide))).tr (frM.i 4 (by decide))).tr (frM.a 13 (by decide))
  · intro j hj
    show upd _ (nI k).toNatClampNeg _ j = _
    rw [hkc, upd_ne hj]
