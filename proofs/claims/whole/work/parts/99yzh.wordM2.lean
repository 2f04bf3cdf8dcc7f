/-! The reference: a word laid. -/
theorem zlm_8 {x : Nat} (h : x < 8) : zlm x = x := by unfold zlm; rw [if_pos h]
theorem zlm_n {x : Nat} (h : 8 ≤ x) : zlm x = 92 + x := by unfold zlm; rw [if_neg (by omega)]
theorem nIdec (x : Nat) : nI (x + 1) + -1 = nI x := by
  have := nI_pred x
  rw [← this, Int32.sub_eq_add_neg]
section WrdN
variable {G : ZGT} {s : SM} {S : Nat → Nat} {len : Nat} {w : Nat → Nat}
theorem m_leftmost (hW : WM len w s) (hl : len ≤ 60) (hw : ∀ i, i < len → w i < 14) : Ev ZR mX12_leftmost [.ref 0] s (some (.int (fI (zlfm w len)))) s := by
  refine EQ_ev (EQ_V vX12_leftmost rfl ?_)
  obtain ⟨Q, hQ⟩ : ∃ Q : Option Value → SM → Prop, Q = (fun x v => x = some (.int (fI (zlfm w len))) ∧ v = s) := ⟨_, rfl⟩
  rw [← hQ]
  refine RQ_n ZR_ok 2 rfl trivial ?_
  refine loopU len (fun k (_ : Unit) => [some (.ref 0), some (.int (nI k))]) (fun k _ v => v = s ∧ ∀ i, i < k → w i < 8) ?_ 0 () s (by omega) ⟨rfl, fun i hi => by omega⟩
  intro k _ v hk hJ ih
  obtain ⟨rfl, k1⟩ := hJ
  refine RQ_n ZR_ok 3 rfl trivial ?_
  refine RQ_b rfl (fun q => ?_) (fun q => ?_)
  · have q := (zq_le (a := len) (b := k) hW.1 rfl (by omega) (by omega)).mp q
    refine RQ_n ZR_ok 1 rfl trivial ?_
    rw [hQ]
    refine RQ_to (Rn_iret rfl rfl) ⟨?_, rfl⟩
    rw [show zlfm w len = none from zfst_n.mpr (fun b hb => decide_eq_false (by have := k1 b (by omega); omega))]; rfl
  have q := (not_congr (zq_le (a := len) (b := k) hW.1 rfl (by omega) (by omega))).mp q
  have hk14 := hw k (by omega)
  refine RQ_n ZR_ok 5 rfl ⟨nI_in (by omega) (by omega), trivial⟩ ?_
  rw [nI_clamp (by omega), hW.2 k (by omega)]
  by_cases h8 : w k < 8
  · rw [zlm_8 h8]
    refine RQ_b rfl (fun _ => ?_) (fun q2 => ?_)
    · refine RQ_n ZR_ok 2 rfl trivial ?_
      exact ih (by omega) () _ _ ⟨rfl, nIs k, trivial⟩ ⟨rfl, fun i hi => by
        by_cases y : i = k
        · rw [y]; omega
        · exact k1 i (by omega)⟩
    · have q2 := (zq_le (a := 100) (b := w k) rfl rfl (by omega) (by omega)).mp (Int32.not_lt.mp q2)
      omega
  · rw [zlm_n (by omega)]
    refine RQ_b rfl (fun q2 => ?_) (fun _ => ?_)
    · have q2 := (not_congr (zq_le (a := 100) (b := 92 + w k) rfl rfl (by omega) (by omega))).mp (Int32.not_le.mpr q2)
      omega
    refine RQ_n ZR_ok 1 rfl trivial ?_
    rw [hQ]
    refine RQ_to (Rn_iret rfl rfl) ⟨?_, rfl⟩
    rw [show zlfm w len = some k from zfst_i (by omega) (decide_eq_true (by omega)) (fun b hb => decide_eq_false (by have := k1 b hb; omega))]; rfl
theorem m_replaceF (h : ZGM G s) (hW : WM len w s) (hl : len ≤ 60) {a r : Nat} (ha : a < len) (hr : r < zgR G) (h60 : 60 < len + zgn G r - 1) : Ev ZR mX12_replace [.ref 0, .int (nI a), .int (nI r)] s (some (.int 0)) s := by
  have hb := h.b
  have hn := h.1.n (show r ≤ zgR G by omega)
  refine EQ_ev (EQ_V vX12_replace rfl ?_)
  refine RQ_n ZR_ok 4 rfl ⟨nI_in (by omega) (by omega), trivial⟩ ?_
  rw [nI_clamp (by omega), h.n (by omega)]
  refine RQ_n ZR_ok 8 rfl trivial ?_
  rw [hW.1, show nI (zgn G r) - 1 = nI (zgn G r - 1) from by rw [show (1 : Int32) = nI 1 from rfl, nI_sub (by omega)], nI_add]
  refine RQ_b rfl (fun q => ?_) (fun _ => ?_)
  · have q := (zq_le (a := len + (zgn G r - 1)) (b := 60) rfl rfl (by omega) (by omega)).mp q
    omega
  refine RQ_n ZR_ok 1 rfl trivial ?_
  exact RQ_to (Rn_zret rfl rfl (Or.inl rfl)) ⟨rfl, rfl⟩
theorem m_replaceT (h : ZGM G s) (hW : WM len w s) (hl : len ≤ 60) {a r : Nat} (ha : a < len) (hr : r < zgR G) (h60 : ¬ 60 < len + zgn G r - 1) : EvQ ZR mX12_replace [.ref 0, .int (nI a), .int (nI r)] s (fun x v => x = some (.int 1) ∧ WM (len + zgn G r - 1) (zrp G w a r) v ∧ frM [73] [72] s v) := by
  have hb := h.b
  have hn := h.1.n (show r ≤ zgR G by omega)
  have hnr := h.n (show r ≤ zgR G by omega)
  obtain ⟨n, hnn⟩ : ∃ n, n = zgn G r := ⟨_, rfl⟩
  rw [← hnn] at hn h60 hnr ⊢
  have hrin : vp_in (nI r) 17 := nI_in (by omega) (by omega)
  have hrc : (nI r).toNatClampNeg = r := nI_clamp (by omega)
  have hlen : nI len + (nI n - 1) = nI (len + n - 1) := by
    by_cases hi0 : n = 0
    · subst hi0
      rw [show len + 0 - 1 = len - 1 by omega]
      have : nI len - 1 = nI (len - 1) := by rw [show (1 : Int32) = nI 1 from rfl, nI_sub (by omega)]
      rw [← this]
      show nI len + (0 - 1) = nI len - 1
      rw [Int32.zero_sub, ← Int32.sub_eq_add_neg]
    · rw [show (1 : Int32) = nI 1 from rfl, nI_sub (by omega), nI_add, show len + (n - 1) = len + n - 1 by omega]
  obtain ⟨Q, hQ⟩ : ∃ Q : Option Value → SM → Prop, Q = (fun x v => x = some (.int 1) ∧ WM (len + n - 1) (zrp G w a r) v ∧ frM [73] [72] s v) := ⟨_, rfl⟩
  rw [← hQ]
  refine EQ_V vX12_replace rfl ?_
  have p101 : ∀ (x4 : Int32) (v0 : SM), frM [] [72] s v0 → (∀ j, j < a → v0.2.1 72 j = nI (zlm (w j))) → (∀ j, a + n ≤ j → j < len + n - 1 → v0.2.1 72 j = nI (zlm (w (j + 1 - n)))) → RnQ ZR mX12_replace (101, [some (.ref 0), some (.int (nI a)), some (.int (nI r)), some (.int (nI n - 1)), some (.int x4)], [], v0) Q := by
    intro x4 v0 f0 c1 c2
    refine RQ_n ZR_ok 2 rfl trivial ?_
    refine loopU n (fun i (_ : Unit) => [some (.ref 0), some (.int (nI a)), some (.int (nI r)), some (.int (nI n - 1)), some (.int (nI i))]) (fun i _ v => frM [] [72] s v ∧ (∀ j, j < a → v.2.1 72 j = nI (zlm (w j))) ∧ (∀ j, j < i → v.2.1 72 (a + j) = nI (zlm (zgt G r j))) ∧ ∀ j, a + n ≤ j → j < len + n - 1 → v.2.1 72 j = nI (zlm (w (j + 1 - n)))) ?_ 0 () v0 (by omega) ⟨f0, c1, fun j hj => by omega, c2⟩
    intro i _ v hi hJ ih
    obtain ⟨g1, g2, g3, g4⟩ := hJ
    refine RQ_n ZR_ok 5 rfl ⟨hrin, trivial⟩ ?_
    rw [hrc, g1.2.1 19 (by decide), hnr]
    refine RQ_b rfl (fun q => ?_) (fun q => ?_)
    · have q := (zq_le (a := n) (b := i) rfl rfl (by omega) (by omega)).mp q
      have hin : i = n := by omega
      subst hin
      refine RQ_n ZR_ok 7 rfl trivial ?_
      rw [hQ]
      refine RQ_to (Rn_zret rfl rfl (Or.inr rfl)) ⟨rfl, ⟨?_, fun j hj => ?_⟩, (g1.up (by decide) (by decide)).tr (frM.i 73 (by decide))⟩
      · show v.1 73 + (nI i - 1) = _
        rw [g1.1 73 (fun y => by cases y), hW.1]; exact hlen
      · show v.2.1 72 j = _
        unfold zrp
        rw [← hnn]
        by_cases j1 : j < a
        · rw [if_pos j1]; exact g2 j j1
        · rw [if_neg j1]
          by_cases j2 : j < a + i
          · rw [if_pos j2]
            have := g3 (j - a) (by omega)
            rw [show a + (j - a) = j by omega] at this
            exact this
          · rw [if_neg j2]; exact g4 j (by omega) hj
    have q := (not_congr (zq_le (a := n) (b := i) rfl rfl (by omega) (by omega))).mp q
    have hG : ZGM G v := h.fr (g1.up (ks2 := []) (as2 := [72]) (by decide) (by decide)) (by decide)
    refine RQ_n ZR_ok 8 rfl trivial ?_
    rw [show nI a + nI i = nI (a + i) from nI_add _ _]
    refine RQ_v vX12_letterAt (m_letterAt hG (r := r) (i := i) (by omega) (by omega)) rfl k12_275 rfl rfl rfl rfl rfl ?_
    refine RQ_n ZR_ok 3 rfl ⟨nI_in (by omega) (by omega), trivial⟩ ?_
    rw [nI_clamp (by omega)]
    refine ih (by omega) () _ _ ⟨rfl, rfl, rfl, rfl, nIs i, trivial⟩ ⟨g1.tr (frM.a 72 (by decide)), fun j hj => ?_, fun j hj => ?_, fun j hj1 hj2 => ?_⟩
    · show upd (v.2.1 72) (a + i) (nI (zlm (zgt G r i))) j = _
      rw [upd_ne (by omega)]; exact g2 j hj
    · show upd (v.2.1 72) (a + i) (nI (zlm (zgt G r i))) (a + j) = _
      by_cases y : j = i
      · subst y; rw [upd_at]
      · rw [upd_ne (by omega)]; exact g3 j (by omega)
    · show upd (v.2.1 72) (a + i) (nI (zlm (zgt G r i))) j = _
      rw [upd_ne (by omega)]; exact g4 j hj1 hj2
  refine RQ_n ZR_ok 4 rfl ⟨hrin, trivial⟩ ?_
  rw [hrc, hnr]
  refine RQ_n ZR_ok 8 rfl trivial ?_
  rw [hW.1, hlen]
  refine RQ_b rfl (fun _ => ?_) (fun q => absurd ((zq_le (a := len + n - 1) (b := 60) rfl rfl (by omega) (by omega)).mpr (by omega)) q)
  refine RQ_n ZR_ok 1 rfl trivial ?_
  by_cases hn1 : 1 < n
  · obtain ⟨m, hm⟩ : ∃ m, n = m + 1 := ⟨n - 1, by omega⟩
    have em : nI n - 1 = nI m := by rw [hm]; exact nI_pred m
    rw [em] at p101
    rw [em]
    refine RQ_b rfl (fun q => ?_) (fun _ => ?_)
    · have q := (zq_le (a := m) (b := 0) rfl rfl (by omega) (by omega)).mp q
      omega
    refine RQ_n ZR_ok 5 rfl trivial ?_
    rw [hW.1, show nI len - 1 = nI (len - 1 - 0) from by rw [show (1 : Int32) = nI 1 from rfl, nI_sub (by omega), Nat.sub_zero]]
    refine loopU (len - 1 - a) (fun i (_ : Unit) => [some (.ref 0), some (.int (nI a)), some (.int (nI r)), some (.int (nI m)), some (.int (nI (len - 1 - i)))]) (fun i _ v => frM [] [72] s v ∧ (∀ j, j ≤ len - 1 - i → v.2.1 72 j = nI (zlm (w j))) ∧ ∀ j, len - 1 - i < j → j < len → v.2.1 72 (j + m) = nI (zlm (w j))) ?_ 0 () s (by omega) ⟨frM.rf, fun j hj => hW.2 j (by omega), fun j hj1 hj2 => by omega⟩
    · intro i _ v hi hJ ih
      obtain ⟨g1, g2, g3⟩ := hJ
      refine RQ_n ZR_ok 2 rfl trivial ?_
      refine RQ_b rfl (fun q => ?_) (fun q => ?_)
      · have q := (zq_le (a := len - 1 - i) (b := a) rfl rfl (by omega) (by omega)).mp q
        refine RQ_n ZR_ok 1 rfl trivial ?_
        refine p101 _ v g1 (fun j hj => g2 j (by omega)) (fun j hj1 hj2 => ?_)
        have := g3 (j + 1 - n) (by omega) (by omega)
        rw [show j + 1 - n + m = j by omega] at this
        exact this
      have q := (not_congr (zq_le (a := len - 1 - i) (b := a) rfl rfl (by omega) (by omega))).mp q
      refine RQ_n ZR_ok 5 rfl trivial ?_
      rw [show nI (len - 1 - i) + nI m = nI (len - 1 - i + m) from nI_add _ _]
      refine RQ_n ZR_ok 7 rfl ⟨nI_in (by omega) (by omega), nI_in (by omega) (by omega), trivial⟩ ?_
      rw [nI_clamp (show len - 1 - i < 2 ^ 31 by omega), nI_clamp (show len - 1 - i + m < 2 ^ 31 by omega), g2 (len - 1 - i) (by omega)]
      refine ih (by omega) () _ _ ⟨rfl, rfl, rfl, rfl, ?_, trivial⟩ ⟨g1.tr (frM.a 72 (by decide)), fun j hj => ?_, fun j hj1 hj2 => ?_⟩
      · show Value.int (nI (len - 1 - (i + 1))) = Value.int (nI (len - 1 - i) + -1)
        rw [show len - 1 - i = len - 1 - (i + 1) + 1 by omega, nIdec]
      · show upd (v.2.1 72) (len - 1 - i + m) (nI (zlm (w (len - 1 - i)))) j = _
        rw [upd_ne (by omega)]; exact g2 j (by omega)
      · show upd (v.2.1 72) (len - 1 - i + m) (nI (zlm (w (len - 1 - i)))) (j + m) = _
        by_cases y : j = len - 1 - i
        · subst y; rw [upd_at]
        · rw [upd_ne (by omega)]; exact g3 j (by omega) hj2
  · -- one letter, or none
    have hle : (nI n - 1 : Int32) ≤ 0 := by
      rcases (show n = 0 ∨ n = 1 by omega) with y | y <;> rw [y] <;> decide
    have hsh : ∀ k, a < k → k < len → nI k + (nI n - 1) = nI (k + n - 1) := by
      intro k hk1 hk2
      rcases (show n = 0 ∨ n = 1 by omega) with y | y
      · rw [y]
        show nI k + (0 - 1) = nI (k + 0 - 1)
        rw [Int32.zero_sub, ← Int32.sub_eq_add_neg, show (1 : Int32) = nI 1 from rfl, nI_sub (by omega), Nat.add_zero]
      · rw [y, show nI 1 - 1 = (0 : Int32) from rfl, Int32.add_zero, Nat.add_sub_cancel]
    refine RQ_b rfl (fun _ => ?_) (fun q => absurd hle q)
    refine RQ_n ZR_ok 4 rfl trivial ?_
    rw [show nI a + 1 = nI (a + 1 + 0) from (nI_succ a).symm]
    refine loopU (len - 1 - a) (fun i (_ : Unit) => [some (.ref 0), some (.int (nI a)), some (.int (nI r)), some (.int (nI n - 1)), some (.int (nI (a + 1 + i)))]) (fun i _ v => frM [] [72] s v ∧ (∀ j, j < a → v.2.1 72 j = nI (zlm (w j))) ∧ (∀ j, a < j → j < a + 1 + i → v.2.1 72 (j + n - 1) = nI (zlm (w j))) ∧ ∀ j, a + 1 + i ≤ j → j < len → v.2.1 72 j = nI (zlm (w j))) ?_ 0 () s (by omega) ⟨frM.rf, fun j hj => hW.2 j (by omega), fun j hj1 hj2 => by omega, fun j hj1 hj2 => hW.2 j hj2⟩
    · intro i _ v hi hJ ih
      obtain ⟨g1, g2, g3, g4⟩ := hJ
      refine RQ_n ZR_ok 3 rfl trivial ?_
      rw [g1.1 73 (fun y => by cases y), hW.1]
      refine RQ_b rfl (fun q => ?_) (fun q => ?_)
      · have q := (zq_le (a := len) (b := a + 1 + i) rfl rfl (by omega) (by omega)).mp q
        refine p101 _ v g1 g2 (fun j hj1 hj2 => ?_)
        have := g3 (j + 1 - n) (by omega) (by omega)
        rw [show j + 1 - n + n - 1 = j by omega] at this
        exact this
      have q := (not_congr (zq_le (a := len) (b := a + 1 + i) rfl rfl (by omega) (by omega))).mp q
      refine RQ_n ZR_ok 5 rfl trivial ?_
      rw [hsh (a + 1 + i) (by omega) (by omega)]
      refine RQ_n ZR_ok 7 rfl ⟨nI_in (by omega) (by omega), nI_in (by omega) (by omega), trivial⟩ ?_
      rw [nI_clamp (show a + 1 + i < 2 ^ 31 by omega), nI_clamp (show a + 1 + i + n - 1 < 2 ^ 31 by omega), g4 (a + 1 + i) (by omega) (by omega)]
      refine ih (by omega) () _ _ ⟨rfl, rfl, rfl, rfl, nIs (a + 1 + i), trivial⟩ ⟨g1.tr (frM.a 72 (by decide)), fun j hj => ?_, fun j hj1 hj2 => ?_, fun j hj1 hj2 => ?_⟩
      · show upd (v.2.1 72) (a + 1 + i + n - 1) (nI (zlm (w (a + 1 + i)))) j = _
        rw [upd_ne (by omega)]; exact g2 j hj
      · show upd (v.2.1 72) (a + 1 + i + n - 1) (nI (zlm (w (a + 1 + i)))) (j + n - 1) = _
        by_cases y : j = a + 1 + i
        · subst y; rw [upd_at]
        · rw [upd_ne (by omega)]; exact g3 j hj1 (by omega)
      · show upd (v.2.1 72) (a + 1 + i + n - 1) (nI (zlm (w (a + 1 + i)))) j = _
        rw [upd_ne (by omega)]; exact g4 j (by omega) hj2
end WrdN
