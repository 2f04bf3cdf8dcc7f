/-! numberSigns, addRule, addLetter, addOuterRule of the class. -/
theorem bt_1 (j : Nat) (hj : j < 32) : bt 1 j = decide (j = 0) := by
  have : ∀ j, j < 32 → bt 1 j = decide (j = 0) := by decide +kernel
  exact this j hj
theorem sh_bit (w : Int32) {i : Nat} (hi : i < 32) : (w >>> (nI i &&& 31)) &&& 1 = if bt w i = true then 1 else 0 := by
  apply b_ext
  intro j hj
  rw [b_and, bt_1 j hj, b_sshr i hi w hj]
  by_cases z : j = 0
  · subst z
    rw [decide_eq_true rfl, Bool.and_true, Nat.add_zero, if_pos hi]
    cases hb : bt w i with
    | true => rw [if_pos rfl]; rfl
    | false => rw [if_neg (by decide)]; rfl
  · rw [decide_eq_false z, Bool.and_false]
    by_cases y : bt w i = true
    · rw [if_pos y, bt_1 j hj, decide_eq_false z]
    · rw [if_neg y, b_0]
theorem hasB_bt (w : Int32) {i : Nat} (hi : i < 32) : hasB w (nI i) = bt w i := by
  unfold hasB
  rw [sh_bit w hi]
  cases bt w i with
  | true => rw [if_pos rfl]; decide
  | false => rw [if_neg (by decide)]; decide
/-- the class's signs: those of the first i letters are numbered -/
def sgI (s : SX) (w : Int32) (i : Nat) (u : SX) : Prop :=
  u.1 3 2 = nI (sgs w i).1 ∧ (∀ k, k < (sgs w i).1 → u.2.1 9 k = nI ((sgs w i).2 k)) ∧ (∀ j, j < 26 → u.2.1 10 j = if j < i ∧ bt w j = true then nI (sgs w j).1 else 99) ∧ frX [(3, 2)] [9, 10] s u
set_option maxHeartbeats 4000000 in
theorem x_numberSigns (s : SX) (n : Nat) (hn : s.1 1 1 = nI n) (h2 : n ≤ 240) (h8 : ctI (so (s.2.1 2) n 0 0) 26 ≤ 8) :
    EvQ ZX mX5_numberSigns [.ref 3, .ref 1] s (fun r u => r = none ∧ sgI s (so (s.2.1 2) n 0 0) 26 u) := by
  obtain ⟨f, hf⟩ : ∃ f, f = s.2.1 2 := ⟨_, rfl⟩
  rw [← hf] at h8 ⊢
  refine EQ_V vX5_numberSigns rfl ?_
  have first : ∀ d i a, i + d = n → RnQ ZX mX5_numberSigns (44, [some (.ref 3), some (.ref 1), some (.int (so f d i a)), none], [], s) (fun r u => r = none ∧ sgI s (so f n 0 0) 26 u) →
      RnQ ZX mX5_numberSigns (4, [some (.ref 3), some (.ref 1), some (.int a), some (.int (nI i))], [], s) (fun r u => r = none ∧ sgI s (so f n 0 0) 26 u) := by
    intro d
    induction d with
    | zero =>
      intro i a hd k
      have hin : i = n := by omega
      subst hin
      refine RQ_n ZX_ok 3 rfl trivial ?_
      refine RQ_b rfl (fun _ => ?_) (fun q => absurd (by show s.1 1 1 ≤ nI i; rw [hn]; exact Int32.le_refl _) q)
      exact RQ_le (zle_s (zle_s (zle_s (zle_n zle_0)))) k
    | succ d ih =>
      intro i a hd k
      have hge : ¬ (s.1 1 1 ≤ nI i) := by rw [hn]; exact nI_ge (by omega) (by omega)
      have hin : vp_in (nI i) 240 := nI_in (by omega) (by omega)
      have hcl : (nI i).toNatClampNeg = i := nI_clamp (by omega)
      have hx : s.2.1 2 (nI i).toNatClampNeg = f i := by rw [hcl, hf]
      refine RQ_n ZX_ok 3 rfl trivial ?_
      refine RQ_b rfl (fun q => absurd q hge) (fun _ => ?_)
      refine RQ_n ZX_ok 4 rfl ⟨hin, trivial⟩ ?_
      refine RQ_s vX10_isSignByte (x_isSignByte s (s.2.1 2 (nI i).toNatClampNeg)) rfl k5_60 rfl rfl rfl rfl ?_
      rw [hx]
      refine RQ_b rfl (fun q => ?_) (fun q => ?_)
      · have q := bI_0.mp q
        refine RQ_n ZX_ok 2 rfl trivial ?_
        have h0 := ih (i + 1) a (by omega) (by rw [so, if_neg (by rw [q]; decide)] at k; exact k)
        rw [nI_succ] at h0
        exact h0
      · have q := bI_t q
        refine RQ_n ZX_ok 13 rfl ⟨hin, trivial⟩ ?_
        have h0 := ih (i + 1) (a ||| sB (f i)) (by omega) (by rw [so, if_pos q] at k; exact k)
        rw [nI_succ, ← hx] at h0
        exact h0
  obtain ⟨w, hw⟩ : ∃ w, w = so f n 0 0 := ⟨_, rfl⟩
  have second : ∀ d i u, i + d = 26 → sgI s w i u → RnQ ZX mX5_numberSigns (60, [some (.ref 3), some (.ref 1), some (.int w), some (.int (nI i))], [], u) (fun r u => r = none ∧ sgI s w 26 u) := by
    intro d
    induction d with
    | zero =>
      intro i u hd h
      have hin : i = 26 := by omega
      subst hin
      refine RQ_n ZX_ok 2 rfl trivial ?_
      refine RQ_b rfl (fun _ => ?_) (fun q => absurd (Int32.le_refl _) q)
      exact RQ_to (Rn_vret rfl rfl) ⟨rfl, h⟩
    | succ d ih =>
      intro i u hd h
      have hic : (nI i).toNatClampNeg = i := nI_clamp (by omega)
      refine RQ_n ZX_ok 2 rfl trivial ?_
      refine RQ_b rfl (fun q => absurd (show (26 : Int32) ≤ nI i from q) (nI_ge (b := 26) (by omega) (by omega))) (fun _ => ?_)
      refine RQ_n ZX_ok 5 rfl trivial ?_
      have turn : ∀ u', sgI s w (i + 1) u' → RnQ ZX mX5_numberSigns (113, [some (.ref 3), some (.ref 1), some (.int w), some (.int (nI i))], [], u') (fun r u => r = none ∧ sgI s w 26 u) := by
        intro u' h'
        refine RQ_n ZX_ok 2 rfl trivial ?_
        have h0 := ih (i + 1) u' (by omega) h'
        rw [nI_succ] at h0
        exact h0
      refine RQ_b rfl (fun q => ?_) (fun q => ?_)
      · have q : (w >>> (nI i &&& 31)) &&& 1 = 0 := q
        have hb : ¬ bt w i = true := by
          intro z
          rw [sh_bit w (by omega), if_pos z] at q
          exact absurd q (by decide)
        refine turn u ⟨?_, ?_, fun j hj => ?_, h.2.2.2⟩
        · rw [sgs, if_neg hb]; exact h.1
        · rw [sgs, if_neg hb]; exact h.2.1
        · rw [h.2.2.1 j hj]
          by_cases z : j < i ∧ bt w j = true
          · rw [if_pos z, if_pos ⟨by omega, z.2⟩]
          · rw [if_neg z, if_neg]
            intro y
            refine z ⟨?_, y.2⟩
            have : j ≠ i := fun e => hb (by rw [← e]; exact y.2)
            omega
      · have q : ¬ (w >>> (nI i &&& 31)) &&& 1 = 0 := q
        have hb : bt w i = true := by
          cases z : bt w i with
          | true => rfl
          | false => rw [sh_bit w (by omega), z, if_neg (by decide)] at q; exact absurd rfl q
        have hlt : (sgs w i).1 < 8 := by
          have := (sgs_at w hb (25 - i)).1
          rw [show i + 1 + (25 - i) = 26 by omega, sgs_ct w 26] at this
          rw [← hw] at h8
          omega
        have h32 : u.1 3 2 = nI (sgs w i).1 := h.1
        have hcc : (nI (sgs w i).1).toNatClampNeg = (sgs w i).1 := nI_clamp (by omega)
        refine RQ_n ZX_ok 3 rfl trivial ?_
        refine RQ_b rfl (fun z => absurd (show (8 : Int32) ≤ u.1 3 2 from z) (by rw [h32]; exact nI_ge (b := 8) hlt (by omega))) (fun _ => ?_)
        refine RQ_n ZX_ok 18 rfl ⟨nI_in (by omega) (by omega), by show vp_in (u.1 3 2) 8; rw [h32]; exact nI_in (by omega) (by omega), trivial⟩ ?_
        refine turn _ ⟨?_, fun k hk => ?_, fun j hj => ?_, ?_⟩
        · rw [sgs, if_pos hb]
          show u.1 3 2 + 1 = nI ((sgs w i).1 + 1)
          rw [h32, nI_1]
        · rw [sgs, if_pos hb] at hk ⊢
          have hk : k < (sgs w i).1 + 1 := hk
          show upd (u.2.1 9) (u.1 3 2).toNatClampNeg (nI i) k = nI (if k = (sgs w i).1 then i else (sgs w i).2 k)
          rw [h32, hcc]
          by_cases z : k = (sgs w i).1
          · rw [z, upd_at, if_pos rfl]
          · rw [upd_ne z, if_neg z]
            exact h.2.1 k (by omega)
        · show upd (u.2.1 10) (nI i).toNatClampNeg (u.1 3 2) j = _
          rw [hic]
          by_cases z : j = i
          · rw [z, upd_at, h32, if_pos ⟨by omega, hb⟩]
          · rw [upd_ne z, h.2.2.1 j hj]
            by_cases y : j < i ∧ bt w j = true
            · rw [if_pos y, if_pos ⟨by omega, y.2⟩]
            · rw [if_neg y, if_neg (fun v => y ⟨by omega, v.2⟩)]
        · exact ((h.2.2.2.tr (frX.a 10 (by decide))).tr (frX.a 9 (by decide))).tr (frX.i 3 2 (by decide))
  refine RQ_n ZX_ok 4 rfl trivial ?_
  refine first n 0 0 (by omega) ?_
  rw [← hw]
  refine RQ_n ZX_ok 6 rfl trivial ?_
  refine RQ_S vJ7_fill_53178 (x_fill_10 _ 99) rfl k5_80 rfl rfl rfl (fun r1 s1 h => h.2.1.n) (fun r1 u1 h => ?_)
  obtain ⟨rfl, a1, a2⟩ := h
  refine RQ_n ZX_ok 2 rfl trivial ?_
  refine second 26 0 u1 (by omega) ⟨?_, fun k hk => absurd hk (Nat.not_lt_zero _), fun j hj => ?_, ?_⟩
  · rw [a1.1 3 2 (by decide)]; rfl
  · rw [a2 j hj, if_neg (fun z => absurd z.1 (Nat.not_lt_zero _))]
  · exact (frX.i 3 2 (by decide)).tr (a1.up (by decide) (by decide))
theorem x_addRule (s : SX) (R : Nat) (v : Int32) (hR : s.1 3 0 = nI R) (h : R < 16) : EvQ ZX mX5_addRule [.ref 3, .int v] s (fun r u => r = none ∧ u.1 3 0 = nI (R + 1) ∧ u.2.1 4 = upd (s.2.1 4) R v ∧ u.2.1 5 = upd (s.2.1 5) R 0 ∧ frX [(3, 0)] [4, 5] s u) := by
  have hc : (s.1 3 0).toNatClampNeg = R := by rw [hR]; exact nI_clamp (by omega)
  have hin : vp_in (s.1 3 0) 17 := by rw [hR]; exact nI_in (by omega) (by omega)
  refine EQ_V vX5_addRule rfl ?_
  refine RQ_n ZX_ok 3 rfl trivial ?_
  refine RQ_b rfl (fun z => absurd (show (16 : Int32) ≤ s.1 3 0 from z) (by rw [hR]; exact nI_ge (b := 16) h (by omega))) (fun _ => ?_)
  refine RQ_n ZX_ok 18 rfl ⟨hin, hin, trivial⟩ ?_
  refine RQ_to (Rn_vret rfl rfl) ⟨rfl, ?_, ?_, ?_, ?_⟩
  · show s.1 3 0 + 1 = _
    rw [hR, nI_1]
  · show upd (s.2.1 4) (s.1 3 0).toNatClampNeg v = _
    rw [hc]
  · show upd (s.2.1 5) (s.1 3 0).toNatClampNeg 0 = _
    rw [hc]
  · exact ((frX.rf.tr (frX.a 4 (by decide))).tr (frX.a 5 (by decide))).tr (frX.i 3 0 (by decide))
theorem x_addLetter (s : SX) (m c : Nat) (v : Int32) (hR : s.1 3 0 = nI (m + 1)) (h : m < 16) (hc : s.2.1 5 m = nI c) (h5 : c < 5) : EvQ ZX mX5_addLetter [.ref 3, .int v] s (fun r u => r = none ∧ u.2.1 5 = upd (s.2.1 5) m (nI (c + 1)) ∧ u.2.1 6 = upd (s.2.1 6) (5 * m + c) v ∧ frX [] [5, 6] s u) := by
  have h1 : s.1 3 0 - 1 = nI m := by rw [hR, nI_pred]
  have hmc : (nI m).toNatClampNeg = m := nI_clamp (by omega)
  have hin : vp_in (s.1 3 0 - 1) 17 := by rw [h1]; exact nI_in (by omega) (by omega)
  have hcl : (s.1 3 0 - 1).toNatClampNeg = m := by rw [h1, hmc]
  have hix : (s.1 3 0 - 1) * 5 + s.2.1 5 (s.1 3 0 - 1).toNatClampNeg = nI (5 * m + c) := by
    rw [hcl, hc, h1, show (5 : Int32) = nI 5 from rfl, nI_mul, nI_add, Nat.mul_comm m 5]
  have hic : (nI (5 * m + c)).toNatClampNeg = 5 * m + c := nI_clamp (by omega)
  refine EQ_V vX5_addLetter rfl ?_
  refine RQ_n ZX_ok 6 rfl trivial ?_
  refine RQ_b rfl (fun q => absurd (show s.1 3 0 - 1 < 0 from q) (by rw [h1]; exact nI_pos (by omega))) (fun _ => ?_)
  refine RQ_n ZX_ok 5 rfl ⟨hin, trivial⟩ ?_
  refine RQ_b rfl (fun q => absurd (show (5 : Int32) ≤ s.2.1 5 (s.1 3 0 - 1).toNatClampNeg from q) (by rw [hcl, hc]; exact nI_ge (b := 5) (by omega) (by omega))) (fun _ => ?_)
  refine RQ_n ZX_ok 20 rfl ⟨hin, by rw [hix]; exact nI_in (by omega) (by omega), hin, hin, trivial⟩ ?_
  refine RQ_to (Rn_vret rfl rfl) ⟨rfl, ?_, ?_, ?_⟩
  · show upd (s.2.1 5) (s.1 3 0 - 1).toNatClampNeg (s.2.1 5 (s.1 3 0 - 1).toNatClampNeg + 1) = _
    rw [hcl, hc, nI_1]
  · show upd (s.2.1 6) ((s.1 3 0 - 1) * 5 + s.2.1 5 (s.1 3 0 - 1).toNatClampNeg).toNatClampNeg v = _
    rw [hix, hic]
  · exact (frX.rf.tr (frX.a 6 (by decide))).tr (frX.a 5 (by decide))
theorem x_addOuterRule (s : SX) (R : Nat) (hR : s.1 3 0 = nI R) (h : R ≤ 16) : EvQ ZX mX5_addOuterRule [.ref 3] s (fun r u => r = none ∧ u.2.1 4 = upd (s.2.1 4) R (-1) ∧ u.2.1 5 = upd (s.2.1 5) R 1 ∧ u.2.1 6 = upd (s.2.1 6) (5 * R) 8 ∧ frX [] [4, 5, 6] s u) := by
  have hc : (s.1 3 0).toNatClampNeg = R := by rw [hR]; exact nI_clamp (by omega)
  have hin : vp_in (s.1 3 0) 17 := by rw [hR]; exact nI_in (by omega) (by omega)
  have h5 : s.1 3 0 * 5 = nI (5 * R) := by rw [hR, show (5 : Int32) = nI 5 from rfl, nI_mul, Nat.mul_comm]
  have h5c : (nI (5 * R)).toNatClampNeg = 5 * R := nI_clamp (by omega)
  refine EQ_V vX5_addOuterRule rfl ?_
  refine RQ_n ZX_ok 20 rfl ⟨hin, hin, by rw [h5]; exact nI_in (by omega) (by omega), trivial⟩ ?_
  refine RQ_to (Rn_vret rfl rfl) ⟨rfl, ?_, ?_, ?_, ?_⟩
  · show upd (s.2.1 4) (s.1 3 0).toNatClampNeg (-1) = _
    rw [hc]
  · show upd (s.2.1 5) (s.1 3 0).toNatClampNeg 1 = _
    rw [hc]
  · show upd (s.2.1 6) (s.1 3 0 * 5).toNatClampNeg 8 = _
    rw [h5, h5c]
  · exact ((frX.rf.tr (frX.a 4 (by decide))).tr (frX.a 5 (by decide))).tr (frX.a 6 (by decide))
