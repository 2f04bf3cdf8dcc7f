/-! A grammar's fault: one automaton over the bytes; the class's side. -/
def nB (x : Int32) : Int32 := 1 <<< ((x - 65) &&& 31)
def sB (x : Int32) : Int32 := 1 <<< ((x - 97) &&& 31)
def mny (nm sg : Int32) : Bool := decide (6 < bitC nm) || decide (8 < bitC sg)
theorem x_areMany (s : SX) (nm sg : Int32) : Ev ZX mX10_areMany [.int nm, .int sg] s (some (.int (bI (mny nm sg)))) s := by
  refine Ev_T vX10_areMany rfl ?_
  refine Rn_n ZX_ok 1 rfl trivial ?_
  refine Rn_S vJ6_bitCount_0f7a4 (e_bitCount ZX_ok s nm) rfl k10_30 rfl rfl rfl rfl ?_
  refine Rn_n ZX_ok 1 rfl trivial ?_
  refine Rn_b rfl (fun q => ?_) (fun q => ?_)
  · have q : 6 < bitC nm := q
    refine Rn_n ZX_ok 2 rfl trivial ?_
    exact Rn_to (Rn_zret rfl rfl (Or.inr rfl)) (by rw [mny, decide_eq_true q, Bool.true_or]; rfl) rfl
  · have q : ¬ 6 < bitC nm := q
    refine Rn_n ZX_ok 1 rfl trivial ?_
    refine Rn_S vJ6_bitCount_0f7a4 (e_bitCount ZX_ok s sg) rfl k10_30 rfl rfl rfl rfl ?_
    refine Rn_n ZX_ok 1 rfl trivial ?_
    refine Rn_b rfl (fun q2 => ?_) (fun q2 => ?_)
    · have q2 : ¬ 8 < bitC sg := Int32.not_lt.mpr q2
      refine Rn_n ZX_ok 1 rfl trivial ?_
      exact Rn_to (Rn_zret rfl rfl (Or.inl rfl)) (by rw [mny, decide_eq_false q, decide_eq_false q2]; rfl) rfl
    · have q2 : 8 < bitC sg := Int32.not_le.mp q2
      refine Rn_n ZX_ok 2 rfl trivial ?_
      exact Rn_to (Rn_zret rfl rfl (Or.inr rfl)) (by rw [mny, decide_eq_false q, decide_eq_true q2]; rfl) rfl
/-- stage (0 left, 1 equals, 2 right), rules, letters, names, left names, signs -/
abbrev gS : Type := Nat × Nat × Nat × Int32 × Int32 × Int32
def gck (q : gS) : Option gS := if 5 < q.2.2.1 then none else if mny q.2.2.2.1 q.2.2.2.2.2 = true then none else some q
def gnx (x : Int32) : gS → Option gS
  | (st, r, l, nm, lf, sg) => if isNm x = true ∧ st = 0 then gck (1, r, l, nm ||| nB x, lf ||| nB x, sg)
    else if x = 61 ∧ st = 1 then gck (2, r + 1, 0, nm, lf, sg)
    else if x = 59 ∧ st = 2 ∧ r < 16 then gck (0, r, l, nm, lf, sg)
    else if isNm x = true ∧ st = 2 then gck (2, r, l + 1, nm ||| nB x, lf, sg)
    else if isSg x = true ∧ st = 2 then gck (2, r, l + 1, nm, lf, sg ||| sB x)
    else if x = 32 then gck (st, r, l, nm, lf, sg) else none
def gF (f : Nat → Int32) : Nat → Nat → gS → Option Nat
  | 0, i, q => if q.1 = 2 ∧ q.2.2.2.1 = q.2.2.2.2.1 then none else some i
  | d + 1, i, q => match gnx (f i) q with
    | none => some i
    | some q' => gF f d (i + 1) q'
def gFo (f : Nat → Int32) (d i : Nat) : Option gS → Option Nat
  | none => some i
  | some q' => gF f d (i + 1) q'
theorem gF_s (f : Nat → Int32) (d i : Nat) (q : gS) : gF f (d + 1) i q = gFo f d i (gnx (f i) q) := by
  rw [gF]
  cases gnx (f i) q <;> rfl
abbrev gLx (q : gS) (i : Nat) (x : Option Value) : List (Option Value) := [some (.ref 1), some (.int (nI q.1)), some (.int (nI q.2.1)), some (.int (nI q.2.2.1)), some (.int q.2.2.2.1), some (.int q.2.2.2.2.1), some (.int q.2.2.2.2.2), some (.int (nI i)), x]
theorem nIz {a b : Nat} (ha : a < 2 ^ 31) (hb : b < 2 ^ 31) (h : a ≠ b) : ¬ nI a = nI b := fun z => h ((nI_eq ha hb).mp z)
set_option maxHeartbeats 4000000 in
theorem x_grammarFault (s : SX) (n : Nat) (hn : s.1 1 1 = nI n) (h2 : n ≤ 240) : Ev ZX mX10_grammarFault [.ref 1] s (some (.int (fI (gF (s.2.1 2) n 0 (0, 0, 0, 0, 0, 0))))) s := by
  refine Ev_V vX10_grammarFault rfl ?_
  have key : ∀ d i q, i + d = n → q.1 ≤ 2 ∧ q.2.1 ≤ i ∧ q.2.2.1 ≤ i → Rn ZX mX10_grammarFault (18, gLx q i none, [], s) (some (.int (fI (gF (s.2.1 2) d i q)))) s := by
    intro d
    induction d with
    | zero =>
      intro i q hd hq
      obtain ⟨st, r, l, nm, lf, sg⟩ := q
      dsimp only at hq
      have hin : i = n := by omega
      subst hin
      refine Rn_n ZX_ok 3 rfl trivial ?_
      refine Rn_b rfl (fun _ => ?_) (fun q => absurd (by show s.1 1 1 ≤ nI i; rw [hn]; exact Int32.le_refl _) q)
      refine Rn_n ZX_ok 2 rfl trivial ?_
      refine Rn_b rfl (fun q => ?_) (fun q => ?_)
      · have q : ¬ st = 2 := fun z => q (by subst z; rfl)
        refine Rn_n ZX_ok 2 rfl trivial ?_
        refine Rn_to (Rn_iret rfl rfl) ?_ rfl
        rw [gF, if_neg (fun z => q z.1)]
        show some (Value.int (s.1 1 1)) = some (Value.int (nI i))
        rw [hn]
      · have q : st = 2 := (nI_eq (b := 2) (by omega) (by omega)).mp (Classical.not_not.mp q)
        refine Rn_n ZX_ok 2 rfl trivial ?_
        refine Rn_b rfl (fun q2 => ?_) (fun q2 => ?_)
        · have q2 : ¬ nm = lf := q2
          refine Rn_n ZX_ok 2 rfl trivial ?_
          refine Rn_to (Rn_iret rfl rfl) ?_ rfl
          rw [gF, if_neg (fun z => q2 z.2)]
          show some (Value.int (s.1 1 1)) = some (Value.int (nI i))
          rw [hn]
        · have q2 : nm = lf := Classical.not_not.mp q2
          refine Rn_n ZX_ok 2 rfl trivial ?_
          refine Rn_to (Rn_iret rfl rfl) ?_ rfl
          rw [gF, if_pos ⟨q, q2⟩]
          rfl
    | succ d ih =>
      intro i q hd hq
      obtain ⟨st, r, l, nm, lf, sg⟩ := q
      dsimp only at hq
      obtain ⟨hst, hr, hl⟩ := hq
      have hge : ¬ (s.1 1 1 ≤ nI i) := by rw [hn]; exact nI_ge (by omega) (by omega)
      have hin : vp_in (nI i) 240 := nI_in (by omega) (by omega)
      have hcl : (nI i).toNatClampNeg = i := nI_clamp (by omega)
      refine Rn_n ZX_ok 3 rfl trivial ?_
      refine Rn_b rfl (fun q => absurd q hge) (fun _ => ?_)
      refine Rn_n ZX_ok 6 rfl ⟨hin, trivial⟩ ?_
      rw [gF_s]
      obtain ⟨x, hx⟩ : ∃ x, x = s.2.1 2 i := ⟨_, rfl⟩
      have hx2 : s.2.1 2 (nI i).toNatClampNeg = x := by rw [hcl, hx]
      rw [← hx]
      show Rn ZX mX10_grammarFault (38, gLx (st, r, l, nm, lf, sg) i (some (.int (s.2.1 2 (nI i).toNatClampNeg))), [.int (s.2.1 2 (nI i).toNatClampNeg)], s) _ _
      rw [hx2]
      have join : ∀ q' : gS, q'.1 ≤ 2 ∧ q'.2.1 ≤ i + 1 ∧ q'.2.2.1 ≤ i + 1 → Rn ZX mX10_grammarFault (194, gLx q' i (some (.int x)), [], s) (some (.int (fI (gFo (s.2.1 2) d i (gck q'))))) s := by
        intro q' hq'
        obtain ⟨st', r', l', nm', lf', sg'⟩ := q'
        dsimp only at hq'
        refine Rn_n ZX_ok 2 rfl trivial ?_
        refine Rn_b rfl (fun q => ?_) (fun q => ?_)
        · have q : (5 : Int32) < nI l' := q
          have q : 5 < l' := by
            apply Classical.byContradiction
            intro z
            exact nI_nlt (a := 5) (b := l') (by omega) (by omega) q
          refine Rn_n ZX_ok 1 rfl trivial ?_
          refine Rn_to (Rn_iret rfl rfl) ?_ rfl
          rw [gck, if_pos q]; rfl
        · have q : ¬ 5 < l' := fun z => q (nI_lt (a := 5) (b := l') z (by omega))
          refine Rn_n ZX_ok 2 rfl trivial ?_
          refine Rn_S vX10_areMany (x_areMany s nm' sg') rfl k10_26 rfl rfl rfl rfl ?_
          refine Rn_b rfl (fun q2 => ?_) (fun q2 => ?_)
          · have q2 := bI_0.mp q2
            refine Rn_n ZX_ok 2 rfl trivial ?_
            have h0 := ih (i + 1) (st', r', l', nm', lf', sg') (by omega) hq'
            rw [gck, if_neg q, if_neg (by rw [q2]; decide)]
            refine Rn_le (l' := gLx (st', r', l', nm', lf', sg') (i + 1) none) ?_ h0
            unfold gLx
            dsimp only
            rw [nI_succ]
            exact zle_s (zle_s (zle_s (zle_s (zle_s (zle_s (zle_s (zle_s (zle_n zle_0))))))))
          · have q2 := bI_t q2
            refine Rn_n ZX_ok 1 rfl trivial ?_
            refine Rn_to (Rn_iret rfl rfl) ?_ rfl
            rw [gck, if_neg q, if_pos q2]; rfl
      refine Rn_S vX10_isNameByte (x_isNameByte s x) rfl k10_23 rfl rfl rfl rfl ?_
      have c77 : ¬ (isNm x = true ∧ st = 0) → Rn ZX mX10_grammarFault (77, gLx (st, r, l, nm, lf, sg) i (some (.int x)), [], s) (some (.int (fI (gFo (s.2.1 2) d i (gnx x (st, r, l, nm, lf, sg)))))) s := by
        intro n1
        have c99 : ¬ (x = 61 ∧ st = 1) → Rn ZX mX10_grammarFault (99, gLx (st, r, l, nm, lf, sg) i (some (.int x)), [], s) (some (.int (fI (gFo (s.2.1 2) d i (gnx x (st, r, l, nm, lf, sg)))))) s := by
          intro n2
          have c122 : ¬ (x = 59 ∧ st = 2 ∧ r < 16) → Rn ZX mX10_grammarFault (122, gLx (st, r, l, nm, lf, sg) i (some (.int x)), [], s) (some (.int (fI (gFo (s.2.1 2) d i (gnx x (st, r, l, nm, lf, sg)))))) s := by
            intro n3
            have c153 : ¬ (isNm x = true ∧ st = 2) → Rn ZX mX10_grammarFault (153, gLx (st, r, l, nm, lf, sg) i (some (.int x)), [], s) (some (.int (fI (gFo (s.2.1 2) d i (gnx x (st, r, l, nm, lf, sg)))))) s := by
              intro n4
              have c184 : ¬ (isSg x = true ∧ st = 2) → Rn ZX mX10_grammarFault (184, gLx (st, r, l, nm, lf, sg) i (some (.int x)), [], s) (some (.int (fI (gFo (s.2.1 2) d i (gnx x (st, r, l, nm, lf, sg)))))) s := by
                intro n5
                refine Rn_n ZX_ok 2 rfl trivial ?_
                refine Rn_b rfl (fun q => ?_) (fun q => ?_)
                · have q : x = 32 := q
                  rw [gnx, if_neg n1, if_neg n2, if_neg n3, if_neg n4, if_neg n5, if_pos q]
                  exact join (st, r, l, nm, lf, sg) ⟨hst, by dsimp only; omega, by dsimp only; omega⟩
                · have q : ¬ x = 32 := q
                  rw [gnx, if_neg n1, if_neg n2, if_neg n3, if_neg n4, if_neg n5, if_neg q]
                  refine Rn_n ZX_ok 1 rfl trivial ?_
                  exact Rn_iret rfl rfl
              refine Rn_n ZX_ok 1 rfl trivial ?_
              refine Rn_S vX10_isSignByte (x_isSignByte s x) rfl k10_19 rfl rfl rfl rfl ?_
              refine Rn_b rfl (fun q => c184 (fun z => by rw [z.1] at q; exact absurd q (by show ¬ ((1 : Int32) = 0); decide))) (fun q => ?_)
              have q := bI_t q
              refine Rn_n ZX_ok 2 rfl trivial ?_
              refine Rn_b rfl (fun q2 => c184 (fun z => q2 (by rw [z.2]; rfl))) (fun q2 => ?_)
              have q2 : st = 2 := (nI_eq (b := 2) (by omega) (by omega)).mp (Classical.not_not.mp q2)
              rw [gnx, if_neg n1, if_neg n2, if_neg n3, if_neg n4, if_pos ⟨q, q2⟩]
              refine Rn_n ZX_ok 10 rfl trivial ?_
              have h0 := join (2, r, l + 1, nm, lf, sg ||| sB x) ⟨(by show 2 ≤ 2; omega), by dsimp only; omega, by dsimp only; omega⟩
              rw [← q2] at h0 ⊢
              unfold gLx at h0
              dsimp only at h0
              rw [nI_succ] at h0
              exact h0
            refine Rn_n ZX_ok 1 rfl trivial ?_
            refine Rn_S vX10_isNameByte (x_isNameByte s x) rfl k10_23 rfl rfl rfl rfl ?_
            refine Rn_b rfl (fun q => c153 (fun z => by rw [z.1] at q; exact absurd q (by show ¬ ((1 : Int32) = 0); decide))) (fun q => ?_)
            have q := bI_t q
            refine Rn_n ZX_ok 2 rfl trivial ?_
            refine Rn_b rfl (fun q2 => c153 (fun z => q2 (by rw [z.2]; rfl))) (fun q2 => ?_)
            have q2 : st = 2 := (nI_eq (b := 2) (by omega) (by omega)).mp (Classical.not_not.mp q2)
            rw [gnx, if_neg n1, if_neg n2, if_neg n3, if_pos ⟨q, q2⟩]
            refine Rn_n ZX_ok 10 rfl trivial ?_
            have h0 := join (2, r, l + 1, nm ||| nB x, lf, sg) ⟨(by show 2 ≤ 2; omega), by dsimp only; omega, by dsimp only; omega⟩
            rw [← q2] at h0 ⊢
            unfold gLx at h0
            dsimp only at h0
            rw [nI_succ] at h0
            exact h0
          refine Rn_n ZX_ok 2 rfl trivial ?_
          refine Rn_b rfl (fun q => c122 (fun z => q z.1)) (fun q => ?_)
          have q : x = 59 := Classical.not_not.mp q
          refine Rn_n ZX_ok 2 rfl trivial ?_
          refine Rn_b rfl (fun q2 => c122 (fun z => q2 (by rw [z.2.1]; rfl))) (fun q2 => ?_)
          have q2 : st = 2 := (nI_eq (b := 2) (by omega) (by omega)).mp (Classical.not_not.mp q2)
          refine Rn_n ZX_ok 2 rfl trivial ?_
          refine Rn_b rfl (fun q3 => c122 (fun z => absurd (show (16 : Int32) ≤ nI r from q3) (nI_ge (b := 16) z.2.2 (by omega)))) (fun q3 => ?_)
          have q3 : r < 16 := by
            apply Classical.byContradiction
            intro z
            exact q3 (nI_le (a := 16) (b := r) (by omega) (by omega))
          rw [gnx, if_neg n1, if_neg n2, if_pos ⟨q, q2, q3⟩]
          refine Rn_n ZX_ok 3 rfl trivial ?_
          exact join (0, r, l, nm, lf, sg) ⟨(by show 0 ≤ 2; omega), by dsimp only; omega, by dsimp only; omega⟩
        refine Rn_n ZX_ok 2 rfl trivial ?_
        refine Rn_b rfl (fun q => c99 (fun z => q z.1)) (fun q => ?_)
        have q : x = 61 := Classical.not_not.mp q
        refine Rn_n ZX_ok 2 rfl trivial ?_
        refine Rn_b rfl (fun q2 => c99 (fun z => q2 (by rw [z.2]; rfl))) (fun q2 => ?_)
        have q2 : st = 1 := (nI_eq (b := 1) (by omega) (by omega)).mp (Classical.not_not.mp q2)
        rw [gnx, if_neg n1, if_pos ⟨q, q2⟩]
        refine Rn_n ZX_ok 6 rfl trivial ?_
        have h0 := join (2, r + 1, 0, nm, lf, sg) ⟨(by show 2 ≤ 2; omega), by dsimp only; omega, by dsimp only; omega⟩
        unfold gLx at h0
        dsimp only at h0
        rw [nI_succ r] at h0
        exact h0
      refine Rn_b rfl (fun q => c77 (fun z => by rw [z.1] at q; exact absurd q (by show ¬ ((1 : Int32) = 0); decide))) (fun q => ?_)
      have q := bI_t q
      refine Rn_n ZX_ok 1 rfl trivial ?_
      refine Rn_b rfl (fun q2 => c77 (fun z => q2 (by rw [z.2]; rfl))) (fun q2 => ?_)
      have q2 : st = 0 := (nI_eq (b := 0) (by omega) (by omega)).mp (Classical.not_not.mp q2)
      rw [gnx, if_pos ⟨q, q2⟩]
      refine Rn_n ZX_ok 19 rfl trivial ?_
      exact join (1, r, l, nm ||| nB x, lf ||| nB x, sg) ⟨(by show 1 ≤ 2; omega), by dsimp only; omega, by dsimp only; omega⟩
  refine Rn_n ZX_ok 14 rfl trivial ?_
  exact key n 0 (0, 0, 0, 0, 0, 0) (by omega) ⟨by decide, by decide, by decide⟩
