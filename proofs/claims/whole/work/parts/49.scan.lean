/-! The tape is read: blanks passed over; sentences; both sides. -/
def skp (f : Nat → Int32) : Nat → Nat → Nat
  | 0, i => i
  | d + 1, i => if f i = 32 then skp f d (i + 1) else i
theorem skp_le (f : Nat → Int32) : ∀ d i, i ≤ skp f d i ∧ skp f d i ≤ i + d
  | 0, i => ⟨Nat.le_refl _, Nat.le_refl _⟩
  | d + 1, i => by
    unfold skp
    split
    · have := skp_le f d (i + 1); omega
    · omega
theorem skp_ne (f : Nat → Int32) : ∀ d i, skp f d i < i + d → f (skp f d i) ≠ 32
  | 0, i, h => by unfold skp at h; omega
  | d + 1, i, h => by
    unfold skp at h ⊢
    split at h
    · rename_i q
      rw [if_pos q]
      exact skp_ne f d (i + 1) (by omega)
    · rename_i q
      rw [if_neg q]
      exact q
def aht (f : Nat → Int32) (n k : Nat) : Int32 := if k < n then f k else -1
def atS (s : SM) (i : Nat) : SM := (updS s.1 3 (nI i), s.2)
theorem atS_self {s : SM} {i : Nat} (h : s.1 3 = nI i) : atS s i = s := by
  unfold atS
  rw [← h, updS_self]
theorem m_ahead (s : SM) (n i : Nat) (hn : s.1 2 = nI n) (h2 : n ≤ 240) (hi : s.1 3 = nI i) (hle : i ≤ n) : Ev ZR mX12_ahead [.ref 0] s (some (.int (aht (s.2.1 1) n (skp (s.2.1 1) (n - i) i)))) (atS s (skp (s.2.1 1) (n - i) i)) := by
  refine Ev_V vX12_ahead rfl ?_
  have key : ∀ d i, i + d = n → Rn ZR mX12_ahead (0, [some (.ref 0)], [], atS s i) (some (.int (aht (s.2.1 1) n (skp (s.2.1 1) d i)))) (atS s (skp (s.2.1 1) d i)) := by
    intro d
    induction d with
    | zero =>
      intro i hd
      have hin : i = n := by omega
      subst hin
      refine Rn_n ZR_ok 4 rfl trivial ?_
      refine Rn_b rfl (fun _ => ?_) (fun q => absurd (by show s.1 2 ≤ nI i; rw [hn]; exact Int32.le_refl _) q)
      refine Rn_n ZR_ok 4 rfl trivial ?_
      refine Rn_b rfl (fun _ => ?_) (fun q => absurd (by show s.1 2 ≤ nI i; rw [hn]; exact Int32.le_refl _) q)
      refine Rn_n ZR_ok 1 rfl trivial ?_
      exact Rn_to (Rn_iret rfl rfl) (by unfold skp aht; rw [if_neg (Nat.lt_irrefl _)]) rfl
    | succ d ih =>
      intro i hd
      have hge : ¬ (s.1 2 ≤ nI i) := by rw [hn]; exact nI_ge (by omega) (by omega)
      have hin : vp_in (nI i) 240 := nI_in (by omega) (by omega)
      have hcl : (nI i).toNatClampNeg = i := nI_clamp (by omega)
      refine Rn_n ZR_ok 4 rfl trivial ?_
      refine Rn_b rfl (fun q => absurd q hge) (fun _ => ?_)
      refine Rn_n ZR_ok 6 rfl ⟨hin, trivial⟩ ?_
      refine Rn_b rfl (fun q => ?_) (fun q => ?_)
      · have q : ¬ s.2.1 1 i = 32 := by
          have q : ¬ s.2.1 1 (nI i).toNatClampNeg = 32 := q
          rw [hcl] at q; exact q
        refine Rn_n ZR_ok 4 rfl trivial ?_
        refine Rn_b rfl (fun q => absurd q hge) (fun _ => ?_)
        refine Rn_n ZR_ok 6 rfl ⟨hin, trivial⟩ ?_
        refine Rn_to (Rn_iret rfl rfl) ?_ ?_
        · unfold skp aht
          rw [if_neg q, if_pos (by omega)]
          show some (Value.int (s.2.1 1 (nI i).toNatClampNeg)) = _
          rw [hcl]
        · unfold skp
          rw [if_neg q]
      · have q : s.2.1 1 i = 32 := by
          have q : s.2.1 1 (nI i).toNatClampNeg = 32 := Classical.not_not.mp q
          rw [hcl] at q; exact q
        refine Rn_n ZR_ok 7 rfl trivial ?_
        have h0 := ih (i + 1) (by omega)
        have e1 : skp (s.2.1 1) (d + 1) i = skp (s.2.1 1) d (i + 1) := by rw [skp, if_pos q]
        rw [e1]
        have e2 : atS s (i + 1) = (updS (updS s.1 3 (nI i)) 3 (nI i + 1), s.2) := by
          unfold atS
          rw [updS_updS, nI_1]
        rw [e2] at h0
        exact h0
  have h0 := key (n - i) i (by omega)
  rw [atS_self hi] at h0
  exact h0
def isSg (x : Int32) : Bool := decide (97 ≤ x) && decide (x ≤ 122)
def isNm (x : Int32) : Bool := decide (65 ≤ x) && decide (x ≤ 90)
theorem e_isSign (s : SM) (x : Int32) : Ev ZR mX12_isSign [.int x] s (some (.int (bI (isSg x)))) s := by
  refine Ev_T vX12_isSign rfl ?_
  refine Rn_n ZR_ok 2 rfl trivial ?_
  refine Rn_b rfl (fun q => ?_) (fun q => ?_)
  · have q : ¬ (97 : Int32) ≤ x := Int32.not_le.mpr q
    refine Rn_n ZR_ok 1 rfl trivial ?_
    exact Rn_to (Rn_zret rfl rfl (Or.inl rfl)) (by rw [isSg, decide_eq_false q, Bool.false_and]; rfl) rfl
  · have q : (97 : Int32) ≤ x := Int32.not_lt.mp q
    refine Rn_n ZR_ok 2 rfl trivial ?_
    refine Rn_b rfl (fun q2 => ?_) (fun q2 => ?_)
    · have q2 : ¬ x ≤ 122 := Int32.not_le.mpr q2
      refine Rn_n ZR_ok 1 rfl trivial ?_
      exact Rn_to (Rn_zret rfl rfl (Or.inl rfl)) (by rw [isSg, decide_eq_false q2, Bool.and_false]; rfl) rfl
    · have q2 : x ≤ 122 := Int32.not_lt.mp q2
      refine Rn_n ZR_ok 2 rfl trivial ?_
      exact Rn_to (Rn_zret rfl rfl (Or.inr rfl)) (by rw [isSg, decide_eq_true q, decide_eq_true q2]; rfl) rfl
theorem e_isName (s : SM) (x : Int32) : Ev ZR mX12_isName [.int x] s (some (.int (bI (isNm x)))) s := by
  refine Ev_T vX12_isName rfl ?_
  refine Rn_n ZR_ok 2 rfl trivial ?_
  refine Rn_b rfl (fun q => ?_) (fun q => ?_)
  · have q : ¬ (65 : Int32) ≤ x := Int32.not_le.mpr q
    refine Rn_n ZR_ok 1 rfl trivial ?_
    exact Rn_to (Rn_zret rfl rfl (Or.inl rfl)) (by rw [isNm, decide_eq_false q, Bool.false_and]; rfl) rfl
  · have q : (65 : Int32) ≤ x := Int32.not_lt.mp q
    refine Rn_n ZR_ok 2 rfl trivial ?_
    refine Rn_b rfl (fun q2 => ?_) (fun q2 => ?_)
    · have q2 : ¬ x ≤ 90 := Int32.not_le.mpr q2
      refine Rn_n ZR_ok 1 rfl trivial ?_
      exact Rn_to (Rn_zret rfl rfl (Or.inl rfl)) (by rw [isNm, decide_eq_false q2, Bool.and_false]; rfl) rfl
    · have q2 : x ≤ 90 := Int32.not_lt.mp q2
      refine Rn_n ZR_ok 2 rfl trivial ?_
      exact Rn_to (Rn_zret rfl rfl (Or.inr rfl)) (by rw [isNm, decide_eq_true q, decide_eq_true q2]; rfl) rfl
theorem x_isSignByte (s : SX) (x : Int32) : Ev ZX mX10_isSignByte [.int x] s (some (.int (bI (isSg x)))) s := by
  refine Ev_T vX10_isSignByte rfl ?_
  refine Rn_n ZX_ok 2 rfl trivial ?_
  refine Rn_b rfl (fun q => ?_) (fun q => ?_)
  · have q : ¬ (97 : Int32) ≤ x := Int32.not_le.mpr q
    refine Rn_n ZX_ok 1 rfl trivial ?_
    exact Rn_to (Rn_zret rfl rfl (Or.inl rfl)) (by rw [isSg, decide_eq_false q, Bool.false_and]; rfl) rfl
  · have q : (97 : Int32) ≤ x := Int32.not_lt.mp q
    refine Rn_n ZX_ok 2 rfl trivial ?_
    refine Rn_b rfl (fun q2 => ?_) (fun q2 => ?_)
    · have q2 : ¬ x ≤ 122 := Int32.not_le.mpr q2
      refine Rn_n ZX_ok 1 rfl trivial ?_
      exact Rn_to (Rn_zret rfl rfl (Or.inl rfl)) (by rw [isSg, decide_eq_false q2, Bool.and_false]; rfl) rfl
    · have q2 : x ≤ 122 := Int32.not_lt.mp q2
      refine Rn_n ZX_ok 2 rfl trivial ?_
      exact Rn_to (Rn_zret rfl rfl (Or.inr rfl)) (by rw [isSg, decide_eq_true q, decide_eq_true q2]; rfl) rfl
theorem x_isNameByte (s : SX) (x : Int32) : Ev ZX mX10_isNameByte [.int x] s (some (.int (bI (isNm x)))) s := by
  refine Ev_T vX10_isNameByte rfl ?_
  refine Rn_n ZX_ok 2 rfl trivial ?_
  refine Rn_b rfl (fun q => ?_) (fun q => ?_)
  · have q : ¬ (65 : Int32) ≤ x := Int32.not_le.mpr q
    refine Rn_n ZX_ok 1 rfl trivial ?_
    exact Rn_to (Rn_zret rfl rfl (Or.inl rfl)) (by rw [isNm, decide_eq_false q, Bool.false_and]; rfl) rfl
  · have q : (65 : Int32) ≤ x := Int32.not_lt.mp q
    refine Rn_n ZX_ok 2 rfl trivial ?_
    refine Rn_b rfl (fun q2 => ?_) (fun q2 => ?_)
    · have q2 : ¬ x ≤ 90 := Int32.not_le.mpr q2
      refine Rn_n ZX_ok 1 rfl trivial ?_
      exact Rn_to (Rn_zret rfl rfl (Or.inl rfl)) (by rw [isNm, decide_eq_false q2, Bool.and_false]; rfl) rfl
    · have q2 : x ≤ 90 := Int32.not_lt.mp q2
      refine Rn_n ZX_ok 2 rfl trivial ?_
      exact Rn_to (Rn_zret rfl rfl (Or.inr rfl)) (by rw [isNm, decide_eq_true q, decide_eq_true q2]; rfl) rfl
/-- a sentence's fault; d: how many bytes are left, c: how many signs there were -/
def sF (f : Nat → Int32) : Nat → Nat → Nat → Option Nat
  | 0, _, _ => none
  | d + 1, i, c => if f i = 32 then sF f d (i + 1) c else if isSg (f i) = true ∧ c < 24 then sF f d (i + 1) (c + 1) else some i
def sL (f : Nat → Int32) : Nat → Nat → List Int32
  | 0, _ => []
  | d + 1, i => if f i = 32 then sL f d (i + 1) else f i :: sL f d (i + 1)
def fI : Option Nat → Int32
  | none => -1
  | some i => nI i
theorem sF_skp (f : Nat → Int32) : ∀ d i c, sF f d i c = sF f (i + d - skp f d i) (skp f d i) c
  | 0, i, c => by unfold skp; rw [Nat.add_zero, Nat.sub_self]
  | d + 1, i, c => by
    by_cases q : f i = 32
    · rw [show skp f (d + 1) i = skp f d (i + 1) by rw [skp, if_pos q], show sF f (d + 1) i c = sF f d (i + 1) c by rw [sF, if_pos q], sF_skp f d (i + 1) c, show i + 1 + d = i + (d + 1) by omega]
    · rw [show skp f (d + 1) i = i by rw [skp, if_neg q], Nat.add_sub_cancel_left]
theorem sL_skp (f : Nat → Int32) : ∀ d i, sL f d i = sL f (i + d - skp f d i) (skp f d i)
  | 0, i => by unfold skp; rw [Nat.add_zero, Nat.sub_self]
  | d + 1, i => by
    by_cases q : f i = 32
    · rw [show skp f (d + 1) i = skp f d (i + 1) by rw [skp, if_pos q], show sL f (d + 1) i = sL f d (i + 1) by rw [sL, if_pos q], sL_skp f d (i + 1), show i + 1 + d = i + (d + 1) by omega]
    · rw [show skp f (d + 1) i = i by rw [skp, if_neg q], Nat.add_sub_cancel_left]
theorem x_sentenceFault (s : SX) (n : Nat) (hn : s.1 1 1 = nI n) (h2 : n ≤ 240) : Ev ZX mX10_sentenceFault [.ref 1] s (some (.int (fI (sF (s.2.1 2) n 0 0)))) s := by
  refine Ev_V vX10_sentenceFault rfl ?_
  have key : ∀ d i c, i + d = n → c ≤ 24 → Rn ZX mX10_sentenceFault (4, [some (.ref 1), some (.int (nI c)), some (.int (nI i))], [], s) (some (.int (fI (sF (s.2.1 2) d i c)))) s := by
    intro d
    induction d with
    | zero =>
      intro i c hd hc
      have hin : i = n := by omega
      subst hin
      refine Rn_n ZX_ok 3 rfl trivial ?_
      refine Rn_b rfl (fun _ => ?_) (fun q => absurd (by show s.1 1 1 ≤ nI i; rw [hn]; exact Int32.le_refl _) q)
      refine Rn_n ZX_ok 1 rfl trivial ?_
      exact Rn_iret rfl rfl
    | succ d ih =>
      intro i c hd hc
      have hge : ¬ (s.1 1 1 ≤ nI i) := by rw [hn]; exact nI_ge (by omega) (by omega)
      have hin : vp_in (nI i) 240 := nI_in (by omega) (by omega)
      have hcl : (nI i).toNatClampNeg = i := nI_clamp (by omega)
      refine Rn_n ZX_ok 3 rfl trivial ?_
      refine Rn_b rfl (fun q => absurd q hge) (fun _ => ?_)
      refine Rn_n ZX_ok 5 rfl ⟨hin, trivial⟩ ?_
      refine Rn_b rfl (fun q => ?_) (fun q => ?_)
      · have q : s.2.1 2 i = 32 := by
          have q : s.2.1 2 (nI i).toNatClampNeg = 32 := q
          rw [hcl] at q; exact q
        refine Rn_n ZX_ok 2 rfl trivial ?_
        have h0 := ih (i + 1) c (by omega) hc
        rw [show sF (s.2.1 2) (d + 1) i c = sF (s.2.1 2) d (i + 1) c by rw [sF, if_pos q]]
        rw [nI_succ] at h0
        exact h0
      · have q : ¬ s.2.1 2 i = 32 := by
          have q : ¬ s.2.1 2 (nI i).toNatClampNeg = 32 := q
          rw [hcl] at q; exact q
        refine Rn_n ZX_ok 5 rfl ⟨hin, trivial⟩ ?_
        refine Rn_S vX10_isSignByte (x_isSignByte s (s.2.1 2 (nI i).toNatClampNeg)) rfl k10_19 rfl rfl rfl rfl ?_
        have ret : isSg (s.2.1 2 i) = false ∨ 24 ≤ c → Rn ZX mX10_sentenceFault (44, [some (.ref 1), some (.int (nI c + 1)), some (.int (nI i))], [], s) (some (.int (fI (sF (s.2.1 2) (d + 1) i c)))) s := by
          intro hq
          refine Rn_n ZX_ok 1 rfl trivial ?_
          refine Rn_to (Rn_iret rfl rfl) ?_ rfl
          rw [sF, if_neg q, if_neg (fun z => ?_)]
          · rfl
          · rcases hq with h | h
            · rw [z.1] at h; cases h
            · omega
        refine Rn_b rfl (fun q2 => ?_) (fun q2 => ?_)
        · have q2 : isSg (s.2.1 2 i) = false := by
            have q2 := bI_0.mp q2
            rw [hcl] at q2; exact q2
          exact ret (Or.inl q2)
        · have q2 : isSg (s.2.1 2 i) = true := by
            have q2 := bI_t q2
            rw [hcl] at q2; exact q2
          refine Rn_n ZX_ok 2 rfl trivial ?_
          refine Rn_b rfl (fun q3 => ?_) (fun q3 => ?_)
          · have q3 : nI c + 1 ≤ 24 := q3
            have hc2 : c < 24 := by
              rw [nI_1] at q3
              have := (nI_leI (a := c + 1) (b := 24) (by omega) (by omega)).mp q3
              omega
            refine Rn_n ZX_ok 2 rfl trivial ?_
            have h0 := ih (i + 1) (c + 1) (by omega) (by omega)
            rw [show sF (s.2.1 2) (d + 1) i c = sF (s.2.1 2) d (i + 1) (c + 1) by rw [sF, if_neg q, if_pos ⟨q2, hc2⟩]]
            rw [nI_succ, nI_succ] at h0
            exact h0
          · have q3 : ¬ nI c + 1 ≤ 24 := q3
            refine ret (Or.inr ?_)
            apply Nat.le_of_not_lt
            intro hh
            apply q3
            rw [nI_1]
            exact nI_le (b := 24) (by omega) (by omega)
  refine Rn_n ZX_ok 4 rfl trivial ?_
  exact key n 0 0 (by omega) (by omega)
