def bI (b : Bool) : Int32 := bif b then 1 else 0
theorem bI_01 (b : Bool) : bI b = 0 ∨ bI b = 1 := by cases b <;> simp [bI]
theorem bI_0 {b : Bool} : bI b = 0 ↔ b = false := by cases b <;> simp [bI]
theorem bI_t {b : Bool} (h : ¬ bI b = 0) : b = true := by cases b <;> simp_all [bI]
def inB (x lo hi : Int32) : Bool := decide (lo ≤ x) && decide (x ≤ hi)
theorem e_in (s : SM) (x lo hi : Int32) : Ev ZR mX12_in [.int x, .int lo, .int hi] s (some (.int (bI (inB x lo hi)))) s := by
  refine Ev_T vX12_in rfl ?_
  refine Rn_n ZR_ok 2 rfl trivial ?_
  refine Rn_b rfl (fun h => ?_) (fun h => ?_)
  · refine Rn_n ZR_ok 1 rfl trivial ?_
    exact Rn_to (Rn_zret rfl rfl (Or.inl rfl)) (by have : ¬ lo ≤ x := Int32.not_le.mpr h; simp [inB, bI, this]) rfl
  · have h1 : lo ≤ x := Int32.not_lt.mp h
    refine Rn_n ZR_ok 2 rfl trivial ?_
    refine Rn_b rfl (fun h => ?_) (fun h => ?_)
    · refine Rn_n ZR_ok 1 rfl trivial ?_
      exact Rn_to (Rn_zret rfl rfl (Or.inl rfl)) (by have : ¬ x ≤ hi := Int32.not_le.mpr h; simp [inB, bI, this]) rfl
    · have h2 : x ≤ hi := Int32.not_lt.mp h
      refine Rn_n ZR_ok 2 rfl trivial ?_
      exact Rn_to (Rn_zret rfl rfl (Or.inr rfl)) (by simp [inB, bI, h1, h2]) rfl
def hasB (x k : Int32) : Bool := decide (x >>> (k &&& 31) &&& 1 = 1)
theorem e_has (s : SM) (x k : Int32) : Ev ZR mX12_has [.int x, .int k] s (some (.int (bI (hasB x k)))) s := by
  refine Ev_T vX12_has rfl ?_
  refine Rn_n ZR_ok 6 rfl trivial ?_
  refine Rn_b rfl (fun h => ?_) (fun h => ?_)
  · refine Rn_n ZR_ok 1 rfl trivial ?_
    exact Rn_to (Rn_zret rfl rfl (Or.inl rfl)) (by have h : ¬ _ := h; simp only [hasB, bI, h]; rfl) rfl
  · have h := Classical.not_not.mp h
    refine Rn_n ZR_ok 2 rfl trivial ?_
    exact Rn_to (Rn_zret rfl rfl (Or.inr rfl)) (by simp only [hasB, bI, h]; rfl) rfl
theorem e_letterAt (s : SM) (r i : Int32) (h : vp_in (5 * r + i) 85) : Ev ZR mX12_letterAt [.ref 0, .int r, .int i] s (some (.int (s.2.1 20 (5 * r + i).toNatClampNeg))) s := by
  refine Ev_V vX12_letterAt rfl ?_
  refine Rn_n ZR_ok 8 rfl ⟨h, trivial⟩ ?_
  exact Rn_iret rfl rfl
theorem e_isIn (s : SM) (r : Int32) : Ev ZR mX12_isIn [.ref 0, .int r] s (some (.int (bI (!(hasB (s.1 23) r))))) s := by
  refine Ev_V vX12_isIn rfl ?_
  refine Rn_n ZR_ok 3 rfl trivial ?_
  refine Rn_S vX12_has (e_has s (s.1 23) r) rfl k12_237 rfl rfl rfl rfl ?_
  refine Rn_b rfl (fun h => ?_) (fun h => ?_)
  · refine Rn_n ZR_ok 1 rfl trivial ?_
    exact Rn_to (Rn_zret rfl rfl (Or.inl rfl)) (by rw [bI_t h]; rfl) rfl
  · refine Rn_n ZR_ok 2 rfl trivial ?_
    exact Rn_to (Rn_zret rfl rfl (Or.inr rfl)) (by rw [bI_0.mp (Classical.not_not.mp h)]; rfl) rfl
theorem e_isRule (s : SM) (r : Int32) : Ev ZR mX12_isRule [.ref 0, .int r] s (some (.int (bI (inB r 0 (s.1 15 - 1))))) s := by
  refine Ev_V vX12_isRule rfl ?_
  refine Rn_n ZR_ok 6 rfl trivial ?_
  refine Rn_S vX12_in (e_in s r 0 (s.1 15 - 1)) rfl k12_170 rfl rfl rfl rfl ?_
  exact Rn_zret rfl rfl (bI_01 _)
def emB (e l : Int32) : Bool := decide (100 ≤ l) && hasB e (l - 100)
theorem e_isEmptyLetter (s : SM) (x : Int32) : Ev ZR mX12_isEmptyLetter [.ref 0, .int x] s (some (.int (bI (emB (s.1 25) x)))) s := by
  refine Ev_V vX12_isEmptyLetter rfl ?_
  refine Rn_n ZR_ok 2 rfl trivial ?_
  refine Rn_b rfl (fun h => ?_) (fun h => ?_)
  · refine Rn_n ZR_ok 1 rfl trivial ?_
    exact Rn_to (Rn_zret rfl rfl (Or.inl rfl)) (by have : ¬ (100 : Int32) ≤ x := Int32.not_le.mpr h; simp [emB, bI, this]) rfl
  · have h1 : (100 : Int32) ≤ x := Int32.not_lt.mp h
    refine Rn_n ZR_ok 5 rfl trivial ?_
    refine Rn_S vX12_has (e_has s (s.1 25) (x - 100)) rfl k12_237 rfl rfl rfl rfl ?_
    refine Rn_b rfl (fun h => ?_) (fun h => ?_)
    · refine Rn_n ZR_ok 1 rfl trivial ?_
      exact Rn_to (Rn_zret rfl rfl (Or.inl rfl)) (by rw [show emB (s.1 25) x = false by simp [emB, bI_0.mp h]]; rfl) rfl
    · refine Rn_n ZR_ok 2 rfl trivial ?_
      exact Rn_to (Rn_zret rfl rfl (Or.inr rfl)) (by rw [show emB (s.1 25) x = true by simp [emB, bI_t h, h1]]; rfl) rfl

/-- are all letters of a rule from one on empty: rule r, from i, k letters -/
def efB (s : SM) (r : Nat) : Nat → Nat → Bool
  | _, 0 => true
  | i, k + 1 => emB (s.1 25) (s.2.1 20 (5 * r + i)) && efB s r (i + 1) k
theorem nI_mul5 (r : Nat) : (5 : Int32) * nI r = nI (5 * r) := by
  unfold nI
  rw [show (5 : Int32) = Int32.ofNat 5 from rfl, ← Int32.ofNat_mul]
theorem e_isEmptyFrom (s : SM) (r i n : Nat) (hr : r < 17) (hn : s.2.1 19 r = nI n) (hn5 : n ≤ 5) (hi : i ≤ n) : Ev ZR mX12_isEmptyFrom [.ref 0, .int (nI r), .int (nI i)] s (some (.int (bI (efB s r i (n - i))))) s := by
  refine Ev_V vX12_isEmptyFrom rfl ?_
  refine Rn_n ZR_ok 4 rfl trivial ?_
  have key : ∀ (d k : Nat) (b : Bool) (x3 x4 : Int32), k + d = n → x3 = bI b → x4 = nI k → Rn ZR mX12_isEmptyFrom (5, [some (.ref 0), some (.int (nI r)), some (.int (nI i)), some (.int x3), some (.int x4)], [], s) (some (.int (bI (b && efB s r k d)))) s := by
    intro d
    induction d with
    | zero =>
      intro k b x3 x4 hk e3 e4
      subst e3; subst e4
      refine Rn_n ZR_ok 5 rfl ⟨vp_in_nI hr (by decide), trivial⟩ ?_
      refine Rn_b rfl (fun h => ?_) (fun h => ?_)
      · refine Rn_n ZR_ok 1 rfl trivial ?_
        exact Rn_to (Rn_zret rfl rfl (bI_01 _)) (by simp [efB]) rfl
      · exact absurd (by rw [nI_clamp (by omega), hn]; exact nI_le (by omega) (by omega)) h
    | succ d ih =>
      intro k b x3 x4 hk e3 e4
      subst e3; subst e4
      refine Rn_n ZR_ok 5 rfl ⟨vp_in_nI hr (by decide), trivial⟩ ?_
      refine Rn_b rfl (fun h => ?_) (fun h => ?_)
      · exact absurd (by rw [nI_clamp (by omega), hn] at h; exact h) (nI_ge (by omega) (by omega))
      · refine Rn_n ZR_ok 1 rfl trivial ?_
        have e5 : (5 : Int32) * nI r + nI k = nI (5 * r + k) := by rw [nI_mul5, nI_add]
        refine Rn_b rfl (fun h => ?_) (fun h => ?_)
        · have hb := bI_0.mp h
          subst hb
          refine Rn_n ZR_ok 4 rfl trivial ?_
          exact Rn_to (ih (k + 1) false _ _ (by omega) rfl (nI_1 k)) (by simp) rfl
        · have hb := bI_t h
          subst hb
          refine Rn_n ZR_ok 4 rfl trivial ?_
          refine Rn_V vX12_letterAt (e_letterAt s (nI r) (nI k) (by rw [e5]; exact vp_in_nI (by omega) (by decide))) rfl k12_275 rfl rfl rfl rfl rfl ?_
          refine Rn_V vX12_isEmptyLetter (e_isEmptyLetter s _) rfl k12_285 rfl rfl rfl rfl rfl ?_
          have el : s.2.1 20 (5 * nI r + nI k).toNatClampNeg = s.2.1 20 (5 * r + k) := by rw [e5, nI_clamp (by omega)]
          refine Rn_b rfl (fun h => ?_) (fun h => ?_)
          · have h2 := bI_0.mp h
            rw [el] at h2
            refine Rn_n ZR_ok 4 rfl trivial ?_
            exact Rn_to (ih (k + 1) false _ _ (by omega) rfl (nI_1 k)) (by simp [efB, h2]) rfl
          · have h2 := bI_t h
            rw [el] at h2
            refine Rn_n ZR_ok 5 rfl trivial ?_
            exact Rn_to (ih (k + 1) true _ _ (by omega) rfl (nI_1 k)) (by simp [efB, h2]) rfl
  exact Rn_to (key (n - i) i true _ _ (by omega) rfl rfl) (by simp) rfl
