/-! feed, the class's side. -/
def sft : Nat → Int32
  | 0 => 24
  | 1 => 16
  | 2 => 8
  | 3 => 0
  | _ => -8
theorem sft_nI {j : Nat} (h : j < 4) : sft j = nI (24 - 8 * j) := by
  match j, h with
  | 0, _ => rfl
  | 1, _ => rfl
  | 2, _ => rfl
  | 3, _ => rfl
  | j + 4, h => exact absurd h (by omega)
theorem sft_pos {j : Nat} (h : j < 4) : ¬ sft j < 0 := by
  match j, h with
  | 0, _ => decide
  | 1, _ => decide
  | 2, _ => decide
  | 3, _ => decide
  | j + 4, h => exact absurd h (by omega)
theorem sft_next {j : Nat} (h : j < 4) : sft j + -8 = sft (j + 1) := by
  match j, h with
  | 0, _ => decide
  | 1, _ => decide
  | 2, _ => decide
  | 3, _ => decide
  | j + 4, h => exact absurd h (by omega)
theorem sft_by {j : Nat} (h : j < 4) (w : Int32) : ush w (sft j) &&& 255 = byW w j := by rw [sft_nI h]; rfl
theorem x_solid (s : SX) (w : Int32) : Ev ZX mX10_solid [.int w] s (some (.int (nI (cnN (byW w) 4)))) s := by
  refine Ev_T vX10_solid rfl ?_
  have key : ∀ (d j : Nat) (x1 x2 : Int32), j + d = 4 → x1 = nI (cnN (byW w) j) → x2 = sft j → Rn ZX mX10_solid (5, [some (.int w), some (.int x1), some (.int x2)], [], s) (some (.int (nI (cnN (byW w) 4)))) s := by
    intro d
    induction d with
    | zero =>
      intro j x1 x2 hj e1 e2
      subst e1; subst e2
      have : j = 4 := by omega
      subst this
      refine Rn_n ZX_ok 1 rfl trivial ?_
      refine Rn_b rfl (fun _ => ?_) (fun z => absurd (by show (-8 : Int32) < 0; decide) z)
      refine Rn_n ZX_ok 1 rfl trivial ?_
      exact Rn_iret rfl rfl
    | succ d ih =>
      intro j x1 x2 hj e1 e2
      subst e1; subst e2
      have h4 : j < 4 := by omega
      refine Rn_n ZX_ok 1 rfl trivial ?_
      refine Rn_b rfl (fun z => absurd z (sft_pos h4)) (fun _ => ?_)
      refine Rn_n ZX_ok 5 rfl trivial ?_
      refine Rn_b rfl (fun z => ?_) (fun z => ?_)
      · have z : byW w j = 0 := (sft_by h4 w).symm.trans z
        refine Rn_n ZX_ok 2 rfl trivial ?_
        exact ih (j + 1) _ _ (by omega) (by rw [cnN, if_pos z]) (sft_next h4)
      · have z : ¬ byW w j = 0 := fun q => z ((sft_by h4 w).trans q)
        refine Rn_n ZX_ok 3 rfl trivial ?_
        exact ih (j + 1) _ _ (by omega) (by rw [cnN, if_neg z]; exact nI_1 _) (sft_next h4)
  refine Rn_n ZX_ok 4 rfl trivial ?_
  exact key 4 0 _ _ (by omega) rfl rfl
/-- the class's state with another tape -/
def xtp (s : SX) (t : (Nat → Int32) × Nat) : SX := (updI s.1 1 1 (nI t.2), setA s.2.1 2 t.1, s.2.2)
theorem updI_updI {f : Nat → Nat → Int32} {a k : Nat} {x y : Int32} : updI (updI f a k x) a k y = updI f a k y := by
  funext b
  unfold updI
  rw [Nat.beq_refl]
  cases Nat.beq b a with
  | true => show updS (updS (f a) k x) k y = _; rw [updS_updS]; rfl
  | false => rfl
theorem updI_self {f : Nat → Nat → Int32} {a k : Nat} : updI f a k (f a k) = f := by
  funext b
  unfold updI
  cases h : Nat.beq b a with
  | true => rw [Nat.eq_of_beq_eq_true h]; show updS (f a) k (f a k) = f a; rw [updS_self]
  | false => rfl
set_option maxHeartbeats 4000000 in
theorem x_put (s : SX) (w : Int32) (n : Nat) (hn : s.1 1 1 = nI n) (h240 : n + cnN (byW w) 4 ≤ 240) : Ev ZX mX10_put [.ref 1, .int w] s none (xtp s (apN (byW w) (s.2.1 2) n 4)) := by
  refine Ev_V vX10_put rfl ?_
  have key : ∀ (d j : Nat) (x2 : Int32) (y : Option Value) (s1 : SX), j + d = 4 → x2 = sft j → s1 = xtp s (apN (byW w) (s.2.1 2) n j) → Rn ZX mX10_put (3, [some (.ref 1), some (.int w), some (.int x2), y], [], s1) none (xtp s (apN (byW w) (s.2.1 2) n 4)) := by
    intro d
    induction d with
    | zero =>
      intro j x2 y s1 hj e2 es
      subst e2; subst es
      have : j = 4 := by omega
      subst this
      refine Rn_n ZX_ok 1 rfl trivial ?_
      refine Rn_b rfl (fun _ => ?_) (fun z => absurd (by show (-8 : Int32) < 0; decide) z)
      exact Rn_vret rfl rfl
    | succ d ih =>
      intro j x2 y s1 hj e2 es
      subst e2; subst es
      have h4 : j < 4 := by omega
      refine Rn_n ZX_ok 1 rfl trivial ?_
      refine Rn_b rfl (fun z => absurd z (sft_pos h4)) (fun _ => ?_)
      refine Rn_n ZX_ok 7 rfl trivial ?_
      refine Rn_b rfl (fun z => ?_) (fun z => ?_)
      · have z : byW w j = 0 := (sft_by h4 w).symm.trans z
        refine Rn_n ZX_ok 2 rfl trivial ?_
        exact ih (j + 1) _ _ _ (by omega) (sft_next h4) (by show xtp s (apN (byW w) (s.2.1 2) n j) = xtp s (apN (byW w) (s.2.1 2) n (j + 1)); rw [apN, if_pos z])
      · have z : ¬ byW w j = 0 := fun q => z ((sft_by h4 w).trans q)
        have hm := cnN_mono (byW w) (show j + 1 ≤ 4 by omega)
        have hc : cnN (byW w) (j + 1) = cnN (byW w) j + 1 := by rw [cnN, if_neg z]
        have hlt : (apN (byW w) (s.2.1 2) n j).2 < 240 := by rw [apN_n]; omega
        refine Rn_n ZX_ok 3 rfl trivial ?_
        refine Rn_b rfl (fun q => absurd (show (240 : Int32) ≤ nI (apN (byW w) (s.2.1 2) n j).2 from q) (nI_ge (b := 240) hlt (by decide))) (fun _ => ?_)
        refine Rn_n ZX_ok 14 rfl ⟨by show vp_in (nI (apN (byW w) (s.2.1 2) n j).2) 240; exact vp_in_nI hlt (by decide), trivial⟩ ?_
        refine ih (j + 1) _ _ _ (by omega) (sft_next h4) ?_
        show (updI (updI s.1 1 1 (nI (apN (byW w) (s.2.1 2) n j).2)) 1 1 (nI (apN (byW w) (s.2.1 2) n j).2 + 1), updA (setA s.2.1 2 (apN (byW w) (s.2.1 2) n j).1) 2 (nI (apN (byW w) (s.2.1 2) n j).2).toNatClampNeg (ush w (sft j) &&& 255), s.2.2) = xtp s (apN (byW w) (s.2.1 2) n (j + 1))
        rw [updI_updI, updA_setA, nI_1, nI_clamp (by omega), sft_by h4]
        rw [apN, if_neg z]
        rfl
  refine Rn_n ZX_ok 2 rfl trivial ?_
  refine key 4 0 _ _ _ (by omega) rfl ?_
  show s = xtp s (s.2.1 2, n)
  unfold xtp
  rw [← hn, updI_self, setA_self]
