/-! What was weighed is what a state does; the class: settled, mostReduced. -/
section ZSet
variable {G : ZGT} {N : ZNM} {C W : Nat → Int32} {k : Nat}
/-- no state goes by a sign that the grammar has not -/
theorem ZNF.no (hG : GW G) (hF : ZNF G N) (hk : k < N.1) {b : Nat} (h1 : zgT G ≤ b) (h2 : b < 8) : N.2.2 k b = none := by
  rcases hF.2.2.1 k hk b (by omega) with ⟨e, -⟩ | ⟨t, e, ht, hz⟩
  · exact e
  · exfalso
    obtain ⟨i, hi, hne⟩ := (hF.2.1 t ht).2.2.1
    refine hne ((hz i hi).mpr ?_)
    unfold zNX
    refine if_neg (fun y => ?_)
    have := (hG.2.2.1 _ y.2.1).2 _ y.2.2.1
    omega
theorem zSf_cr (t r : Nat) : (zSf G C r && bt (zlkf G false W C r) t) = zcrd G C t r := by
  unfold zSf zlkf zcrd
  rw [if_neg (by decide)]
  by_cases y : C (6 * r + zgn G r) = 0
  · rw [y, b_0, Bool.and_false]
  · rw [zcB_t y, Bool.true_and]
theorem zsh_bt (hG : GW G) (hF : ZNF G N) (hk : k < N.1) (t : Nat) : bt (zlf (N.2.2 k) 14 &&& 255) t = (zsh G (N.2.2 k) t).isSome := by
  have hT := hG.1.2.2.2.2
  rw [b_and, b_255, zlf_bt _ 14 (by omega)]
  unfold zsh
  by_cases y : t < zgT G
  · rw [if_pos y, decide_eq_true (show t < 8 by omega), decide_eq_true (show t < 14 by omega), Bool.and_true, Bool.true_and]
  · rw [if_neg y]
    by_cases z : t < 8
    · rw [hF.no hG hk (by omega) z]; simp
    · rw [decide_eq_false z, Bool.and_false]; rfl
theorem zcr_ov (hG : GW G) (hC : zlk G C) (t : Nat) : zcrd G C t (zgR G) = zov G C t := by
  unfold zov
  by_cases y : t = zgT G
  · rw [decide_eq_true y, Bool.true_and]
  · rw [decide_eq_false y, Bool.false_and]
    have hR := hG.1.2.1
    have hT := hG.1.2.2.2.2
    unfold zcrd
    rw [hG.2.2.2.1]
    cases hb : bt (C (6 * zgR G + 1)) t with
    | false => rfl
    | true =>
      have := hC.2 (6 * zgR G + 1) (by omega) (by omega) t hb
      rw [b1_bt (by omega)] at this
      exact absurd (of_decide_eq_true this) y
theorem zcw_wy (hG : GW G) (hF : ZNF G N) (hk : k < N.1) (hC : zlk G C) (t : Nat) : zcw G (zlf (N.2.2 k) 14 &&& 255) (zlkf G false W C) (zSf G C) t = zwy G C (N.2.2 k) t := by
  unfold zcw zwy
  rw [zsh_bt hG hF hk t, zcnt, zcnt_cg (p := fun r => zSf G C r && bt (zlkf G false W C r) t) (p' := zcrd G C t) _ (fun i _ => zSf_cr t i), zSf_cr, zcr_ov hG hC]
  omega
theorem zwy_hi (hG : GW G) (hC : zlk G C) {t : Nat} (h1 : zgT G < t) {g : Nat → Option Nat} : zwy G C g t = 0 := by
  have hT := hG.1.2.2.2.2
  have hR := hG.1.2.1
  have hno : ∀ r, r ≤ zgR G → zcrd G C t r = false := fun r hr => by
    have h5 := (hG.2.2.1 r hr).1
    unfold zcrd
    cases hb : bt (C (6 * r + zgn G r)) t with
    | false => rfl
    | true =>
      have := (zmk_sub (by omega)).mp (hC.1 (6 * r + zgn G r) (by omega)) t hb
      omega
  have h0 : ∀ n, n ≤ zgR G → zcnt (zcrd G C t) n = 0 := fun n => by
    induction n with
    | zero => intro _; rfl
    | succ n ih => intro hn; rw [zcnt, ih (by omega), hno n (by omega)]; rfl
  unfold zwy zsh zov
  rw [if_neg (show ¬ t < zgT G by omega), h0 _ (Nat.le_refl _), decide_eq_false (show ¬ t = zgT G by omega)]
  rfl
theorem zck_bt {g : Nat → Option Nat} : ∀ n, n ≤ 32 → ∀ t, bt (zck G C g n) t = (decide (t < n) && decide (1 < zwy G C g t))
  | 0, _, t => by rw [zck, b_0]; rfl
  | n + 1, h, t => by
    have ih := zck_bt (g := g) n (by omega) t
    rw [zck, b_or, ih]
    rcases Nat.lt_trichotomy t n with z | z | z
    · rw [decide_eq_true z, decide_eq_true (show t < n + 1 by omega)]
      have : bt (if 1 < zwy G C g n then b1 n else 0) t = false := by
        split
        · rw [b1_bt (by omega), decide_eq_false (by omega)]
        · exact b_0 t
      rw [this, Bool.or_false]
    · subst z
      rw [decide_eq_false (Nat.lt_irrefl _), decide_eq_true (show t < t + 1 by omega), Bool.false_and, Bool.false_or, Bool.true_and]
      split
      · rename_i y
        rw [b1_at (by omega), decide_eq_true y]
      · rename_i y
        rw [b_0, decide_eq_false y]
    · rw [decide_eq_false (show ¬ t < n by omega), decide_eq_false (show ¬ t < n + 1 by omega), Bool.false_and, Bool.false_or]
      split
      · rw [b1_bt (by omega), decide_eq_false (by omega)]
      · exact b_0 t
/-- what weigh left is what the state does -/
theorem XW_ck (hG : GW G) (hF : ZNF G N) (hk : k < N.1) (hC : zlk G C) {v : SX} (h : XW G (zlf (N.2.2 k) 14 &&& 255) (zlkf G false W C) (zSf G C) v) : v.1 47 8 = zck G C (N.2.2 k) (zgT G + 1) ∧ (∀ t, bt (v.1 47 9) t = zov G C t) ∧ ∀ t, t ≤ zgT G → v.2.1 51 t = fI (zlo G C t) := by
  have hT := hG.1.2.2.2.2
  obtain ⟨w1, w2, w3, w4⟩ := h
  refine ⟨b_ext (fun t ht => ?_), fun t => ?_, fun t ht => ?_⟩
  · rw [w2 t ht, zcw_wy hG hF hk hC, zck_bt _ (by omega)]
    by_cases y : t < zgT G + 1
    · rw [decide_eq_true y, Bool.true_and]
      rfl
    · rw [decide_eq_false y, Bool.false_and, zwy_hi hG hC (by omega)]
      rfl
  · rw [← zcr_ov hG hC, ← zSf_cr (W := W), w3]
    cases zSf G C (zgR G) with
    | true => rw [if_pos rfl, Bool.true_and]
    | false => rw [if_neg (by decide), b_0, Bool.false_and]
  · rw [w4 t ht]
    unfold zlo
    exact congrArg fI (zfst_cg _ (fun i _ => zSf_cr t i))
/-- an action is a rule, nothing, or more than all rules -/
theorem zac_or {g : Nat → Option Nat} {p : Int32} {t : Nat} (hg : ∀ s, zsh G g t = some s → s < 200) : (∃ r, r < zgR G ∧ zac G C g p t = nI r) ∨ zac G C g p t = -1 ∨ ∃ x : Nat, 999 ≤ x ∧ x < 1200 ∧ zac G C g p t = nI x := by
  unfold zac
  by_cases y : zov G C t = true
  · rw [if_pos y]; exact Or.inr (Or.inr ⟨999, by omega, by omega, rfl⟩)
  rw [if_neg y]
  by_cases z : zrd G C g p t = true
  · rw [if_pos z]
    cases hl : zlo G C t with
    | none => exact Or.inr (Or.inl rfl)
    | some r => exact Or.inl ⟨r, (zfst_s hl).1, rfl⟩
  rw [if_neg z]
  cases hs : zsh G g t with
  | none => exact Or.inr (Or.inl rfl)
  | some s =>
    have := hg s hs
    refine Or.inr (Or.inr ⟨1000 + s, by omega, by omega, ?_⟩)
    show (1000 : Int32) + nI s = _
    rw [show (1000 : Int32) = nI 1000 from rfl, nI_add]
theorem zac_none {g : Nat → Option Nat} {p : Int32} {t : Nat} (z : zov G C t = false) (h : zsh G g t = none) : zac G C g p t = fI (zlo G C t) := by
  unfold zac zrd
  rw [z, if_neg (by decide), h]
  cases zlo G C t with
  | none => rfl
  | some r => rfl
theorem zac_some {g : Nat → Option Nat} {p : Int32} {t s : Nat} (z : zov G C t = false) (h : zsh G g t = some s) : zac G C g p t = if ((zlo G C t).isSome && bt p t) = true then fI (zlo G C t) else 1000 + nI s := by
  unfold zac zrd
  rw [z, if_neg (by decide), h]
  rfl
end ZSet
theorem y_doesPrefer {P : YP} (u : SX) {t : Nat} (ht : t < 32) : Ev (ZY P) mX5_doesPrefer [.ref 3, .int (nI t)] u (some (.int (bI (bt (u.1 3 4) t)))) u := by
  refine EQ_ev ?_
  refine EQ_V vX5_doesPrefer rfl ?_
  refine RQ_n (ZY_ok P) 6 rfl trivial ?_
  refine RQ_b rfl (fun z => ?_) (fun z => ?_)
  · have z := (b_shr1 (u.1 3 4) ht).mp z
    refine RQ_n (ZY_ok P) 1 rfl trivial ?_
    rw [z]
    exact RQ_to (Rn_zret rfl rfl (Or.inl rfl)) ⟨rfl, rfl⟩
  · have z := (not_congr (b_shr1 (u.1 3 4) ht)).mp z
    have z : bt (u.1 3 4) t = true := by
      cases hq : bt (u.1 3 4) t with
      | true => rfl
      | false => exact absurd hq z
    refine RQ_n (ZY_ok P) 2 rfl trivial ?_
    rw [z]
    exact RQ_to (Rn_zret rfl rfl (Or.inr rfl)) ⟨rfl, rfl⟩
set_option maxHeartbeats 1000000 in
theorem y_settled {P : YP} {G : ZGT} {N : ZNM} {u : SX} {C : Nat → Int32} (hG : ZGX G u) (hF : ZNF G N) (h : XV G N u) {k t : Nat} (hk : k < N.1) (ht : t ≤ zgT G) (h9 : bt (u.1 47 9) t = zov G C t) (h51 : u.2.1 51 t = fI (zlo G C t)) : Ev (ZY P) mX0_settled [.ref 47, .int (nI k), .int (nI t)] u (some (.int (zac G C (N.2.2 k) (u.1 3 4) t))) u := by
  have hb := hG.b
  have hN := hF.1.2
  obtain ⟨lo, hlo⟩ : ∃ lo, lo = zlo G C t := ⟨_, rfl⟩
  obtain ⟨sh, hsh⟩ : ∃ sh, sh = zsh G (N.2.2 k) t := ⟨_, rfl⟩
  have hlo2 : ∀ k, lo = some k → k < 16 := fun k hk => by
    rw [hlo] at hk
    have := (zfst_s hk).1
    omega
  have hsh2 : ∀ s, sh = some s → s < 200 := fun s hs => by
    rw [hsh] at hs
    unfold zsh at hs
    split at hs
    · rcases hF.2.2.1 k hk t (by omega) with ⟨e, -⟩ | ⟨t', e, ht', -⟩
      · rw [e] at hs; cases hs
      · rw [e] at hs; cases hs; omega
    · cases hs
  refine EQ_ev ?_
  refine EQ_V vX0_settled rfl ?_
  refine RQ_n (ZY_ok P) 6 rfl trivial ?_
  refine RQ_b rfl (fun z => ?_) (fun z => ?_)
  rotate_left
  · have z := (not_congr (b_shr1 (u.1 47 9) (show t < 32 by omega))).mp z
    have z : zov G C t = true := by
      rw [← h9]
      cases hq : bt (u.1 47 9) t with
      | true => rfl
      | false => exact absurd hq z
    refine RQ_n (ZY_ok P) 1 rfl trivial ?_
    refine RQ_to (Rn_iret rfl rfl) ⟨?_, rfl⟩
    unfold zac
    rw [if_pos z]
  have z := (b_shr1 (u.1 47 9) (show t < 32 by omega)).mp z
  rw [h9] at z
  have h51 : u.2.1 51 t = fI lo := by rw [hlo]; exact h51
  have p66 : ∀ (rf : Bool) (l4 : Option Value), rf = (lo.isSome && bt (u.1 3 4) t) → RnQ (ZY P) mX0_settled (66, [some (.ref 47), some (.int (nI k)), some (.int (nI t)), some (.int (fI sh)), l4], [.int (bI rf)], u) (fun x v => x = some (.int (zac G C (N.2.2 k) (u.1 3 4) t)) ∧ v = u) := by
    intro rf l4 hrf
    have p78 : ∀ (l4 : Option Value), zac G C (N.2.2 k) (u.1 3 4) t = fI lo → RnQ (ZY P) mX0_settled (78, [some (.ref 47), some (.int (nI k)), some (.int (nI t)), some (.int (fI sh)), l4], [], u) (fun x v => x = some (.int (zac G C (N.2.2 k) (u.1 3 4) t)) ∧ v = u) := by
      intro l4 e
      refine RQ_n (ZY_ok P) 3 rfl trivial ?_
      refine RQ_n (ZY_ok P) 1 rfl ⟨nI_in (by omega) (by omega), trivial⟩ ?_
      rw [nI_clamp (show t < 2 ^ 31 by omega), h51]
      refine RQ_n (ZY_ok P) 1 rfl trivial ?_
      exact RQ_to (Rn_iret rfl rfl) ⟨by rw [e], rfl⟩
    refine RQ_n (ZY_ok P) 3 rfl trivial ?_
    cases hsc : sh with
    | none =>
      rw [hsc] at p78
      refine RQ_b rfl (fun _ => ?_) (fun q => absurd rfl q)
      exact p78 _ (by rw [hlo]; exact zac_none z (hsh.symm.trans hsc))
    | some s =>
      rw [hsc] at p78
      have := hsh2 s hsc
      have e := zac_some (p := u.1 3 4) z (hsh.symm.trans hsc)
      rw [← hlo, ← hrf] at e
      refine RQ_b rfl (fun q => absurd q (nI_m1 (a := s) (by omega))) (fun _ => ?_)
      refine RQ_n (ZY_ok P) 1 rfl trivial ?_
      refine RQ_b rfl (fun q => ?_) (fun q => ?_)
      · have q := bI_0.mp q
        rw [q, if_neg (by decide)] at e
        refine RQ_n (ZY_ok P) 3 rfl trivial ?_
        exact RQ_to (Rn_iret rfl rfl) ⟨by rw [e]; rfl, rfl⟩
      · have q := bI_t q
        rw [q, if_pos rfl] at e
        exact p78 _ e
  have p39 : ∀ (l3 l4 : Option Value), RnQ (ZY P) mX0_settled (39, [some (.ref 47), some (.int (nI k)), some (.int (nI t)), l3, l4], [.int (fI sh)], u) (fun x v => x = some (.int (zac G C (N.2.2 k) (u.1 3 4) t)) ∧ v = u) := by
    intro l3 l4
    refine RQ_n (ZY_ok P) 4 rfl trivial ?_
    refine RQ_n (ZY_ok P) 1 rfl ⟨nI_in (by omega) (by omega), trivial⟩ ?_
    rw [nI_clamp (show t < 2 ^ 31 by omega), h51]
    refine RQ_n (ZY_ok P) 1 rfl trivial ?_
    cases hlc : lo with
    | none =>
      refine RQ_b rfl (fun _ => ?_) (fun q => absurd rfl q)
      refine RQ_n (ZY_ok P) 1 rfl trivial ?_
      exact p66 false _ (by rw [hlc]; rfl)
    | some r =>
      have := hlo2 r hlc
      refine RQ_b rfl (fun q => absurd q (nI_m1 (a := r) (by omega))) (fun _ => ?_)
      refine RQ_n (ZY_ok P) 3 rfl trivial ?_
      refine RQ_v vX5_doesPrefer (y_doesPrefer u (show t < 32 by omega)) rfl k0_130 rfl rfl rfl (zy3 _ rfl) rfl ?_
      refine RQ_b rfl (fun q => ?_) (fun q => ?_)
      · have q := bI_0.mp q
        refine RQ_n (ZY_ok P) 1 rfl trivial ?_
        exact p66 false _ (by rw [hlc, q]; rfl)
      · have q := bI_t q
        refine RQ_n (ZY_ok P) 2 rfl trivial ?_
        exact p66 true _ (by rw [hlc, q]; rfl)
  refine RQ_n (ZY_ok P) 4 rfl trivial ?_
  rw [hG.2.1.2.2]
  refine RQ_b rfl (fun q => ?_) (fun q => ?_)
  · have q := (zq_le (a := zgT G) (b := t) rfl rfl (by omega) (by omega)).mp q
    have e : sh = none := by rw [hsh]; unfold zsh; rw [if_neg (by omega)]
    refine RQ_n (ZY_ok P) 1 rfl trivial ?_
    rw [e] at p39
    exact p39 _ _
  · have q := (not_congr (zq_le (a := zgT G) (b := t) rfl rfl (by omega) (by omega))).mp q
    have e : sh = N.2.2 k t := by rw [hsh]; unfold zsh; rw [if_pos (by omega)]
    refine RQ_n (ZY_ok P) 4 rfl trivial ?_
    refine RQ_v vX1_goal (y_goal hN h hk (show t < 14 by omega)) rfl k0_127 rfl rfl rfl (zy36 _ rfl) rfl ?_
    rw [← e]
    refine RQ_n (ZY_ok P) 1 rfl trivial ?_
    exact p39 _ _
theorem zdfs_2 {n : Nat → Nat} : ∀ r, (match (zdfs n r).1 with | none => (zdfs n r).2 = 0 | some b => (zdfs n r).2 = n b)
  | 0 => rfl
  | r + 1 => by
    rw [zdfs]
    by_cases y : (zdfs n r).2 < n r
    · rw [if_pos y]
    · rw [if_neg y]; exact zdfs_2 r
theorem zdfs_z {n : Nat → Nat} {R : Nat} (h : ∀ r, R ≤ r → n r = 0) : ∀ d, zdfs n (R + d) = zdfs n R
  | 0 => rfl
  | d + 1 => by
    rw [show R + (d + 1) = (R + d) + 1 from rfl, zdfs, if_neg (by rw [h _ (by omega)]; omega), zdfs_z h d]
set_option maxHeartbeats 1000000 in
theorem y_mostReduced {P : YP} {G : ZGT} {u : SX} (hG : ZGX G u) {k : Nat} (hk : k < 200) (ha : ∀ t, t ≤ zgT G → (∃ r, r < zgR G ∧ u.2.1 48 (9 * k + t) = nI r) ∨ u.2.1 48 (9 * k + t) = -1 ∨ ∃ x : Nat, 999 ≤ x ∧ x < 1200 ∧ u.2.1 48 (9 * k + t) = nI x) : EvQ (ZY P) mX0_mostReduced [.ref 47, .int (nI k)] u (fun x v => x = some (.int (fI (zdf G (fun t => u.2.1 48 (9 * k + t))))) ∧ frX [] [52] u v) := by
  have hb := hG.b
  obtain ⟨a, hae⟩ : ∃ a, a = fun t => u.2.1 48 (9 * k + t) := ⟨_, rfl⟩
  have hat : ∀ t, u.2.1 48 (9 * k + t) = a t := fun t => by rw [hae]
  rw [← hae]
  have ha : ∀ t, t ≤ zgT G → (∃ r, r < zgR G ∧ a t = nI r) ∨ a t = -1 ∨ ∃ x : Nat, 999 ≤ x ∧ x < 1200 ∧ a t = nI x := fun t ht => by rw [hae]; exact ha t ht
  have hus : ∀ r, zus G a r ≤ 9 := fun r => Nat.le_trans (zcnt_le _ _) (by omega)
  have hu0 : ∀ r, zgR G ≤ r → r < 16 → zus G a r = 0 := fun r h1 h2 => by
    have key : ∀ n, n ≤ zgT G + 1 → zcnt (fun t => decide (a t = nI r)) n = 0 := fun n => by
      induction n with
      | zero => intro _; rfl
      | succ n ih =>
        intro hn
        rw [zcnt, ih (by omega)]
        have : ¬ a n = nI r := fun e => by
          rcases ha n (by omega) with ⟨q, q1, q2⟩ | q | ⟨x, x1, x2, q⟩
          · rw [q2] at e; have := (nI_eq (by omega) (by omega)).mp e; omega
          · rw [q] at e; exact nI_m1 (by omega) e.symm
          · rw [q] at e; have := (nI_eq (by omega) (by omega)).mp e; omega
        rw [decide_eq_false this]; rfl
    exact key _ (Nat.le_refl _)
  refine EQ_V vX0_mostReduced rfl ?_
  refine RQ_n (ZY_ok P) 3 rfl trivial ?_
  refine RQ_s vJ7_fill_53178 (y_fill u 52 16 0 (by omega) (by omega) (fun _ _ => rfl)) rfl k0_69 rfl rfl rfl rfl ?_
  obtain ⟨v1, hv1⟩ : ∃ w : SX, w = (u.1, setA u.2.1 52 (fil (u.2.1 52) 0 16 0), u.2.2) := ⟨_, rfl⟩
  rw [← hv1]
  have f1 : frX [] [52] u v1 := by rw [hv1]; exact frX.s 52 (by decide)
  have a52 : v1.2.1 52 = fil (u.2.1 52) 0 16 0 := by rw [hv1]; show setA u.2.1 52 (fil (u.2.1 52) 0 16 0) 52 = _; rw [setA_at]
  refine RQ_n (ZY_ok P) 2 rfl trivial ?_
  refine loopU (zgT G + 1) (fun t (_ : Unit) => [some (.ref 47), some (.int (nI k)), some (.int (nI t)), none]) (fun t _ w => (∀ r, r < 16 → w.2.1 52 r = nI (zcnt (fun t => decide (a t = nI r)) t)) ∧ frX [] [52] u w) ?_ 0 () v1 (by omega) ⟨fun r hr => by rw [a52, fil_in (by omega) hr]; rfl, f1⟩
  intro t _ w ht hJ ih
  obtain ⟨g1, g2⟩ := hJ
  have Gw : ZGX G w := hG.fr g2 rfl
  have w48 : w.2.1 48 = u.2.1 48 := g2.2.1 48 (by decide)
  refine RQ_n (ZY_ok P) 4 rfl trivial ?_
  rw [Gw.2.1.2.2]
  refine RQ_b rfl (fun y => ?_) (fun y => ?_)
  · have y := (zq_lt (a := zgT G) (b := t) rfl rfl (by omega) (by omega)).mp y
    have : t = zgT G + 1 := by omega
    subst this
    have g1 : ∀ r, r < 16 → w.2.1 52 r = nI (zus G a r) := g1
    clear ih
    refine RQ_n (ZY_ok P) 4 rfl trivial ?_
    refine loopU 16 (fun r (_ : Unit) => [some (.ref 47), some (.int (nI k)), some (.int (fI (zdfs (zus G a) r).1)), some (.int (nI r))]) (fun _ _ v => v = w) ?_ 0 () w (by omega) rfl
    intro r _ v hr hv ih
    subst hv
    refine RQ_n (ZY_ok P) 2 rfl trivial ?_
    refine RQ_b rfl (fun q => ?_) (fun q => ?_)
    · have q := (zq_le (a := 16) (b := r) rfl rfl (by omega) (by omega)).mp q
      have : r = 16 := by omega
      subst this
      refine RQ_n (ZY_ok P) 1 rfl trivial ?_
      refine RQ_to (Rn_iret rfl rfl) ⟨?_, g2⟩
      have e : zdfs (zus G a) 16 = zdfs (zus G a) (zgR G) := by
        have key : ∀ d, zgR G + d ≤ 16 → zdfs (zus G a) (zgR G + d) = zdfs (zus G a) (zgR G) := fun d => by
          induction d with
          | zero => intro _; rfl
          | succ d ih => intro hd; rw [show zgR G + (d + 1) = (zgR G + d) + 1 from rfl, zdfs, if_neg (by rw [hu0 _ (by omega) (by omega)]; omega), ih (by omega)]
        have := key (16 - zgR G) (by omega)
        rw [show zgR G + (16 - zgR G) = 16 by omega] at this
        exact this
      rw [e]; rfl
    have q := (not_congr (zq_le (a := 16) (b := r) rfl rfl (by omega) (by omega))).mp q
    have hr9 := hus r
    have hin : vp_in (nI r) 16 := nI_in (by omega) (by omega)
    have hic : (nI r).toNatClampNeg = r := nI_clamp (by omega)
    have h2 := zdfs_2 (n := zus G a) r
    -- another one; the same one
    have same : ¬ (zdfs (zus G a) r).2 < zus G a r → RnQ (ZY P) mX0_mostReduced (100, [some (.ref 47), some (.int (nI k)), some (.int (fI (zdfs (zus G a) r).1)), some (.int (nI r))], [], v) (fun x v => x = some (.int (fI (zdf G a))) ∧ frX [] [52] u v) := by
      intro hn
      refine RQ_n (ZY_ok P) 2 rfl trivial ?_
      refine ih (by omega) () _ _ ?_ rfl
      have e : zdfs (zus G a) (r + 1) = zdfs (zus G a) r := by rw [zdfs, if_neg hn]
      rw [e]
      exact ⟨rfl, rfl, rfl, nIs r, trivial⟩
    have other : (zdfs (zus G a) r).2 < zus G a r → ∀ l2, RnQ (ZY P) mX0_mostReduced (98, [some (.ref 47), some (.int (nI k)), l2, some (.int (nI r))], [], v) (fun x v => x = some (.int (fI (zdf G a))) ∧ frX [] [52] u v) := by
      intro hn l2
      refine RQ_n (ZY_ok P) 4 rfl trivial ?_
      refine ih (by omega) () _ _ ?_ rfl
      have e : zdfs (zus G a) (r + 1) = (some r, zus G a r) := by rw [zdfs, if_pos hn]
      rw [e]
      exact ⟨rfl, rfl, rfl, nIs r, trivial⟩
    refine RQ_n (ZY_ok P) 4 rfl ⟨hin, trivial⟩ ?_
    rw [hic, g1 r (by omega)]
    refine RQ_b rfl (fun x => ?_) (fun x => ?_)
    · have x := (zq_le (a := zus G a r) (b := 0) rfl rfl (by omega) (by omega)).mp x
      exact same (by omega)
    have x := (not_congr (zq_le (a := zus G a r) (b := 0) rfl rfl (by omega) (by omega))).mp x
    refine RQ_n (ZY_ok P) 2 rfl trivial ?_
    cases hz : (zdfs (zus G a) r).1 with
    | none =>
      rw [hz] at h2
      refine RQ_b rfl (fun _ => ?_) (fun y => absurd rfl y)
      exact other (by omega) _
    | some b =>
      rw [hz] at h2 same
      have hbr := zdfs_lt r b hz
      have hb9 := hus b
      refine RQ_b rfl (fun y => absurd y (nI_m1 (a := b) (by omega))) (fun _ => ?_)
      refine RQ_n (ZY_ok P) 4 rfl ⟨hin, trivial⟩ ?_
      rw [hic, g1 r (by omega)]
      refine RQ_n (ZY_ok P) 3 rfl trivial ?_
      refine RQ_n (ZY_ok P) 1 rfl ⟨nI_in (c := b) (by omega) (by omega), trivial⟩ ?_
      rw [show (fI (some b)).toNatClampNeg = b from nI_clamp (by omega), g1 b (by omega)]
      refine RQ_b rfl (fun y => ?_) (fun y => ?_)
      · have y := (zq_le (a := zus G a r) (b := zus G a b) rfl rfl (by omega) (by omega)).mp y
        exact same (by rw [h2]; omega)
      · have y := (not_congr (zq_le (a := zus G a r) (b := zus G a b) rfl rfl (by omega) (by omega))).mp y
        exact other (by rw [h2]; omega) _
  have y := (not_congr (zq_lt (a := zgT G) (b := t) rfl rfl (by omega) (by omega))).mp y
  refine RQ_n (ZY_ok P) 7 rfl trivial ?_
  rw [show nI k * 9 + nI t = nI (9 * k + t) by rw [show (9 : Int32) = nI 9 from rfl, nI_mul, nI_add, Nat.mul_comm]]
  refine RQ_n (ZY_ok P) 1 rfl ⟨nI_in (by omega) (by omega), trivial⟩ ?_
  rw [nI_clamp (show 9 * k + t < 2 ^ 31 by omega), w48, hat]
  refine RQ_n (ZY_ok P) 2 rfl trivial ?_
  have skip : ∀ l3 : Option Value, (∀ r, r < 16 → ¬ a t = nI r) → RnQ (ZY P) mX0_mostReduced (53, [some (.ref 47), some (.int (nI k)), some (.int (nI t)), l3], [], w) (fun x v => x = some (.int (fI (zdf G a))) ∧ frX [] [52] u v) := by
    intro l3 hn
    refine RQ_n (ZY_ok P) 2 rfl trivial ?_
    refine ih (by omega) () _ _ ⟨rfl, rfl, nIs t, trivial⟩ ⟨fun r hr => ?_, g2⟩
    rw [g1 r hr, zcnt, decide_eq_false (hn r hr)]
    rfl
  rcases ha t (by omega) with ⟨q, q1, q2⟩ | q | ⟨x, x1, x2, q⟩
  · rw [q2] at skip ⊢
    refine RQ_b rfl (fun z => ?_) (fun z => ?_)
    · have := (zq_lt (a := q) (b := 0) rfl rfl (by omega) (by omega)).mp z
      omega
    refine RQ_n (ZY_ok P) 2 rfl trivial ?_
    refine RQ_b rfl (fun z => ?_) (fun z => ?_)
    · have := (zq_le (a := 16) (b := q) rfl rfl (by omega) (by omega)).mp z
      omega
    have hc9 := zcnt_le (fun t => decide (a t = nI q)) t
    refine RQ_n (ZY_ok P) 4 rfl trivial ?_
    refine RQ_n (ZY_ok P) 1 rfl ⟨nI_in (c := q) (by omega) (by omega), trivial⟩ ?_
    rw [nI_clamp (show q < 2 ^ 31 by omega), g1 q (by omega)]
    refine RQ_n (ZY_ok P) 2 rfl trivial ?_
    rw [show nI (zcnt (fun t => decide (a t = nI q)) t) + 1 = nI (zcnt (fun t => decide (a t = nI q)) t + 1) from nI_add _ 1]
    refine RQ_n (ZY_ok P) 1 rfl ⟨nI_in (c := q) (by omega) (by omega), trivial⟩ ?_
    rw [nI_clamp (show q < 2 ^ 31 by omega)]
    obtain ⟨v3, hv3⟩ : ∃ w1 : SX, w1 = (w.1, updA w.2.1 52 q (nI (zcnt (fun t => decide (a t = nI q)) t + 1)), w.2.2) := ⟨_, rfl⟩
    rw [← hv3]
    have f3 : frX [] [52] w v3 := by rw [hv3]; exact frX.a 52 (by decide)
    have h52 : v3.2.1 52 = upd (w.2.1 52) q (nI (zcnt (fun t => decide (a t = nI q)) t + 1)) := by rw [hv3]; rfl
    refine RQ_n (ZY_ok P) 2 rfl trivial ?_
    refine ih (by omega) () _ _ ⟨rfl, rfl, nIs t, trivial⟩ ⟨fun r hr => ?_, g2.tr f3⟩
    rw [h52]
    by_cases e : r = q
    · rw [e, upd_at, zcnt, decide_eq_true q2]; rfl
    · rw [upd_ne e, g1 r hr, zcnt, q2, decide_eq_false (fun z => e ((nI_eq (by omega) (by omega)).mp z).symm)]
      rfl
  · rw [q] at skip ⊢
    refine RQ_b rfl (fun z => ?_) (fun z => absurd (show (-1 : Int32) < 0 by decide) z)
    exact skip _ (fun r hr e => nI_m1 (by omega) e.symm)
  · rw [q] at skip ⊢
    refine RQ_b rfl (fun z => ?_) (fun z => ?_)
    · have := (zq_lt (a := x) (b := 0) rfl rfl (by omega) (by omega)).mp z
      omega
    refine RQ_n (ZY_ok P) 2 rfl trivial ?_
    refine RQ_b rfl (fun z => ?_) (fun z => ?_)
    · exact skip _ (fun r hr e => by have := (nI_eq (by omega) (by omega)).mp e; omega)
    · have := (not_congr (zq_le (a := 16) (b := x) rfl rfl (by omega) (by omega))).mp z
      omega
