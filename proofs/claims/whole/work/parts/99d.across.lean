/-! Bridges, both sides; the reference's actionOf. -/
def zur (G : ZGT) (a : Int32) : Option Nat := zfst (fun r => decide (a = nI r) && zun G r) (zgR G)
noncomputable def zaxs (G : ZGT) (N : ZNM) (p : Int32) (k t : Nat) : Nat → Option Nat → Option Nat
  | 0, o => o
  | _ + 1, none => none
  | n + 1, some s => match zur G (ztl G (zcl G (zE0 G) (zF0 G) (N.2.1 s)) (N.2.2 s) p t false) with
    | none => some s
    | some r => match N.2.2 k (8 + zgl G r) with
      | none => some s
      | some s' => zaxs G N p k t n (some s')
theorem zur_r {G : ZGT} (hG : GW G) {r : Nat} (hr : r < zgR G) : zur G (nI r) = if zun G r = true then some r else none := by
  have hR := hG.1.2.1
  unfold zur
  by_cases y : zun G r = true
  · rw [if_pos y]
    refine zfst_i hr (by rw [decide_eq_true rfl, y]; rfl) (fun b hb => ?_)
    rw [decide_eq_false (fun e => by have := (nI_eq (by omega) (by omega)).mp e; omega)]; rfl
  · rw [if_neg y]
    refine zfst_n.mpr (fun b hb => ?_)
    by_cases e : nI r = nI b
    · have : r = b := (nI_eq (by omega) (by omega)).mp e
      rw [← this, Bool.eq_false_iff.mpr y, Bool.and_false]
    · rw [decide_eq_false e]; rfl
theorem zur_n {G : ZGT} {a : Int32} (h : ∀ r, r < zgR G → ¬ a = nI r) : zur G a = none := zfst_n.mpr (fun b hb => by rw [decide_eq_false (h b hb)]; rfl)
theorem ztl_f {G : ZGT} {C : Nat → Int32} {g : Nat → Option Nat} {p : Int32} {t : Nat} : ztl G C g p t false = if t ≤ zgT G then zac G C g p t else -1 := by
  unfold ztl
  rw [show (!false) = true from rfl, Bool.or_true, if_pos rfl]
theorem ztl_or {G : ZGT} {C : Nat → Int32} {g : Nat → Option Nat} {p : Int32} {t : Nat} (hg : ∀ s, zsh G g t = some s → s < 200) (d : Bool) : (∃ r, r < zgR G ∧ ztl G C g p t d = nI r) ∨ ztl G C g p t d = -1 ∨ ∃ x : Nat, 999 ≤ x ∧ x < 1200 ∧ ztl G C g p t d = nI x := by
  unfold ztl
  split
  · split
    · exact zac_or hg
    · exact Or.inr (Or.inl rfl)
  · cases hz : zdf G (zac G C g p) with
    | none => exact Or.inr (Or.inl rfl)
    | some r => exact Or.inl ⟨r, zdfs_lt _ _ hz, rfl⟩
theorem y_across {P : YP} {G : ZGT} {N : ZNM} {u : SX} {p : Int32} (hG : ZGX G u) (hF : ZNF G N) (h : XV G N u) (hT : XT G N p u) {k nm t : Nat} (hk : k < N.1) (hn : nm < 6) (ht : t < 100) : Ev (ZY P) mX0_across [.ref 47, .int (nI k), .int (nI nm), .int (nI t)] u (some (.int (fI (zaxs G N p k t 6 (N.2.2 k (8 + nm)))))) u := by
  have hb := hG.b
  have hN := hF.1.2
  have hgl : ∀ b s, b < 14 → N.2.2 k b = some s → s < N.1 := fun b s hb hs => by
    rcases hF.2.2.1 k hk b hb with ⟨e, -⟩ | ⟨t', e, ht', -⟩
    · rw [e] at hs; cases hs
    · rw [e] at hs; cases hs; exact ht'
  refine EQ_ev ?_
  refine EQ_V vX0_across rfl ?_
  refine RQ_n (ZY_ok P) 6 rfl trivial ?_
  rw [show (8 : Int32) + nI nm = nI (8 + nm) from nI_add 8 nm]
  refine RQ_v vX1_goal (y_goal hN h hk (show 8 + nm < 14 by omega)) rfl k0_127 rfl rfl rfl (zy36 _ rfl) rfl ?_
  refine RQ_n (ZY_ok P) 3 rfl trivial ?_
  have key : ∀ d i o (l6 l7 : Option Value), i + d = 6 → (∀ s, o = some s → s < N.1) → zaxs G N p k t d o = zaxs G N p k t 6 (N.2.2 k (8 + nm)) → RnQ (ZY P) mX0_across (17, [some (.ref 47), some (.int (nI k)), some (.int (nI nm)), some (.int (nI t)), some (.int (fI o)), some (.int (nI i)), l6, l7], [], u) (fun x v => x = some (.int (fI (zaxs G N p k t 6 (N.2.2 k (8 + nm))))) ∧ v = u) := by
    intro d
    induction d with
    | zero =>
      intro i o l6 l7 hi ho he
      have hi : i = 6 := by omega
      subst hi
      rw [← he]
      refine RQ_n (ZY_ok P) 2 rfl trivial ?_
      have fin : RnQ (ZY P) mX0_across (109, [some (.ref 47), some (.int (nI k)), some (.int (nI nm)), some (.int (nI t)), some (.int (fI o)), some (.int (nI 6)), l6, l7], [], u) (fun x v => x = some (.int (fI (zaxs G N p k t 0 o))) ∧ v = u) := by
        refine RQ_n (ZY_ok P) 1 rfl trivial ?_
        exact RQ_to (Rn_iret rfl rfl) ⟨rfl, rfl⟩
      refine RQ_b rfl (fun _ => fin) (fun _ => ?_)
      refine RQ_n (ZY_ok P) 2 rfl trivial ?_
      exact RQ_b rfl (fun _ => fin) (fun z => absurd (show (6 : Int32) ≤ nI 6 by decide) z)
    | succ d ih =>
      intro i o l6 l7 hi ho he
      refine RQ_n (ZY_ok P) 2 rfl trivial ?_
      cases o with
      | none =>
        refine RQ_b rfl (fun _ => ?_) (fun z => absurd rfl z)
        refine RQ_n (ZY_ok P) 1 rfl trivial ?_
        rw [← he]
        exact RQ_to (Rn_iret rfl rfl) ⟨rfl, rfl⟩
      | some s =>
        have hs := ho s rfl
        refine RQ_b rfl (fun z => absurd z (nI_m1 (a := s) (by omega))) (fun _ => ?_)
        refine RQ_n (ZY_ok P) 2 rfl trivial ?_
        refine RQ_b rfl (fun z => ?_) (fun _ => ?_)
        · have := (zq_le (a := 6) (b := i) rfl rfl (by omega) (by omega)).mp z
          omega
        refine RQ_n (ZY_ok P) 4 rfl trivial ?_
        refine RQ_v vX0_told (y_told hG hN hT hs ht false) rfl k0_134 rfl rfl rfl (zy47 _ rfl) rfl ?_
        obtain ⟨a, ha⟩ : ∃ a, a = ztl G (zcl G (zE0 G) (zF0 G) (N.2.1 s)) (N.2.2 s) p t false := ⟨_, rfl⟩
        rw [zaxs, ← ha] at he
        have hor := ztl_or (C := zcl G (zE0 G) (zF0 G) (N.2.1 s)) (p := p) (hF.sh hG.1 hs (t := t)) false
        rw [← ha] at hor ⊢
        refine RQ_n (ZY_ok P) 2 rfl trivial ?_
        -- it stays
        have stay : zur G a = none → ∀ l7', RnQ (ZY P) mX0_across (64, [some (.ref 47), some (.int (nI k)), some (.int (nI nm)), some (.int (nI t)), some (.int (fI (some s))), some (.int (nI i)), some (.int a), l7'], [], u) (fun x v => x = some (.int (fI (zaxs G N p k t 6 (N.2.2 k (8 + nm))))) ∧ v = u) := by
          intro hz l7'
          rw [hz] at he
          refine RQ_n (ZY_ok P) 1 rfl trivial ?_
          rw [← he]
          exact RQ_to (Rn_iret rfl rfl) ⟨rfl, rfl⟩
        rcases hor with ⟨r, r1, r2⟩ | q | ⟨x, x1, x2, q⟩
        · rw [r2] at stay he ⊢
          refine RQ_b rfl (fun z => ?_) (fun _ => ?_)
          · have := (zq_lt (a := r) (b := 0) rfl rfl (by omega) (by omega)).mp z
            omega
          refine RQ_n (ZY_ok P) 2 rfl trivial ?_
          refine RQ_b rfl (fun z => ?_) (fun _ => ?_)
          · have := (zq_le (a := 16) (b := r) rfl rfl (by omega) (by omega)).mp z
            omega
          refine RQ_n (ZY_ok P) 3 rfl trivial ?_
          refine RQ_v vX5_isUnit (y_isUnit hG (show r ≤ zgR G by omega)) rfl k0_138 rfl rfl rfl (zy3 _ rfl) rfl ?_
          have hzr := zur_r hG.1 r1
          refine RQ_b rfl (fun z => ?_) (fun z => ?_)
          rotate_left
          · have z := bI_0.mp (Classical.not_not.mp z)
            rw [z, if_neg (by decide)] at hzr
            exact stay hzr _
          have z := bI_t z
          rw [z, if_pos rfl] at hzr
          rw [hzr] at he
          dsimp only at he
          have hl := hG.1.2.1 r r1
          refine RQ_n (ZY_ok P) 8 rfl trivial ?_
          refine RQ_n (ZY_ok P) 1 rfl ⟨nI_in (c := r) (by omega) (by omega), trivial⟩ ?_
          rw [nI_clamp (show r < 2 ^ 31 by omega), (hG.2.2.1 r r1).1]
          refine RQ_n (ZY_ok P) 1 rfl trivial ?_
          rw [show (8 : Int32) + nI (zgl G r) = nI (8 + zgl G r) from nI_add 8 _]
          refine RQ_v vX1_goal (y_goal hN h hk (show 8 + zgl G r < 14 by omega)) rfl k0_127 rfl rfl rfl (zy36 _ rfl) rfl ?_
          refine RQ_n (ZY_ok P) 3 rfl trivial ?_
          cases hg : N.2.2 k (8 + zgl G r) with
          | none =>
            rw [hg] at he
            refine RQ_b rfl (fun y => absurd rfl y) (fun _ => ?_)
            refine RQ_n (ZY_ok P) 1 rfl trivial ?_
            rw [← he]
            exact RQ_to (Rn_iret rfl rfl) ⟨rfl, rfl⟩
          | some s' =>
            rw [hg] at he
            have hs' := hgl _ s' (by omega) hg
            refine RQ_b rfl (fun _ => ?_) (fun y => absurd (Classical.not_not.mp y) (nI_m1 (a := s') (by omega)))
            refine RQ_n (ZY_ok P) 4 rfl trivial ?_
            rw [show nI i + 1 = nI (i + 1) from nI_add i 1]
            exact ih (i + 1) (some s') _ _ (by omega) (fun x hx => by cases hx; exact hs') he
        · rw [q] at stay ⊢
          refine RQ_b rfl (fun _ => ?_) (fun z => absurd (show (-1 : Int32) < 0 by decide) z)
          exact stay (zur_n (fun r hr e => nI_m1 (by omega) e.symm)) _
        · rw [q] at stay ⊢
          refine RQ_b rfl (fun z => ?_) (fun _ => ?_)
          · have := (zq_lt (a := x) (b := 0) rfl rfl (by omega) (by omega)).mp z
            omega
          refine RQ_n (ZY_ok P) 2 rfl trivial ?_
          refine RQ_b rfl (fun _ => ?_) (fun z => ?_)
          · exact stay (zur_n (fun r hr e => by have := (nI_eq (by omega) (by omega)).mp e; omega)) _
          · have := (not_congr (zq_le (a := 16) (b := x) rfl rfl (by omega) (by omega))).mp z
            omega
  exact key 6 0 (N.2.2 k (8 + nm)) _ _ (by omega) (fun s hs => hgl _ s (by omega) hs) rfl
theorem m_isUnit {G : ZGT} {u : SM} (h : ZGM G u) {r : Nat} (hr : r ≤ zgR G) : Ev ZR mX12_isUnit [.ref 0, .int (nI r)] u (some (.int (bI (zun G r)))) u := by
  have hb := h.b
  have h5 := (h.1.2.2.1 r hr).1
  refine EQ_ev ?_
  refine EQ_V vX12_isUnit rfl ?_
  refine RQ_n ZR_ok 3 rfl trivial ?_
  refine RQ_n ZR_ok 1 rfl ⟨nI_in (by omega) (by omega), trivial⟩ ?_
  rw [nI_clamp (show r < 2 ^ 31 by omega), h.n hr]
  refine RQ_n ZR_ok 1 rfl trivial ?_
  unfold zun
  refine RQ_b rfl (fun z => ?_) (fun z => ?_)
  · have z := (not_congr (zq_eq (a := zgn G r) (b := 1) rfl rfl (by omega) (by omega))).mp z
    refine RQ_n ZR_ok 1 rfl trivial ?_
    rw [decide_eq_false z]
    exact RQ_to (Rn_zret rfl rfl (Or.inl rfl)) ⟨rfl, rfl⟩
  · have z := (zq_eq (a := zgn G r) (b := 1) rfl rfl (by omega) (by omega)).mp (Classical.not_not.mp z)
    have h14 := (h.1.t hr (show 0 < zgn G r by omega)).1
    have hlm : zlm (zgt G r 0) < 200 := by unfold zlm; split <;> omega
    refine RQ_n ZR_ok 3 rfl trivial ?_
    refine RQ_v vX12_letterAt (m_letterAt h hr (show 0 < zgn G r by omega)) rfl k12_275 rfl rfl rfl rfl rfl ?_
    refine RQ_n ZR_ok 1 rfl trivial ?_
    rw [decide_eq_true z, Bool.true_and]
    refine RQ_b rfl (fun y => ?_) (fun y => ?_)
    · have y := (zq_lt (a := zlm (zgt G r 0)) (b := 100) rfl rfl (by omega) (by omega)).mp y
      refine RQ_n ZR_ok 1 rfl trivial ?_
      rw [decide_eq_false (by unfold zlm at y; split at y <;> omega)]
      exact RQ_to (Rn_zret rfl rfl (Or.inl rfl)) ⟨rfl, rfl⟩
    · have y := (not_congr (zq_lt (a := zlm (zgt G r 0)) (b := 100) rfl rfl (by omega) (by omega))).mp y
      refine RQ_n ZR_ok 2 rfl trivial ?_
      rw [decide_eq_true (by unfold zlm at y; split at y <;> omega)]
      exact RQ_to (Rn_zret rfl rfl (Or.inr rfl)) ⟨rfl, rfl⟩
section MAct
variable {G : ZGT} {N : ZNM} {u : SM} {p : Int32} {kd : Nat}
theorem m_actionOf (h : ZGM G u) (hk : kd < 3) (hN : N.1 ≤ 200) (hA : RAu G (zE0 G) (zF0 G) kd p N u) {s t : Nat} (hs : s < N.1) (ht : t ≤ zgT G ∨ t = 99) (d : Bool) : Ev ZR mX12_actionOf [.ref 0, .int (nI kd), .int (nI s), .int (nI t), .int (bI d)] u (some (.int (ztl G (zcl G (zE0 G) (zF0 G) (N.2.1 s)) (N.2.2 s) p t d))) u := by
  have hb := h.b
  obtain ⟨-, h2, -, h4⟩ := hA.2 s hs
  obtain ⟨C, hC⟩ : ∃ C, C = zcl G (zE0 G) (zF0 G) (N.2.1 s) := ⟨_, rfl⟩
  rw [← hC] at h2 h4 ⊢
  refine EQ_ev ?_
  refine EQ_V vX12_actionOf rfl ?_
  refine RQ_n ZR_ok 2 rfl trivial ?_
  have p17 : ∀ (x : Int32) (l5 : Option Value), x = (if t ≤ zgT G then zac G C (N.2.2 s) p t else -1) → RnQ ZR mX12_actionOf (17, [some (.ref 0), some (.int (nI kd)), some (.int (nI s)), some (.int (nI t)), some (.int (bI d)), l5], [.int x], u) (fun y v => y = some (.int (ztl G C (N.2.2 s) p t d)) ∧ v = u) := by
    intro x l4 hx
    have hz : ztl G C (N.2.2 s) p t d = if (!decide (x = -1) || !d) = true then x else fI (zdf G (zac G C (N.2.2 s) p)) := by
      unfold ztl
      rw [← hx]
      by_cases y : t ≤ zgT G
      · rw [if_pos y] at hx
        rw [decide_eq_true y, hx, Bool.true_and]
      · rw [if_neg y] at hx
        rw [decide_eq_false y, hx, Bool.false_and]; rfl
    rw [hz]
    refine RQ_n ZR_ok 3 rfl trivial ?_
    refine RQ_b rfl (fun z => ?_) (fun z => ?_)
    · have z : ¬ x = -1 := z
      refine RQ_n ZR_ok 1 rfl trivial ?_
      rw [decide_eq_false z]
      exact RQ_to (Rn_iret rfl rfl) ⟨rfl, rfl⟩
    · have z : x = -1 := Classical.not_not.mp z
      rw [decide_eq_true z]
      refine RQ_n ZR_ok 1 rfl trivial ?_
      refine RQ_b rfl (fun q => ?_) (fun q => ?_)
      · have q := bI_0.mp q
        refine RQ_n ZR_ok 1 rfl trivial ?_
        rw [q]
        exact RQ_to (Rn_iret rfl rfl) ⟨rfl, rfl⟩
      · have q := bI_t q
        refine RQ_n ZR_ok 7 rfl trivial ?_
        rw [show (200 : Int32) * nI kd + nI s = nI (200 * kd + s) by rw [show (200 : Int32) = nI 200 from rfl, nI_mul, nI_add]]
        refine RQ_n ZR_ok 1 rfl ⟨nI_in (by omega) (by omega), trivial⟩ ?_
        rw [nI_clamp (show 200 * kd + s < 2 ^ 31 by omega), h4, q]
        refine RQ_n ZR_ok 1 rfl trivial ?_
        exact RQ_to (Rn_iret rfl rfl) ⟨rfl, rfl⟩
  refine RQ_b rfl (fun z => ?_) (fun z => ?_)
  · have z := (not_congr (zq_eq (a := t) (b := 99) rfl rfl (by omega) (by omega))).mp z
    have ht : t ≤ zgT G := by omega
    refine RQ_n ZR_ok 4 rfl trivial ?_
    refine RQ_v vX12_plainAction (m_plainAction u hk (show s < 200 by omega) (show t < 9 by omega)) rfl k12_402 rfl rfl rfl rfl rfl ?_
    rw [h2 t ht]
    exact p17 _ _ (by rw [if_pos ht])
  · have z := (zq_eq (a := t) (b := 99) rfl rfl (by omega) (by omega)).mp (Classical.not_not.mp z)
    refine RQ_n ZR_ok 2 rfl trivial ?_
    exact p17 _ _ (by rw [if_neg (by omega)])
theorem inB_t {a b : Nat} {x lo hi : Int32} (hx : x = nI a) (hlo : lo = 0) (hhi : hi = nI b - 1) (ha : a < 2 ^ 31) (hb : b < 2 ^ 31) : inB x lo hi = decide (a < b) := by
  unfold inB
  rw [hx, hlo, hhi]
  rw [decide_eq_true (show (0 : Int32) ≤ nI a from (zq_le (a := 0) (b := a) rfl rfl (by omega) ha).mpr (Nat.zero_le _)), Bool.true_and]
  cases b with
  | zero =>
    rw [decide_eq_false (show ¬ a < 0 by omega)]
    refine decide_eq_false (fun z => ?_)
    have : (0 : Int32) ≤ nI 0 - 1 := Int32.le_trans ((zq_le (a := 0) (b := a) rfl rfl (by omega) ha).mpr (Nat.zero_le _)) z
    exact absurd this (by decide)
  | succ b =>
    rw [show nI (b + 1) - 1 = nI b from nI_pred b]
    by_cases y : a < b + 1
    · rw [decide_eq_true y]; exact decide_eq_true ((zq_le rfl rfl ha (by omega)).mpr (by omega))
    · rw [decide_eq_false y]; exact decide_eq_false (fun z => y (by have := (zq_le rfl rfl ha (by omega)).mp z; omega))
theorem m_bridgeOf (h : ZGM G u) (hk : kd < 3) (hF : ZNF G N) (hA : RAu G (zE0 G) (zF0 G) kd p N u) {s nm t : Nat} (hs : s < N.1) (hn : nm < 6) (ht : t ≤ zgT G ∨ t = 99) : Ev ZR mX12_bridgeOf [.ref 0, .int (nI kd), .int (nI s), .int (nI nm), .int (nI t)] u (some (.int (fI (zaxs G N p s t 6 (N.2.2 s (8 + nm)))))) u := by
  have hb := h.b
  have hN := hF.1.2
  have hgl : ∀ b q, b < 14 → N.2.2 s b = some q → q < N.1 := fun b q hb hq => by
    rcases hF.2.2.1 s hs b hb with ⟨e, -⟩ | ⟨t', e, ht', -⟩
    · rw [e] at hq; cases hq
    · rw [e] at hq; cases hq; exact ht'
  have hgb : ∀ b, b < 14 → Ev ZR mX12_goesBy [.ref 0, .int (nI kd), .int (nI s), .int (nI b)] u (some (.int (fI (N.2.2 s b)))) u := fun b hb => by
    have := m_goesBy u hk (show s < 200 by omega) hb
    rw [hA.1.2.2 s hs b hb] at this
    exact this
  refine EQ_ev ?_
  refine EQ_V vX12_bridgeOf rfl ?_
  refine RQ_n ZR_ok 6 rfl trivial ?_
  rw [show (8 : Int32) + nI nm = nI (8 + nm) from nI_add 8 nm]
  refine RQ_v vX12_goesBy (hgb (8 + nm) (by omega)) rfl k12_386 rfl rfl rfl rfl rfl ?_
  refine RQ_n ZR_ok 3 rfl trivial ?_
  have key : ∀ d i o (l7 l8 l9 : Option Value), i + d = 6 → (∀ q, o = some q → q < N.1) → zaxs G N p s t d o = zaxs G N p s t 6 (N.2.2 s (8 + nm)) → RnQ ZR mX12_bridgeOf (15, [some (.ref 0), some (.int (nI kd)), some (.int (nI s)), some (.int (nI nm)), some (.int (nI t)), some (.int (fI o)), some (.int (nI i)), l7, l8, l9], [], u) (fun x v => x = some (.int (fI (zaxs G N p s t 6 (N.2.2 s (8 + nm))))) ∧ v = u) := by
    intro d
    induction d with
    | zero =>
      intro i o l7 l8 l9 hi ho he
      have hi : i = 6 := by omega
      subst hi
      rw [← he]
      refine RQ_n ZR_ok 2 rfl trivial ?_
      refine RQ_b rfl (fun _ => ?_) (fun z => absurd (show (6 : Int32) ≤ nI 6 by decide) z)
      refine RQ_n ZR_ok 1 rfl trivial ?_
      exact RQ_to (Rn_iret rfl rfl) ⟨rfl, rfl⟩
    | succ d ih =>
      intro i o l7 l8 l9 hi ho he
      refine RQ_n ZR_ok 2 rfl trivial ?_
      refine RQ_b rfl (fun z => ?_) (fun _ => ?_)
      · have := (zq_le (a := 6) (b := i) rfl rfl (by omega) (by omega)).mp z
        omega
      refine RQ_n ZR_ok 2 rfl trivial ?_
      cases o with
      | none =>
        refine RQ_b rfl (fun _ => ?_) (fun z => absurd rfl z)
        refine RQ_n ZR_ok 1 rfl trivial ?_
        rw [← he]
        exact RQ_to (Rn_iret rfl rfl) ⟨rfl, rfl⟩
      | some q =>
        have hq := ho q rfl
        refine RQ_b rfl (fun z => absurd z (nI_m1 (a := q) (by omega))) (fun _ => ?_)
        obtain ⟨a, ha⟩ : ∃ a, a = ztl G (zcl G (zE0 G) (zF0 G) (N.2.1 q)) (N.2.2 q) p t false := ⟨_, rfl⟩
        rw [zaxs, ← ha] at he
        have hor := ztl_or (C := zcl G (zE0 G) (zF0 G) (N.2.1 q)) (p := p) (hF.sh h.1 hq (t := t)) false
        rw [← ha] at hor
        refine RQ_n ZR_ok 2 rfl trivial ?_
        refine RQ_b rfl (fun z => ?_) (fun z => ?_)
        · have z := (zq_eq (a := t) (b := 99) rfl rfl (by omega) (by omega)).mp z
          have hz : zur G a = none := by
            rw [ha, ztl_f, if_neg (by omega)]
            exact zur_n (fun r hr e => nI_m1 (by omega) e.symm)
          rw [hz] at he
          refine RQ_n ZR_ok 1 rfl trivial ?_
          rw [← he]
          exact RQ_to (Rn_iret rfl rfl) ⟨rfl, rfl⟩
        have z := (not_congr (zq_eq (a := t) (b := 99) rfl rfl (by omega) (by omega))).mp z
        have htT : t ≤ zgT G := ht.resolve_right z
        have ea : u.2.1 41 (9 * (200 * kd + q) + t) = a := by rw [ha, ztl_f, if_pos htT]; exact (hA.2 q hq).2.1 t htT
        refine RQ_n ZR_ok 4 rfl trivial ?_
        have hpa := m_plainAction u hk (show q < 200 by omega) (show t < 9 by omega)
        rw [ea] at hpa
        refine RQ_v vX12_plainAction hpa rfl k12_402 rfl rfl rfl rfl rfl ?_
        refine RQ_n ZR_ok 7 rfl trivial ?_
        rw [h.2.1.1]
        refine RQ_s vX12_in (e_in u a 0 (nI (zgR G) - 1)) rfl k12_170 rfl rfl rfl rfl ?_
        -- it stays
        have stay : zur G a = none → ∀ l8' l9', RnQ ZR mX12_bridgeOf (74, [some (.ref 0), some (.int (nI kd)), some (.int (nI s)), some (.int (nI nm)), some (.int (nI t)), some (.int (fI (some q))), some (.int (nI i)), some (.int a), l8', l9'], [], u) (fun x v => x = some (.int (fI (zaxs G N p s t 6 (N.2.2 s (8 + nm))))) ∧ v = u) := by
          intro hz l8' l9'
          rw [hz] at he
          refine RQ_n ZR_ok 3 rfl trivial ?_
          refine RQ_b rfl (fun _ => ?_) (fun y => absurd rfl y)
          refine RQ_n ZR_ok 4 rfl trivial ?_
          refine RQ_b rfl (fun y => absurd rfl y) (fun _ => ?_)
          refine RQ_n ZR_ok 1 rfl trivial ?_
          rw [← he]
          exact RQ_to (Rn_iret rfl rfl) ⟨rfl, rfl⟩
        rcases hor with ⟨r, r1, r2⟩ | e | ⟨x, x1, x2, e⟩
        · rw [r2] at stay he ⊢
          rw [inB_t (a := r) (b := zgR G) rfl rfl rfl (by omega) (by omega), decide_eq_true r1]
          refine RQ_b rfl (fun y => absurd (show (1 : Int32) = 0 from y) (by decide)) (fun _ => ?_)
          refine RQ_n ZR_ok 2 rfl trivial ?_
          refine RQ_v vX12_isUnit (m_isUnit h (show r ≤ zgR G by omega)) rfl k12_272 rfl rfl rfl rfl rfl ?_
          have hzr := zur_r h.1 r1
          refine RQ_b rfl (fun y => ?_) (fun y => ?_)
          · have y := bI_0.mp y
            rw [y, if_neg (by decide)] at hzr
            exact stay hzr _ _
          have y := bI_t y
          rw [y, if_pos rfl] at hzr
          rw [hzr] at he
          dsimp only at he
          have hl := h.1.2.1 r r1
          refine RQ_n ZR_ok 4 rfl trivial ?_
          refine RQ_b rfl (fun y => absurd (show (1 : Int32) = 0 from y) (by decide)) (fun _ => ?_)
          refine RQ_n ZR_ok 7 rfl trivial ?_
          refine RQ_n ZR_ok 1 rfl ⟨nI_in (c := r) (by omega) (by omega), trivial⟩ ?_
          rw [nI_clamp (show r < 2 ^ 31 by omega), h.l r1]
          refine RQ_n ZR_ok 1 rfl trivial ?_
          rw [show (8 : Int32) + nI (zgl G r) = nI (8 + zgl G r) from nI_add 8 _]
          refine RQ_v vX12_goesBy (hgb (8 + zgl G r) (by omega)) rfl k12_386 rfl rfl rfl rfl rfl ?_
          refine RQ_n ZR_ok 4 rfl trivial ?_
          cases hg : N.2.2 s (8 + zgl G r) with
          | none =>
            rw [hg] at he
            refine RQ_b rfl (fun y => absurd rfl y) (fun _ => ?_)
            refine RQ_n ZR_ok 1 rfl trivial ?_
            rw [← he]
            exact RQ_to (Rn_iret rfl rfl) ⟨rfl, rfl⟩
          | some s' =>
            rw [hg] at he
            have hs' := hgl _ s' (by omega) hg
            refine RQ_b rfl (fun _ => ?_) (fun y => absurd (Classical.not_not.mp y) (nI_m1 (a := s') (by omega)))
            refine RQ_n ZR_ok 4 rfl trivial ?_
            rw [show nI i + 1 = nI (i + 1) from nI_add i 1]
            exact ih (i + 1) (some s') _ _ _ (by omega) (fun x hx => by cases hx; exact hs') he
        · rw [e] at stay ⊢
          rw [show inB (-1) 0 (nI (zgR G) - 1) = false by unfold inB; rw [decide_eq_false (by decide)]; rfl]
          refine RQ_b rfl (fun _ => ?_) (fun y => absurd rfl y)
          exact stay (zur_n (fun r hr e => nI_m1 (by omega) e.symm)) _ _
        · rw [e] at stay ⊢
          rw [inB_t (a := x) (b := zgR G) rfl rfl rfl (by omega) (by omega), decide_eq_false (by omega)]
          refine RQ_b rfl (fun _ => ?_) (fun y => absurd rfl y)
          exact stay (zur_n (fun r hr e => by have := (nI_eq (by omega) (by omega)).mp e; omega)) _ _
  exact key 6 0 (N.2.2 s (8 + nm)) _ _ _ (by omega) (fun q hq => hgl _ q (by omega) hq) rfl
end MAct
