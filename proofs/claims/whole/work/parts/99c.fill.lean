/-! The class: fill, told, across. -/
/-- the class holds the actions -/
def XT (G : ZGT) (N : ZNM) (p : Int32) (v : SX) : Prop := ∀ k, k < N.1 → (∀ t, t ≤ zgT G → v.2.1 48 (9 * k + t) = zac G (zcl G (zE0 G) (zF0 G) (N.2.1 k)) (N.2.2 k) p t) ∧ v.2.1 49 k = fI (zdf G (zac G (zcl G (zE0 G) (zF0 G) (N.2.1 k)) (N.2.2 k) p)) ∧ v.2.1 50 k = zck G (zcl G (zE0 G) (zF0 G) (N.2.1 k)) (N.2.2 k) (zgT G + 1)
theorem ZNF.lk {G : ZGT} {N : ZNM} (hG : GW G) (hl : zlF G (zE0 G) (zF0 G)) (hF : ZNF G N) {k : Nat} (hk : k < N.1) : zlk G (zcl G (zE0 G) (zF0 G) (N.2.1 k)) := zlk_C hG (zlF_mk hG hl) (hF.2.1 k hk).2.2.2 (zcl_ls _ _ _ _)
theorem ZNF.sh {G : ZGT} {N : ZNM} (hG : GW G) (hF : ZNF G N) {k t : Nat} (hk : k < N.1) : ∀ s, zsh G (N.2.2 k) t = some s → s < 200 := fun s hs => by
  have hT := hG.1.2.2.2.2
  have hN := hF.1.2
  unfold zsh at hs
  split at hs
  · rcases hF.2.2.1 k hk t (by omega) with ⟨e, -⟩ | ⟨t', e, ht', -⟩
    · rw [e] at hs; cases hs
    · rw [e] at hs; cases hs; omega
  · cases hs
set_option maxHeartbeats 1000000 in
theorem y_fillA {P : YP} {G : ZGT} {N : ZNM} {u : SX} (hG : ZGX G u) (hl : zlF G (zE0 G) (zF0 G)) (hF : ZNF G N) (h : XV G N u) : EvQ (ZY P) mX0_fill [.ref 47] u (fun x v => x = none ∧ XT G N (u.1 3 4) v ∧ v.1 47 3 = 0 ∧ frX [(47, 3), (47, 7), (47, 8), (47, 9)] [48, 49, 50, 51, 52] u v) := by
  have hb := hG.b
  have hN := hF.1.2
  obtain ⟨p, hp⟩ : ∃ p, p = u.1 3 4 := ⟨_, rfl⟩
  rw [← hp]
  refine EQ_V vX0_fill rfl ?_
  refine RQ_n (ZY_ok P) 3 rfl ⟨Or.inl rfl, trivial⟩ ?_
  refine RQ_n (ZY_ok P) 2 rfl trivial ?_
  obtain ⟨v1, hv1⟩ : ∃ w : SX, w = (updI u.1 47 3 0, u.2) := ⟨_, rfl⟩
  show RnQ (ZY P) mX0_fill (7, _, _, ((updI u.1 47 3 0, u.2) : SX)) _
  rw [← hv1]
  have f1 : frX [(47, 3), (47, 7), (47, 8), (47, 9)] [48, 49, 50, 51, 52] u v1 := by rw [hv1]; exact frX.i 47 3 (by decide)
  have i3 : v1.1 47 3 = 0 := by rw [hv1]; rfl
  refine loopU N.1 (fun k (_ : Unit) => [some (.ref 47), some (.int (nI k)), none]) (fun k _ w => (∀ k', k' < k → (∀ t, t ≤ zgT G → w.2.1 48 (9 * k' + t) = zac G (zcl G (zE0 G) (zF0 G) (N.2.1 k')) (N.2.2 k') p t) ∧ w.2.1 49 k' = fI (zdf G (zac G (zcl G (zE0 G) (zF0 G) (N.2.1 k')) (N.2.2 k') p)) ∧ w.2.1 50 k' = zck G (zcl G (zE0 G) (zF0 G) (N.2.1 k')) (N.2.2 k') (zgT G + 1)) ∧ w.1 47 3 = 0 ∧ frX [(47, 3), (47, 7), (47, 8), (47, 9)] [48, 49, 50, 51, 52] u w) ?_ 0 () v1 (by omega) ⟨fun k' hk' => by omega, i3, f1⟩
  intro k _ w hk hJ ih
  obtain ⟨g1, g2, g3⟩ := hJ
  have Gw : ZGX G w := hG.fr g3 rfl
  have Vw : XV G N w := h.fr g3 (by decide) (by decide)
  refine RQ_n (ZY_ok P) 4 rfl trivial ?_
  rw [Vw.1]
  refine RQ_b rfl (fun z => ?_) (fun z => ?_)
  · have z := (zq_le (a := N.1) (b := k) rfl rfl (by omega) (by omega)).mp z
    have : k = N.1 := by omega
    subst this
    exact RQ_to (Rn_vret rfl rfl) ⟨rfl, g1, g2, g3⟩
  have z := (not_congr (zq_le (a := N.1) (b := k) rfl rfl (by omega) (by omega))).mp z
  have hkn : k < N.1 := by omega
  obtain ⟨C, hC⟩ : ∃ C, C = zcl G (zE0 G) (zF0 G) (N.2.1 k) := ⟨_, rfl⟩
  have hCl : zlk G C := by rw [hC]; exact hF.lk hG.1 hl hkn
  refine RQ_n (ZY_ok P) 3 rfl trivial ?_
  refine RQ_V vX0_weigh (y_weigh Gw hF Vw hkn false) rfl k0_49 rfl rfl rfl (zy47 _ rfl) (fun _ s1 q => by show 3 * s1.2.2.2.2.1 + 99 = 3 * w.2.2.2.2.1 + 99; rw [q.2.2.2.2]) ?_
  rintro r2 w2 ⟨rfl, hW, f2⟩
  rw [← hC] at hW
  obtain ⟨c1, c2, c3⟩ := XW_ck hG.1 hF hkn hCl hW
  refine RQ_n (ZY_ok P) 5 rfl trivial ?_
  rw [c1]
  refine RQ_n (ZY_ok P) 1 rfl ⟨nI_in (by omega) (by omega), trivial⟩ ?_
  rw [nI_clamp (show k < 2 ^ 31 by omega)]
  obtain ⟨w3, hw3⟩ : ∃ x : SX, x = (w2.1, updA w2.2.1 50 k (zck G C (N.2.2 k) (zgT G + 1)), w2.2.2) := ⟨_, rfl⟩
  rw [← hw3]
  have f3 : frX [] [50] w2 w3 := by rw [hw3]; exact frX.a 50 (by decide)
  have h50 : w3.2.1 50 = upd (w2.2.1 50) k (zck G C (N.2.2 k) (zgT G + 1)) := by rw [hw3]; rfl
  have F3 : frX [(47, 7), (47, 8), (47, 9)] [50, 51] w w3 := (f2.up (by decide) (by decide)).tr (f3.up (by decide) (by decide))
  refine RQ_n (ZY_ok P) 2 rfl trivial ?_
  refine loopU (zgT G + 1) (fun t (_ : Unit) => [some (.ref 47), some (.int (nI k)), some (.int (nI t))]) (fun t _ v => (∀ t', t' < t → v.2.1 48 (9 * k + t') = zac G C (N.2.2 k) p t') ∧ (∀ j, (j < 9 * k ∨ 9 * k + 9 ≤ j) → v.2.1 48 j = w.2.1 48 j) ∧ frX [] [48] w3 v) ?_ 0 () w3 (by omega) ⟨fun t' ht' => by omega, fun j _ => by rw [F3.2.1 48 (by decide)], frX.rf⟩
  intro t _ v ht hJ2 ih2
  obtain ⟨d1, d2, d3⟩ := hJ2
  have Fv : frX [(47, 3), (47, 7), (47, 8), (47, 9)] [48, 49, 50, 51, 52] u v := g3.tr ((F3.up (by decide) (by decide)).tr (d3.up (by decide) (by decide)))
  have Gv : ZGX G v := hG.fr Fv rfl
  have Vv : XV G N v := h.fr Fv (by decide) (by decide)
  refine RQ_n (ZY_ok P) 4 rfl trivial ?_
  rw [Gv.2.1.2.2]
  refine RQ_b rfl (fun y => ?_) (fun y => ?_)
  · have y := (zq_lt (a := zgT G) (b := t) rfl rfl (by omega) (by omega)).mp y
    have : t = zgT G + 1 := by omega
    subst this
    refine RQ_n (ZY_ok P) 5 rfl trivial ?_
    refine RQ_V vX0_mostReduced (y_mostReduced Gv (show k < 200 by omega) (fun t ht => by rw [d1 t (by omega)]; exact zac_or (hF.sh hG.1 hkn))) rfl k0_65 rfl rfl rfl (zy47 _ rfl) (fun _ s1 q => by show 3 * s1.2.2.2.2.1 + 99 = 3 * v.2.2.2.2.1 + 99; rw [q.2.2.2]) ?_
    rintro r4 v4 ⟨rfl, f4⟩
    rw [zdf_cg (a' := zac G C (N.2.2 k) p) (fun t ht => d1 t (by omega))]
    refine RQ_n (ZY_ok P) 1 rfl ⟨nI_in (by omega) (by omega), trivial⟩ ?_
    rw [nI_clamp (show k < 2 ^ 31 by omega)]
    obtain ⟨v5, hv5⟩ : ∃ x : SX, x = (v4.1, updA v4.2.1 49 k (fI (zdf G (zac G C (N.2.2 k) p))), v4.2.2) := ⟨_, rfl⟩
    show RnQ (ZY P) mX0_fill (_, _, _, ((v4.1, updA v4.2.1 49 k (fI (zdf G (zac G C (N.2.2 k) p))), v4.2.2) : SX)) _
    rw [← hv5]
    have f5 : frX [] [49] v4 v5 := by rw [hv5]; exact frX.a 49 (by decide)
    have h49 : v5.2.1 49 = upd (v4.2.1 49) k (fI (zdf G (zac G C (N.2.2 k) p))) := by rw [hv5]; rfl
    have F5 : frX [] [49, 52] v v5 := (f4.up (by decide) (by decide)).tr (f5.up (by decide) (by decide))
    refine RQ_n (ZY_ok P) 2 rfl trivial ?_
    refine ih (by omega) () _ _ ⟨rfl, nIs k, trivial⟩ ⟨fun k' hk' => ?_, ?_, Fv.tr (F5.up (by decide) (by decide))⟩
    · have e48 : v5.2.1 48 = v.2.1 48 := F5.2.1 48 (by decide)
      have e50 : v5.2.1 50 = w3.2.1 50 := by rw [F5.2.1 50 (by decide), d3.2.1 50 (by decide)]
      have e49 : v4.2.1 49 = w.2.1 49 := by rw [f4.2.1 49 (by decide), d3.2.1 49 (by decide), F3.2.1 49 (by decide)]
      by_cases q : k' = k
      · subst q
        refine ⟨fun t ht => ?_, ?_, ?_⟩
        · rw [e48, ← hC]; exact d1 t (by omega)
        · rw [h49, upd_at, ← hC]
        · rw [e50, h50, upd_at, ← hC]
      · obtain ⟨x1, x2, x3⟩ := g1 k' (by omega)
        refine ⟨fun t ht => ?_, ?_, ?_⟩
        · rw [e48, d2 _ (by omega)]; exact x1 t ht
        · rw [h49, upd_ne q, e49]; exact x2
        · rw [e50, h50, upd_ne q, f2.2.1 50 (by decide)]; exact x3
    · rw [F5.1 47 3 (by decide), d3.1 47 3 (by decide), F3.1 47 3 (by decide)]; exact g2
  have y := (not_congr (zq_lt (a := zgT G) (b := t) rfl rfl (by omega) (by omega))).mp y
  refine RQ_n (ZY_ok P) 10 rfl trivial ?_
  rw [show nI k * 9 + nI t = nI (9 * k + t) by rw [show (9 : Int32) = nI 9 from rfl, nI_mul, nI_add, Nat.mul_comm]]
  have hst := y_settled (P := P) (C := C) Gv hF Vv hkn (show t ≤ zgT G by omega) (by rw [d3.1 47 9 (by decide), f3.1 47 9 (by decide)]; exact c2 t) (by rw [d3.2.1 51 (by decide), f3.2.1 51 (by decide)]; exact c3 t (by omega))
  rw [Fv.1 3 4 (by decide), ← hp] at hst
  refine RQ_v vX0_settled hst rfl k0_61 rfl rfl rfl (zy47 _ rfl) rfl ?_
  refine RQ_n (ZY_ok P) 1 rfl ⟨nI_in (by omega) (by omega), trivial⟩ ?_
  rw [nI_clamp (show 9 * k + t < 2 ^ 31 by omega)]
  obtain ⟨v5, hv5⟩ : ∃ x : SX, x = (v.1, updA v.2.1 48 (9 * k + t) (zac G C (N.2.2 k) p t), v.2.2) := ⟨_, rfl⟩
  rw [← hv5]
  have f5 : frX [] [48] v v5 := by rw [hv5]; exact frX.a 48 (by decide)
  have h48 : v5.2.1 48 = upd (v.2.1 48) (9 * k + t) (zac G C (N.2.2 k) p t) := by rw [hv5]; rfl
  refine RQ_n (ZY_ok P) 2 rfl trivial ?_
  refine ih2 (by omega) () _ _ ⟨rfl, rfl, nIs t, trivial⟩ ⟨fun t' ht' => ?_, fun j hj => ?_, d3.tr f5⟩
  · rw [h48]
    by_cases q : t' = t
    · rw [q, upd_at]
    · rw [upd_ne (by omega)]; exact d1 t' (by omega)
  · rw [h48, upd_ne (by omega)]; exact d2 j hj
/-- the action by a sign, the end, or a strange one; with defaults or without -/
def ztl (G : ZGT) (C : Nat → Int32) (g : Nat → Option Nat) (p : Int32) (t : Nat) (d : Bool) : Int32 := if ((decide (t ≤ zgT G) && !decide (zac G C g p t = -1)) || !d) = true then (if t ≤ zgT G then zac G C g p t else -1) else fI (zdf G (zac G C g p))
theorem y_told {P : YP} {G : ZGT} {N : ZNM} {u : SX} {p : Int32} (hG : ZGX G u) (hN : N.1 ≤ 200) (hT : XT G N p u) {k t : Nat} (hk : k < N.1) (ht : t < 100) (d : Bool) : Ev (ZY P) mX0_told [.ref 47, .int (nI k), .int (nI t), .int (bI d)] u (some (.int (ztl G (zcl G (zE0 G) (zF0 G) (N.2.1 k)) (N.2.2 k) p t d))) u := by
  have hb := hG.b
  obtain ⟨h1, h2, -⟩ := hT k hk
  obtain ⟨C, hC⟩ : ∃ C, C = zcl G (zE0 G) (zF0 G) (N.2.1 k) := ⟨_, rfl⟩
  rw [← hC] at h1 h2 ⊢
  refine EQ_ev ?_
  refine EQ_V vX0_told rfl ?_
  refine RQ_n (ZY_ok P) 4 rfl trivial ?_
  rw [hG.2.1.2.2]
  have p26 : ∀ (x : Int32) (l4 : Option Value), x = (if t ≤ zgT G then zac G C (N.2.2 k) p t else -1) → RnQ (ZY P) mX0_told (26, [some (.ref 47), some (.int (nI k)), some (.int (nI t)), some (.int (bI d)), l4], [.int x], u) (fun y v => y = some (.int (ztl G C (N.2.2 k) p t d)) ∧ v = u) := by
    intro x l4 hx
    have hz : ztl G C (N.2.2 k) p t d = if (!decide (x = -1) || !d) = true then x else fI (zdf G (zac G C (N.2.2 k) p)) := by
      unfold ztl
      rw [← hx]
      by_cases y : t ≤ zgT G
      · rw [if_pos y] at hx
        rw [decide_eq_true y, hx, Bool.true_and]
      · rw [if_neg y] at hx
        rw [decide_eq_false y, hx, Bool.false_and]; rfl
    rw [hz]
    refine RQ_n (ZY_ok P) 3 rfl trivial ?_
    refine RQ_b rfl (fun z => ?_) (fun z => ?_)
    · have z : ¬ x = -1 := z
      refine RQ_n (ZY_ok P) 1 rfl trivial ?_
      rw [decide_eq_false z]
      exact RQ_to (Rn_iret rfl rfl) ⟨rfl, rfl⟩
    · have z : x = -1 := Classical.not_not.mp z
      rw [decide_eq_true z]
      refine RQ_n (ZY_ok P) 1 rfl trivial ?_
      refine RQ_b rfl (fun q => ?_) (fun q => ?_)
      · have q := bI_0.mp q
        refine RQ_n (ZY_ok P) 1 rfl trivial ?_
        rw [q]
        exact RQ_to (Rn_iret rfl rfl) ⟨rfl, rfl⟩
      · have q := bI_t q
        refine RQ_n (ZY_ok P) 3 rfl trivial ?_
        refine RQ_n (ZY_ok P) 1 rfl ⟨nI_in (by omega) (by omega), trivial⟩ ?_
        rw [nI_clamp (show k < 2 ^ 31 by omega), h2, q]
        refine RQ_n (ZY_ok P) 1 rfl trivial ?_
        exact RQ_to (Rn_iret rfl rfl) ⟨rfl, rfl⟩
  refine RQ_b rfl (fun z => ?_) (fun z => ?_)
  · have z := (zq_lt (a := zgT G) (b := t) rfl rfl (by omega) (by omega)).mp z
    refine RQ_n (ZY_ok P) 1 rfl trivial ?_
    exact p26 _ _ (by rw [if_neg (by omega)])
  · have z := (not_congr (zq_lt (a := zgT G) (b := t) rfl rfl (by omega) (by omega))).mp z
    refine RQ_n (ZY_ok P) 7 rfl trivial ?_
    rw [show nI k * 9 + nI t = nI (9 * k + t) by rw [show (9 : Int32) = nI 9 from rfl, nI_mul, nI_add, Nat.mul_comm]]
    refine RQ_n (ZY_ok P) 1 rfl ⟨nI_in (by omega) (by omega), trivial⟩ ?_
    rw [nI_clamp (show 9 * k + t < 2 ^ 31 by omega), h1 t (by omega)]
    refine RQ_n (ZY_ok P) 1 rfl trivial ?_
    exact p26 _ _ (by rw [if_pos (by omega)])
/-- a rule of one name -/
def zun (G : ZGT) (r : Nat) : Bool := decide (zgn G r = 1) && decide (8 ≤ zgt G r 0)
theorem y_isUnit {P : YP} {G : ZGT} {u : SX} (hG : ZGX G u) {r : Nat} (hr : r ≤ zgR G) : Ev (ZY P) mX5_isUnit [.ref 3, .int (nI r)] u (some (.int (bI (zun G r)))) u := by
  have hb := hG.b
  have h5 := (hG.1.2.2.1 r hr).1
  refine EQ_ev ?_
  refine EQ_V vX5_isUnit rfl ?_
  refine RQ_n (ZY_ok P) 3 rfl trivial ?_
  refine RQ_n (ZY_ok P) 1 rfl ⟨nI_in (by omega) (by omega), trivial⟩ ?_
  rw [nI_clamp (show r < 2 ^ 31 by omega), (hG.2.2.2 r hr).1]
  refine RQ_n (ZY_ok P) 1 rfl trivial ?_
  unfold zun
  refine RQ_b rfl (fun z => ?_) (fun z => ?_)
  · have z := (not_congr (zq_eq (a := zgn G r) (b := 1) rfl rfl (by omega) (by omega))).mp z
    refine RQ_n (ZY_ok P) 1 rfl trivial ?_
    rw [decide_eq_false z]
    exact RQ_to (Rn_zret rfl rfl (Or.inl rfl)) ⟨rfl, rfl⟩
  · have z := (zq_eq (a := zgn G r) (b := 1) rfl rfl (by omega) (by omega)).mp (Classical.not_not.mp z)
    have h14 := hG.1.t hr (show 0 < zgn G r by omega)
    refine RQ_n (ZY_ok P) 5 rfl trivial ?_
    rw [nI_mul5r]
    refine RQ_n (ZY_ok P) 1 rfl ⟨nI_in (by omega) (by omega), trivial⟩ ?_
    have e0 := (hG.2.2.2 r hr).2 0 (by omega)
    rw [Nat.add_zero] at e0
    rw [nI_clamp (show 5 * r < 2 ^ 31 by omega), e0]
    refine RQ_n (ZY_ok P) 1 rfl trivial ?_
    rw [decide_eq_true z, Bool.true_and]
    refine RQ_b rfl (fun y => ?_) (fun y => ?_)
    · have y := (zq_lt (a := zgt G r 0) (b := 8) rfl rfl (by omega) (by omega)).mp y
      refine RQ_n (ZY_ok P) 1 rfl trivial ?_
      rw [decide_eq_false (by omega)]
      exact RQ_to (Rn_zret rfl rfl (Or.inl rfl)) ⟨rfl, rfl⟩
    · have y := (not_congr (zq_lt (a := zgt G r 0) (b := 8) rfl rfl (by omega) (by omega))).mp y
      refine RQ_n (ZY_ok P) 2 rfl trivial ?_
      rw [decide_eq_true (by omega)]
      exact RQ_to (Rn_zret rfl rfl (Or.inr rfl)) ⟨rfl, rfl⟩
