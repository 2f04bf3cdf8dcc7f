/-! The reference: acts, done and undone; the image. -/
def HsM (a : Nat) (ko kp : Nat → Int32) (s : SM) : Prop := s.1 37 = nI a ∧ a ≤ 40 ∧ ∀ i, i < a → s.2.1 35 i = ko i ∧ s.2.1 36 i = kp i
def hmAn (a : Nat) (k : Nat → Int32) (x : Int32) : Nat → Int32 := fun i => if a = 40 then (if i = 39 then x else k (i + 1)) else if i = a then x else k i
section ActM
variable {G : ZGT} {s : SM} {a : Nat} {ko kp : Nat → Int32}
theorem m_putBy (h : HsM a ko kp s) : EvQ ZR mX12_putBy [.ref 0] s (fun x v => x = none ∧ HsM (hsNn a) (hmAn a ko (s.1 23)) (hmAn a kp (s.1 24)) v ∧ frM [37] [35, 36] s v) := by
  obtain ⟨h1, h2, h3⟩ := h
  refine EQ_V vX12_putBy rfl ?_
  have fin : ∀ (v : SM) (b : Nat) (x1 : Option Value), b < 40 → v.1 37 = nI b → hsNn a = b + 1 → (∀ i, i < b → v.2.1 35 i = hmAn a ko (s.1 23) i ∧ v.2.1 36 i = hmAn a kp (s.1 24) i) → hmAn a ko (s.1 23) b = s.1 23 → hmAn a kp (s.1 24) b = s.1 24 → frM [37] [35, 36] s v → RnQ ZR mX12_putBy (61, [some (.ref 0), x1], [], v) (fun x v => x = none ∧ HsM (hsNn a) (hmAn a ko (s.1 23)) (hmAn a kp (s.1 24)) v ∧ frM [37] [35, 36] s v) := by
    intro v b x1 hb e1 e2 e3 e4 e5 f
    have hin : vp_in (v.1 37) 40 := by rw [e1]; exact nI_in (by omega) (by omega)
    have e23 := f.1 23 (by decide)
    have e24 := f.1 24 (by decide)
    refine RQ_n ZR_ok 20 rfl ⟨hin, hin, trivial⟩ ?_
    refine RQ_to (Rn_vret rfl rfl) ⟨rfl, ⟨?_, by omega, fun i hi => ⟨?_, ?_⟩⟩, ?_⟩
    · show v.1 37 + 1 = _
      rw [e1, e2, show (1 : Int32) = nI 1 from rfl, nI_add]
    · show upd (v.2.1 35) (v.1 37).toNatClampNeg (v.1 23) i = _
      rw [e1, nI_clamp (by omega), e23]
      by_cases hib : i = b
      · subst hib
        rw [upd_at, e4]
      · exact (upd_ne hib).trans (e3 i (by omega)).1
    · show upd (v.2.1 36) (v.1 37).toNatClampNeg (v.1 24) i = _
      rw [e1, nI_clamp (by omega), e24]
      by_cases hib : i = b
      · subst hib
        rw [upd_at, e5]
      · exact (upd_ne hib).trans (e3 i (by omega)).2
    · exact ((f.tr (frM.a 35 (by decide))).tr (frM.a 36 (by decide))).tr (frM.i 37 (by decide))
  refine RQ_n ZR_ok 3 rfl trivial ?_
  rw [h1]
  refine RQ_b rfl (fun z => ?_) (fun z => ?_)
  · have z : ¬ nI a = (40 : Int32) := z
    have hne : a ≠ 40 := fun y => z (by rw [y]; rfl)
    refine fin s a _ (by omega) h1 ?_ (fun i hi => ?_) ?_ ?_ frM.rf
    · unfold hsNn; rw [if_neg hne]
    · unfold hmAn; rw [if_neg hne, if_neg (by omega), if_neg hne, if_neg (by omega)]; exact h3 i hi
    · unfold hmAn; rw [if_neg hne, if_pos rfl]
    · unfold hmAn; rw [if_neg hne, if_pos rfl]
  · have z : ¬ ¬ nI a = (40 : Int32) := z
    have ha : a = 40 := (zq_eq (a := a) (b := 40) rfl rfl (by omega) (by omega)).mp (Classical.byContradiction z)
    subst ha
    refine RQ_n ZR_ok 2 rfl trivial ?_
    have key := loopU (Z := ZR) (M := mX12_putBy) (pc := 11) (Q := fun x v => x = none ∧ HsM (hsNn 40) (hmAn 40 ko (s.1 23)) (hmAn 40 kp (s.1 24)) v ∧ frM [37] [35, 36] s v) 39 (fun k (_ : Unit) => [some (.ref 0), some (.int (nI (k + 1)))]) (fun k _ v => frM [] [35, 36] s v ∧ (∀ j, j < k → v.2.1 35 j = ko (j + 1) ∧ v.2.1 36 j = kp (j + 1)) ∧ ∀ j, k ≤ j → v.2.1 35 j = s.2.1 35 j ∧ v.2.1 36 j = s.2.1 36 j) ?_ 0 () s (by omega) ⟨frM.rf, fun j hj => (by omega), fun _ _ => ⟨rfl, rfl⟩⟩
    · exact key
    intro k _ v hk hJ ih
    obtain ⟨g1, g2, g3⟩ := hJ
    refine RQ_n ZR_ok 2 rfl trivial ?_
    refine RQ_b rfl (fun z => ?_) (fun z => ?_)
    · have z := (zq_le (a := 40) (b := k + 1) rfl rfl (by omega) (by omega)).mp z
      have : k = 39 := by omega
      subst this
      refine RQ_n ZR_ok 6 rfl trivial ?_
      refine fin _ 39 _ (by omega) ?_ rfl (fun i hi => ?_) rfl rfl ((g1.up (by decide) (by decide)).tr (frM.i 37 (by decide)))
      · show v.1 37 - 1 = _
        rw [g1.1 37 (by decide), h1]; rfl
      · show v.2.1 35 i = _ ∧ v.2.1 36 i = _
        unfold hmAn
        rw [if_pos rfl, if_neg (by omega), if_pos rfl, if_neg (by omega)]
        exact g2 i hi
    have z := (not_congr (zq_le (a := 40) (b := k + 1) rfl rfl (by omega) (by omega))).mp z
    have ek : nI (k + 1) - 1 = nI k := nI_pred k
    have hkc : (nI (k + 1)).toNatClampNeg = k + 1 := nI_clamp (by omega)
    have hkc0 : (nI k).toNatClampNeg = k := nI_clamp (by omega)
    have hv1 := g3 (k + 1) (by omega)
    have hv2 := h3 (k + 1) (by omega)
    refine RQ_n ZR_ok 5 rfl trivial ?_
    rw [ek]
    refine RQ_n ZR_ok 5 rfl ⟨nI_in (by omega) (by omega), nI_in (by omega) (by omega), trivial⟩ ?_
    refine RQ_n ZR_ok 5 rfl trivial ?_
    rw [ek]
    refine RQ_n ZR_ok 7 rfl ⟨nI_in (by omega) (by omega), nI_in (by omega) (by omega), trivial⟩ ?_
    refine ih (by omega) () _ _ ⟨rfl, nIs (k + 1), trivial⟩ ⟨(g1.tr (frM.a 35 (by decide))).tr (frM.a 36 (by decide)), fun j hj => ⟨?_, ?_⟩, fun j hj => ⟨?_, ?_⟩⟩
    · show upd (v.2.1 35) (nI k).toNatClampNeg (v.2.1 35 (nI (k + 1)).toNatClampNeg) j = _
      rw [hkc, hkc0, hv1.1, hv2.1]
      by_cases y : j = k
      · subst y; rw [upd_at]
      · rw [upd_ne y]; exact (g2 j (by omega)).1
    · show upd (v.2.1 36) (nI k).toNatClampNeg (v.2.1 36 (nI (k + 1)).toNatClampNeg) j = _
      rw [hkc, hkc0, hv1.2, hv2.2]
      by_cases y : j = k
      · subst y; rw [upd_at]
      · rw [upd_ne y]; exact (g2 j (by omega)).2
    · show upd (v.2.1 35) (nI k).toNatClampNeg (v.2.1 35 (nI (k + 1)).toNatClampNeg) j = _
      rw [hkc0, upd_ne (by omega)]; exact (g3 j (by omega)).1
    · show upd (v.2.1 36) (nI k).toNatClampNeg (v.2.1 36 (nI (k + 1)).toNatClampNeg) j = _
      rw [hkc0, upd_ne (by omega)]; exact (g3 j (by omega)).2
theorem m_become (s : SM) (x y : Int32) : EvQ ZR mX12_become [.ref 0, .int x, .int y] s (fun r v => r = none ∧ v.1 23 = x ∧ v.1 24 = y ∧ v.1 29 = 0 ∧ (v.2.1 30 0 = 0 ∧ v.2.1 30 1 = 0 ∧ v.2.1 30 2 = 0) ∧ frM [23, 24, 29] [30] s v) := by
  refine EQ_V vX12_become rfl ?_
  refine RQ_n ZR_ok 7 rfl trivial ?_
  obtain ⟨w, hw⟩ : ∃ w : SM, w = (updS (updS s.1 23 x) 24 y, s.2) := ⟨_, rfl⟩
  have f : frM [23, 24] [] s w := by rw [hw]; exact (frM.i 23 (by decide)).tr (frM.i 24 (by decide))
  have e1 : w.1 23 = x := by rw [hw]; rfl
  have e2 : w.1 24 = y := by rw [hw]; rfl
  show RnQ ZR mX12_become (11, _, _, (updS (updS s.1 23 x) 24 y, s.2)) _
  rw [← hw]
  refine RQ_V vX12_changed (m_changed w) rfl k12_257 rfl rfl rfl rfl (fun _ _ _ => rfl) ?_
  rintro r1 v ⟨rfl, q1, q2, q3⟩
  exact RQ_to (Rn_vret rfl rfl) ⟨rfl, (q3.1 23 (by decide)).trans e1, (q3.1 24 (by decide)).trans e2, q1, q2, (f.up (by decide) (by decide)).tr (q3.up (by decide) (by decide))⟩
/-- after an act of the reference -/
def amQ (s : SM) (r x y : Int32) (a : Nat) (ko kp : Nat → Int32) (z : Option Value) (v : SM) : Prop := z = some (.int r) ∧ v.1 23 = x ∧ v.1 24 = y ∧ v.1 29 = 0 ∧ (v.2.1 30 0 = 0 ∧ v.2.1 30 1 = 0 ∧ v.2.1 30 2 = 0) ∧ HsM a ko kp v ∧ frM [23, 24, 29, 37] [30, 35, 36] s v
theorem HsM.fr {v : SM} {ks as : List Nat} (h : HsM a ko kp s) (f : frM ks as s v) (h1 : 37 ∉ ks) (h2 : 35 ∉ as) (h3 : 36 ∉ as) : HsM a ko kp v := by
  unfold HsM at h ⊢
  rw [f.1 37 h1, f.2.1 35 h2, f.2.1 36 h3]; exact h
theorem m_toggle0 (h : ZGM G s) {x : Int32} (hx : zix x (zgR G) = none) : Ev ZR mX12_toggle [.ref 0, .int x] s (some (.int (-1))) s := by
  have hb : zgR G ≤ 16 := h.1.1.2.1
  refine EQ_ev ?_
  refine EQ_V vX12_toggle rfl ?_
  refine RQ_n ZR_ok 2 rfl trivial ?_
  refine RQ_v vX12_isRule (e_isRule s x) rfl k12_266 rfl rfl rfl rfl rfl ?_
  rw [h.2.1.1, zix_in (by omega), hx]
  refine RQ_b rfl (fun z => absurd rfl z) (fun _ => ?_)
  refine RQ_n ZR_ok 1 rfl trivial ?_
  exact RQ_to (Rn_iret rfl rfl) ⟨rfl, rfl⟩
theorem m_toggle1 (h : ZGM G s) (hH : HsM a ko kp s) {k : Nat} (hk : k < zgR G) : EvQ ZR mX12_toggle [.ref 0, .int (nI k)] s (amQ s (bI (!bt (s.1 23 ^^^ zbi k) k)) (s.1 23 ^^^ zbi k) (s.1 24) (hsNn a) (hmAn a ko (s.1 23)) (hmAn a kp (s.1 24))) := by
  have hb : zgR G ≤ 16 := h.1.1.2.1
  refine EQ_V vX12_toggle rfl ?_
  refine RQ_n ZR_ok 2 rfl trivial ?_
  refine RQ_v vX12_isRule (e_isRule s (nI k)) rfl k12_266 rfl rfl rfl rfl rfl ?_
  rw [h.2.1.1, zix_in (by omega), zix_i (by omega) hk]
  refine RQ_b rfl (fun _ => ?_) (fun z => absurd (show ¬ (1 : Int32) = 0 by decide) z)
  refine RQ_n ZR_ok 1 rfl trivial ?_
  refine RQ_V vX12_putBy (m_putBy hH) rfl k12_346 rfl rfl rfl rfl (fun _ _ _ => rfl) ?_
  rintro r1 v1 ⟨rfl, q1, q2⟩
  refine RQ_n ZR_ok 9 rfl trivial ?_
  rw [q2.1 23 (by decide), q2.1 24 (by decide)]
  refine RQ_V vX12_become (m_become v1 (s.1 23 ^^^ zbi k) (s.1 24)) rfl k12_349 rfl rfl rfl rfl (fun _ _ _ => rfl) ?_
  rintro r2 v2 ⟨rfl, p1, p2, p3, p4, p5⟩
  refine RQ_n ZR_ok 2 rfl trivial ?_
  refine RQ_v vX12_isIn (e_isIn v2 (nI k)) rfl k12_269 rfl rfl rfl rfl rfl ?_
  rw [p1, hasB_bt _ (by omega)]
  have hq : ∀ r, r = bI (!bt (s.1 23 ^^^ zbi k) k) → amQ s (bI (!bt (s.1 23 ^^^ zbi k) k)) (s.1 23 ^^^ zbi k) (s.1 24) (hsNn a) (hmAn a ko (s.1 23)) (hmAn a kp (s.1 24)) (some (.int r)) v2 := fun r hr => ⟨by rw [hr], p1, p2, p3, p4, q1.fr p5 (by decide) (by decide) (by decide), (q2.up (by decide) (by decide)).tr (p5.up (by decide) (by decide))⟩
  cases eb : !bt (s.1 23 ^^^ zbi k) k with
  | true =>
    rw [eb] at hq
    refine RQ_b rfl (fun z => absurd (show (1 : Int32) = 0 from z) (by decide)) (fun _ => ?_)
    refine RQ_n ZR_ok 2 rfl trivial ?_
    exact RQ_to (Rn_iret rfl rfl) (hq _ rfl)
  | false =>
    rw [eb] at hq
    refine RQ_b rfl (fun _ => ?_) (fun z => absurd rfl z)
    refine RQ_n ZR_ok 1 rfl trivial ?_
    exact RQ_to (Rn_iret rfl rfl) (hq _ rfl)
theorem m_prefer0 (h : ZGM G s) {x : Int32} (hx : zix x (zgT G + 1) = none) : Ev ZR mX12_prefer [.ref 0, .int x] s (some (.int (-1))) s := by
  have hb := h.1.1
  refine EQ_ev ?_
  refine EQ_V vX12_prefer rfl ?_
  refine RQ_n ZR_ok 2 rfl trivial ?_
  rw [h.2.1.1]
  refine RQ_b rfl (fun z => ?_) (fun _ => ?_)
  · have := (zq_eq (a := zgR G) (b := 0) rfl rfl (by omega) (by omega)).mp z
    omega
  refine RQ_n ZR_ok 4 rfl trivial ?_
  refine RQ_s vX12_in (e_in s x 0 (s.1 17)) rfl k12_170 rfl rfl rfl rfl ?_
  rw [h.2.1.2.2, zix_in1 (by omega), hx]
  refine RQ_b rfl (fun z => absurd rfl z) (fun _ => ?_)
  refine RQ_n ZR_ok 1 rfl trivial ?_
  exact RQ_to (Rn_iret rfl rfl) ⟨rfl, rfl⟩
theorem m_prefer1 (h : ZGM G s) (hH : HsM a ko kp s) {k : Nat} (hk : k ≤ zgT G) : EvQ ZR mX12_prefer [.ref 0, .int (nI k)] s (amQ s (bI (bt (s.1 24 ^^^ zbi k) k)) (s.1 23) (s.1 24 ^^^ zbi k) (hsNn a) (hmAn a ko (s.1 23)) (hmAn a kp (s.1 24))) := by
  have hb := h.1.1
  refine EQ_V vX12_prefer rfl ?_
  refine RQ_n ZR_ok 2 rfl trivial ?_
  rw [h.2.1.1]
  refine RQ_b rfl (fun z => ?_) (fun _ => ?_)
  · have := (zq_eq (a := zgR G) (b := 0) rfl rfl (by omega) (by omega)).mp z
    omega
  refine RQ_n ZR_ok 4 rfl trivial ?_
  refine RQ_s vX12_in (e_in s (nI k) 0 (s.1 17)) rfl k12_170 rfl rfl rfl rfl ?_
  rw [h.2.1.2.2, zix_in1 (by omega), zix_i (by omega) (show k < zgT G + 1 by omega)]
  refine RQ_b rfl (fun _ => ?_) (fun z => absurd (show ¬ (1 : Int32) = 0 by decide) z)
  refine RQ_n ZR_ok 1 rfl trivial ?_
  refine RQ_V vX12_putBy (m_putBy hH) rfl k12_346 rfl rfl rfl rfl (fun _ _ _ => rfl) ?_
  rintro r1 v1 ⟨rfl, q1, q2⟩
  refine RQ_n ZR_ok 9 rfl trivial ?_
  rw [q2.1 23 (by decide), q2.1 24 (by decide)]
  refine RQ_V vX12_become (m_become v1 (s.1 23) (s.1 24 ^^^ zbi k)) rfl k12_349 rfl rfl rfl rfl (fun _ _ _ => rfl) ?_
  rintro r2 v2 ⟨rfl, p1, p2, p3, p4, p5⟩
  refine RQ_n ZR_ok 6 rfl trivial ?_
  rw [p2, sh_bit _ (by omega)]
  refine RQ_to (Rn_iret rfl rfl) ⟨?_, p1, p2, p3, p4, q1.fr p5 (by decide) (by decide) (by decide), (q2.up (by decide) (by decide)).tr (p5.up (by decide) (by decide))⟩
  cases bt (s.1 24 ^^^ zbi k) k <;> rfl
theorem m_undo0 (hH : s.1 37 = 0) : Ev ZR mX12_undo [.ref 0] s (some (.int (-1))) s := by
  refine EQ_ev ?_
  refine EQ_V vX12_undo rfl ?_
  refine RQ_n ZR_ok 2 rfl trivial ?_
  rw [hH]
  refine RQ_b rfl (fun z => absurd rfl z) (fun _ => ?_)
  refine RQ_n ZR_ok 1 rfl trivial ?_
  exact RQ_to (Rn_iret rfl rfl) ⟨rfl, rfl⟩
theorem m_undo1 (hH : HsM (a + 1) ko kp s) : EvQ ZR mX12_undo [.ref 0] s (amQ s (nI a) (ko a) (kp a) a ko kp) := by
  obtain ⟨h1, h2, h3⟩ := hH
  refine EQ_V vX12_undo rfl ?_
  refine RQ_n ZR_ok 2 rfl trivial ?_
  rw [h1]
  refine RQ_b rfl (fun _ => ?_) (fun z => ?_)
  · refine RQ_n ZR_ok 6 rfl trivial ?_
    obtain ⟨w, hw⟩ : ∃ w : SM, w = (updS s.1 37 (s.1 37 - 1), s.2) := ⟨_, rfl⟩
    have f : frM [37] [] s w := by rw [hw]; exact frM.i 37 (by decide)
    have e1 : w.1 37 = nI a := by
      rw [hw]
      show s.1 37 - 1 = _
      rw [h1]; exact nI_pred a
    show RnQ ZR mX12_undo (19, _, _, (updS s.1 37 (s.1 37 - 1), s.2)) _
    rw [← hw]
    have hin : vp_in (w.1 37) 40 := by rw [e1]; exact nI_in (by omega) (by omega)
    refine RQ_n ZR_ok 11 rfl ⟨hin, hin, trivial⟩ ?_
    rw [e1, nI_clamp (by omega), f.2.1 35 (fun y => by cases y), f.2.1 36 (fun y => by cases y), (h3 a (by omega)).1, (h3 a (by omega)).2]
    refine RQ_V vX12_become (m_become w (ko a) (kp a)) rfl k12_349 rfl rfl rfl rfl (fun _ _ _ => rfl) ?_
    rintro r2 v2 ⟨rfl, p1, p2, p3, p4, p5⟩
    have e2 : v2.1 37 = nI a := (p5.1 37 (by decide)).trans e1
    refine RQ_n ZR_ok 2 rfl trivial ?_
    rw [e2]
    refine RQ_to (Rn_iret rfl rfl) ⟨rfl, p1, p2, p3, p4, ⟨e2, by omega, fun i hi => ?_⟩, (f.up (by decide) (by decide)).tr (p5.up (by decide) (by decide))⟩
    rw [p5.2.1 35 (by decide), p5.2.1 36 (by decide), f.2.1 35 (fun y => by cases y), f.2.1 36 (fun y => by cases y)]
    exact h3 i (by omega)
  · exact absurd (fun y => by have := (zq_eq (a := a + 1) (b := 0) rfl rfl (by omega) (by omega)).mp y; omega) z
theorem m_image (h : ZGM G s) : EvQ ZR mX12_image [.ref 0] s (fun y v => y = some (.int (s.1 15 - bitC (s.1 23))) ∧ v.1 77 = 1 ∧ v.1 75 = s.1 23 ∧ v.1 76 = s.1 24 ∧ frM [75, 76, 77] [] s v) := by
  have hb := h.1.1
  refine EQ_V vX12_image rfl ?_
  refine RQ_n ZR_ok 2 rfl trivial ?_
  rw [h.2.1.1]
  refine RQ_b rfl (fun _ => ?_) (fun z => ?_)
  · refine RQ_n ZR_ok 12 rfl ⟨Or.inr rfl, trivial⟩ ?_
    refine RQ_v vX12_inMany (m_inMany _) rfl k12_576 rfl rfl rfl rfl rfl ?_
    refine RQ_to (Rn_iret rfl rfl) ⟨?_, rfl, rfl, rfl, ((frM.i 75 (by decide)).tr (frM.i 76 (by decide))).tr (frM.i 77 (by decide))⟩
    rw [← h.2.1.1]; rfl
  · exact absurd (fun y => by have := (zq_eq (a := zgR G) (b := 0) rfl rfl (by omega) (by omega)).mp y; omega) z
theorem m_back0 (hH : s.1 77 = 0) : Ev ZR mX12_back [.ref 0] s (some (.int (-1))) s := by
  refine EQ_ev ?_
  refine EQ_V vX12_back rfl ?_
  refine RQ_n ZR_ok 2 rfl trivial ?_
  rw [hH]
  refine RQ_b rfl (fun z => absurd rfl z) (fun _ => ?_)
  refine RQ_n ZR_ok 1 rfl trivial ?_
  exact RQ_to (Rn_iret rfl rfl) ⟨rfl, rfl⟩
theorem m_back1 (hH : s.1 77 = 1) : EvQ ZR mX12_back [.ref 0] s (fun z v => z = some (.int (s.1 15 - bitC (s.1 75))) ∧ v.1 23 = s.1 75 ∧ v.1 24 = s.1 76 ∧ v.1 29 = 0 ∧ (v.2.1 30 0 = 0 ∧ v.2.1 30 1 = 0 ∧ v.2.1 30 2 = 0) ∧ v.1 37 = 0 ∧ frM [23, 24, 29, 37] [30] s v) := by
  refine EQ_V vX12_back rfl ?_
  refine RQ_n ZR_ok 2 rfl trivial ?_
  rw [hH]
  refine RQ_b rfl (fun _ => ?_) (fun z => absurd (show ¬ (1 : Int32) = 0 by decide) z)
  refine RQ_n ZR_ok 5 rfl trivial ?_
  refine RQ_V vX12_become (m_become s (s.1 75) (s.1 76)) rfl k12_349 rfl rfl rfl rfl (fun _ _ _ => rfl) ?_
  rintro r2 v2 ⟨rfl, p1, p2, p3, p4, p5⟩
  refine RQ_n ZR_ok 4 rfl trivial ?_
  refine RQ_v vX12_inMany (m_inMany _) rfl k12_576 rfl rfl rfl rfl rfl ?_
  refine RQ_to (Rn_iret rfl rfl) ⟨?_, p1, p2, p3, p4, rfl, (p5.up (by decide) (by decide)).tr (frM.i 37 (by decide))⟩
  show some (Value.int (v2.1 15 - bitC (v2.1 23))) = _
  rw [p5.1 15 (by decide), p1]
end ActM
theorem RGr_new {G : ZGT} {os : Nat → Option ZAS} {v : SM} (h : ZGM G v) (h1 : v.1 29 = 0) (h2 : v.2.1 30 0 = 0 ∧ v.2.1 30 1 = 0 ∧ v.2.1 30 2 = 0) : RGr G os v := by
  refine ⟨h, Or.inl h1, fun kd hk => Or.inl ?_⟩
  rcases lt3c hk with rfl | rfl | rfl
  · exact h2.1
  · exact h2.2.1
  · exact h2.2.2
