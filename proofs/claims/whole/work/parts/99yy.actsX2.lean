/-! The class: toggle, prefer, undo, image, back. -/
theorem y_isRule {P : YP} {G : ZGT} {u : SX} (h : ZGX G u) (x : Int32) : Ev (ZY P) mX11_isRule [.ref 0, .int x] u (some (.int (bI (zix x (zgR G)).isSome))) u := by
  have hb := h.b
  refine EQ_ev ?_
  refine EQ_V vX11_isRule rfl ?_
  have no : zix x (zgR G) = none → RnQ (ZY P) mX11_isRule (19, [some (.ref 0), some (.int x)], [], u) (fun y v => y = some (.int (bI (zix x (zgR G)).isSome)) ∧ v = u) := by
    intro e
    refine RQ_n (ZY_ok P) 1 rfl trivial ?_
    rw [e]
    exact RQ_to (Rn_zret rfl rfl (Or.inl rfl)) ⟨rfl, rfl⟩
  refine RQ_n (ZY_ok P) 1 rfl trivial ?_
  cases e : zix x (zgR G) with
  | none =>
    rw [e] at no
    refine RQ_b rfl (fun _ => no rfl) (fun z => ?_)
    refine RQ_n (ZY_ok P) 4 rfl trivial ?_
    rw [h.2.1.1]
    exact RQ_b rfl (fun _ => no rfl) (fun y => absurd (zix_ge (by omega) e z) y)
  | some k =>
    obtain ⟨z1, z2⟩ := zix_lt (by omega) e
    refine RQ_b rfl (fun z => absurd z z1) (fun _ => ?_)
    refine RQ_n (ZY_ok P) 4 rfl trivial ?_
    rw [h.2.1.1]
    refine RQ_b rfl (fun z => absurd z z2) (fun _ => ?_)
    refine RQ_n (ZY_ok P) 2 rfl trivial ?_
    exact RQ_to (Rn_zret rfl rfl (Or.inr rfl)) ⟨rfl, rfl⟩
theorem nI16a (k : Nat) : 16 + nI k = nI (16 + k) := by rw [show (16 : Int32) = nI 16 from rfl, nI_add]
section ActX
variable {G : ZGT} {u : SX} {a : Nat} {ac : Nat → Nat}
/-- after rules were changed: the in-word x, the acts -/
def acQ (G : ZGT) (u : SX) (r x : Int32) (a : Nat) (ac : Nat → Nat) (y : Option Value) (v : SX) : Prop := y = some (.int r) ∧ v.1 3 3 = x ∧ ZFX (zwi G x) v ∧ v.1 14 10 = 0 ∧ (v.1 36 3 = 1 ∧ v.1 53 3 = 1 ∧ v.1 70 3 = 1) ∧ (v.1 47 3 = 1 ∧ v.1 64 3 = 1 ∧ v.1 81 3 = 1) ∧ HsX a ac v ∧ frX ((23, 0) :: swKs) [15, 16, 17, 18, 19, 24] u v
/-- after a preference was changed -/
def apQ (u : SX) (r x : Int32) (a : Nat) (ac : Nat → Nat) (y : Option Value) (v : SX) : Prop := y = some (.int r) ∧ v.1 3 4 = x ∧ (v.1 47 3 = 1 ∧ v.1 64 3 = 1 ∧ v.1 81 3 = 1) ∧ HsX a ac v ∧ frX [(3, 4), (47, 3), (64, 3), (81, 3), (23, 0)] [24] u v
theorem HsX.fr {v : SX} {ks : List (Nat × Nat)} {as : List Nat} (h : HsX a ac u) (f : frX ks as u v) (h1 : (23, 0) ∉ ks) (h2 : 24 ∉ as) : HsX a ac v := by
  unfold HsX at h ⊢
  rw [f.1 23 0 h1, f.2.1 24 h2]; exact h
theorem ZGX.fr4 {v : SX} {ks : List (Nat × Nat)} {as : List Nat} (h : ZGX G u) (f : frX ks as u v) (h1 : ∀ j, j < 4 → (3, j) ∉ ks) (h2 : ∀ b, 4 ≤ b → b < 7 → b ∉ as) : ZGX G v := by
  unfold ZGX at h ⊢
  rw [f.1 3 0 (h1 0 (by omega)), f.1 3 1 (h1 1 (by omega)), f.1 3 2 (h1 2 (by omega)), f.1 3 3 (h1 3 (by omega)), f.2.1 4 (h2 4 (by omega) (by omega)), f.2.1 5 (h2 5 (by omega) (by omega)), f.2.1 6 (h2 6 (by omega) (by omega))]
  exact h
theorem y_toggle0 (h : ZGX G u) {x : Int32} (hx : zix x (zgR G) = none) : Ev (ZY YP0) mX11_toggle [.ref 0, .int x] u (some (.int (-1))) u := by
  refine EQ_ev ?_
  refine EQ_V vX11_toggle rfl ?_
  refine RQ_n (ZY_ok YP0) 2 rfl trivial ?_
  refine RQ_v vX11_isRule (y_isRule h x) rfl k11_139 rfl rfl rfl (zy0 _ rfl) rfl ?_
  rw [hx]
  refine RQ_b rfl (fun z => absurd rfl z) (fun _ => ?_)
  refine RQ_n (ZY_ok YP0) 1 rfl trivial ?_
  exact RQ_to (Rn_iret rfl rfl) ⟨rfl, rfl⟩
theorem y_toggle1 (h : ZGX G u) (hH : HsX a ac u) {k : Nat} (hk : k < zgR G) : EvQ (ZY YP0) mX11_toggle [.ref 0, .int (nI k)] u (acQ G u (bI (bt (u.1 3 3 ^^^ zbi k) k)) (u.1 3 3 ^^^ zbi k) (hsNn a) (hsAn a ac k)) := by
  have hb := h.b
  refine EQ_V vX11_toggle rfl ?_
  refine RQ_n (ZY_ok YP0) 2 rfl trivial ?_
  refine RQ_v vX11_isRule (y_isRule h (nI k)) rfl k11_139 rfl rfl rfl (zy0 _ rfl) rfl ?_
  rw [zix_i (by omega) hk]
  refine RQ_b rfl (fun _ => ?_) (fun z => absurd (show ¬ (1 : Int32) = 0 by decide) z)
  refine RQ_n (ZY_ok YP0) 3 rfl trivial ?_
  refine RQ_V vX6_add (y_hadd hH k) rfl k11_213 rfl rfl rfl (zyr (ci := 6) rfl rfl (by omega)) (fun _ s1 q => by show 3 * s1.2.2.2.2.1 + 99 = 3 * u.2.2.2.2.1 + 99; rw [q.2.2.2.2]) ?_
  rintro r1 v1 ⟨rfl, q1, q2⟩
  have h1 := h.fr4 q2 (fun j hj => by simp only [List.mem_cons, List.not_mem_nil, or_false, Prod.mk.injEq]; omega) (fun b _ _ => by simp only [List.mem_cons, List.not_mem_nil, or_false]; omega)
  have e33 := q2.1 3 3 (by decide)
  refine RQ_n (ZY_ok YP0) 2 rfl trivial ?_
  refine RQ_V vX11_flip (y_flipR h1 (k := k) (by omega)) rfl k11_216 rfl rfl rfl (zy0 _ rfl) (fun _ s1 q => by show 3 * s1.2.2.2.2.1 + 99 = 3 * v1.2.2.2.2.1 + 99; rw [q.2.2.2.2.2.2.2.2]) ?_
  rw [e33]
  rintro r2 v2 ⟨rfl, p1, p2, p3, p4, p5, p6⟩
  refine RQ_n (ZY_ok YP0) 3 rfl trivial ?_
  refine RQ_v vX5_isIn (y_isIn p2.1 (r := k) hk) rfl k11_155 rfl rfl rfl (zyr (ci := 5) rfl rfl (by omega)) rfl ?_
  have hq : ∀ r, r = bI (bt (u.1 3 3 ^^^ zbi k) k) → acQ G u (bI (bt (u.1 3 3 ^^^ zbi k) k)) (u.1 3 3 ^^^ zbi k) (hsNn a) (hsAn a ac k) (some (.int r)) v2 := fun r hr => ⟨by rw [hr], p1, p2, p3, p4, p5, q1.fr p6 (by decide) (by decide), (q2.up (by decide) (by decide)).tr (p6.up (by decide) (by decide))⟩
  have ez : zgi (zwi G (u.1 3 3 ^^^ zbi k)) k = bt (u.1 3 3 ^^^ zbi k) k := rfl
  rw [ez]
  cases eb : bt (u.1 3 3 ^^^ zbi k) k with
  | true =>
    rw [eb] at hq
    refine RQ_b rfl (fun z => absurd (show (1 : Int32) = 0 from z) (by decide)) (fun _ => ?_)
    refine RQ_n (ZY_ok YP0) 2 rfl trivial ?_
    exact RQ_to (Rn_iret rfl rfl) (hq _ rfl)
  | false =>
    rw [eb] at hq
    refine RQ_b rfl (fun _ => ?_) (fun z => absurd rfl z)
    refine RQ_n (ZY_ok YP0) 1 rfl trivial ?_
    exact RQ_to (Rn_iret rfl rfl) (hq _ rfl)
theorem y_prefer0 (h : ZGX G u) {x : Int32} (hx : zix x (zgT G + 1) = none) : Ev (ZY YP0) mX11_prefer [.ref 0, .int x] u (some (.int (-1))) u := by
  refine EQ_ev ?_
  refine EQ_V vX11_prefer rfl ?_
  refine RQ_n (ZY_ok YP0) 2 rfl trivial ?_
  refine RQ_v vX11_isEnding (y_isEnding h x) rfl k11_219 rfl rfl rfl (zy0 _ rfl) rfl ?_
  rw [hx]
  refine RQ_b rfl (fun z => absurd rfl z) (fun _ => ?_)
  refine RQ_n (ZY_ok YP0) 1 rfl trivial ?_
  exact RQ_to (Rn_iret rfl rfl) ⟨rfl, rfl⟩
theorem y_prefer1 (h : ZGX G u) (hH : HsX a ac u) {k : Nat} (hk : k ≤ zgT G) : EvQ (ZY YP0) mX11_prefer [.ref 0, .int (nI k)] u (apQ u (bI (bt (u.1 3 4 ^^^ zbi k) k)) (u.1 3 4 ^^^ zbi k) (hsNn a) (hsAn a ac (16 + k))) := by
  have hb := h.b
  refine EQ_V vX11_prefer rfl ?_
  refine RQ_n (ZY_ok YP0) 2 rfl trivial ?_
  refine RQ_v vX11_isEnding (y_isEnding h (nI k)) rfl k11_219 rfl rfl rfl (zy0 _ rfl) rfl ?_
  rw [zix_i (by omega) (show k < zgT G + 1 by omega)]
  refine RQ_b rfl (fun _ => ?_) (fun z => absurd (show ¬ (1 : Int32) = 0 by decide) z)
  refine RQ_n (ZY_ok YP0) 5 rfl trivial ?_
  rw [nI16a]
  refine RQ_V vX6_add (y_hadd hH (16 + k)) rfl k11_213 rfl rfl rfl (zyr (ci := 6) rfl rfl (by omega)) (fun _ s1 q => by show 3 * s1.2.2.2.2.1 + 99 = 3 * u.2.2.2.2.1 + 99; rw [q.2.2.2.2]) ?_
  rintro r1 v1 ⟨rfl, q1, q2⟩
  have e34 := q2.1 3 4 (by decide)
  refine RQ_n (ZY_ok YP0) 4 rfl trivial ?_
  rw [nI16a]
  refine RQ_V vX11_flip (y_flipP (u := v1) (k := k) (by omega)) rfl k11_216 rfl rfl rfl (zy0 _ rfl) (fun _ s1 q => by show 3 * s1.2.2.2.2.1 + 99 = 3 * v1.2.2.2.2.1 + 99; rw [q.2.2.2.2.2]) ?_
  rw [e34]
  rintro r2 v2 ⟨rfl, p1, p2, p3⟩
  refine RQ_n (ZY_ok YP0) 3 rfl trivial ?_
  refine RQ_v vX5_doesPrefer (y_doesPrefer v2 (t := k) (by omega)) rfl k11_222 rfl rfl rfl (zyr (ci := 5) rfl rfl (by omega)) rfl ?_
  rw [p1]
  have hq : ∀ r, r = bI (bt (u.1 3 4 ^^^ zbi k) k) → apQ u (bI (bt (u.1 3 4 ^^^ zbi k) k)) (u.1 3 4 ^^^ zbi k) (hsNn a) (hsAn a ac (16 + k)) (some (.int r)) v2 := fun r hr => ⟨by rw [hr], p1, p2, q1.fr p3 (by decide) (by decide), (q2.up (by decide) (by decide)).tr (p3.up (by decide) (by decide))⟩
  cases eb : bt (u.1 3 4 ^^^ zbi k) k with
  | true =>
    rw [eb] at hq
    refine RQ_b rfl (fun z => absurd (show (1 : Int32) = 0 from z) (by decide)) (fun _ => ?_)
    refine RQ_n (ZY_ok YP0) 2 rfl trivial ?_
    exact RQ_to (Rn_iret rfl rfl) (hq _ rfl)
  | false =>
    rw [eb] at hq
    refine RQ_b rfl (fun _ => ?_) (fun z => absurd rfl z)
    refine RQ_n (ZY_ok YP0) 1 rfl trivial ?_
    exact RQ_to (Rn_iret rfl rfl) (hq _ rfl)
theorem y_undo0 (hH : u.1 23 0 = 0) : Ev (ZY YP0) mX11_undo [.ref 0] u (some (.int (-1))) u := by
  refine EQ_ev ?_
  refine EQ_V vX11_undo rfl ?_
  refine RQ_n (ZY_ok YP0) 3 rfl trivial ?_
  rw [hH]
  refine RQ_b rfl (fun z => absurd rfl z) (fun _ => ?_)
  refine RQ_n (ZY_ok YP0) 1 rfl trivial ?_
  exact RQ_to (Rn_iret rfl rfl) ⟨rfl, rfl⟩
theorem y_undoR (h : ZGX G u) (hH : HsX (a + 1) ac u) (hk : ac a < 16) : EvQ (ZY YP0) mX11_undo [.ref 0] u (acQ G u (nI a) (u.1 3 3 ^^^ zbi (ac a)) a ac) := by
  have h40 := hH.2.1
  refine EQ_V vX11_undo rfl ?_
  refine RQ_n (ZY_ok YP0) 3 rfl trivial ?_
  rw [hH.1]
  refine RQ_b rfl (fun _ => ?_) (fun z => ?_)
  · refine RQ_n (ZY_ok YP0) 3 rfl trivial ?_
    refine RQ_V vX6_take (y_htake hH) rfl k11_231 rfl rfl rfl (zyr (ci := 6) rfl rfl (by omega)) (fun _ s1 q => by show 3 * s1.2.2.2.2.1 + 99 = 3 * u.2.2.2.2.1 + 99; rw [q.2.2.2.2]) ?_
    rintro r1 v1 ⟨rfl, q1, q2⟩
    have h1 := h.fr4 q2 (fun j hj => by simp only [List.mem_cons, List.not_mem_nil, or_false, Prod.mk.injEq]; omega) (fun b _ _ y => by cases y)
    have e33 := q2.1 3 3 (by decide)
    refine RQ_V vX11_flip (y_flipR h1 hk) rfl k11_216 rfl rfl rfl (zy0 _ rfl) (fun _ s1 q => by show 3 * s1.2.2.2.2.1 + 99 = 3 * v1.2.2.2.2.1 + 99; rw [q.2.2.2.2.2.2.2.2]) ?_
    rw [e33]
    rintro r2 v2 ⟨rfl, p1, p2, p3, p4, p5, p6⟩
    have q3 := q1.fr p6 (by decide) (by decide)
    refine RQ_n (ZY_ok YP0) 3 rfl trivial ?_
    rw [q3.1]
    exact RQ_to (Rn_iret rfl rfl) ⟨rfl, p1, p2, p3, p4, p5, q3, (q2.up (by decide) (by decide)).tr (p6.up (by decide) (by decide))⟩
  · exact absurd (fun y => by have := (zq_eq (a := a + 1) (b := 0) rfl rfl (by omega) (by omega)).mp y; omega) z
theorem y_undoP (hH : HsX (a + 1) ac u) {k : Nat} (hk : k < 16) (he : ac a = 16 + k) : EvQ (ZY YP0) mX11_undo [.ref 0] u (apQ u (nI a) (u.1 3 4 ^^^ zbi k) a ac) := by
  have h40 := hH.2.1
  refine EQ_V vX11_undo rfl ?_
  refine RQ_n (ZY_ok YP0) 3 rfl trivial ?_
  rw [hH.1]
  refine RQ_b rfl (fun _ => ?_) (fun z => ?_)
  · refine RQ_n (ZY_ok YP0) 3 rfl trivial ?_
    refine RQ_V vX6_take (y_htake hH) rfl k11_231 rfl rfl rfl (zyr (ci := 6) rfl rfl (by omega)) (fun _ s1 q => by show 3 * s1.2.2.2.2.1 + 99 = 3 * u.2.2.2.2.1 + 99; rw [q.2.2.2.2]) ?_
    rw [he]
    rintro r1 v1 ⟨rfl, q1, q2⟩
    have e34 := q2.1 3 4 (by decide)
    refine RQ_V vX11_flip (y_flipP (u := v1) hk) rfl k11_216 rfl rfl rfl (zy0 _ rfl) (fun _ s1 q => by show 3 * s1.2.2.2.2.1 + 99 = 3 * v1.2.2.2.2.1 + 99; rw [q.2.2.2.2.2]) ?_
    rw [e34]
    rintro r2 v2 ⟨rfl, p1, p2, p3⟩
    have q3 := q1.fr p3 (by decide) (by decide)
    refine RQ_n (ZY_ok YP0) 3 rfl trivial ?_
    rw [q3.1]
    exact RQ_to (Rn_iret rfl rfl) ⟨rfl, p1, p2, q3, (q2.up (by decide) (by decide)).tr (p3.up (by decide) (by decide))⟩
  · exact absurd (fun y => by have := (zq_eq (a := a + 1) (b := 0) rfl rfl (by omega) (by omega)).mp y; omega) z
theorem y_image (h : ZGX G u) : EvQ (ZY YP0) mX11_image [.ref 0] u (fun y v => y = some (.int (bitC (u.1 3 3))) ∧ v.1 23 1 = 1 ∧ v.1 23 2 = u.1 3 3 ∧ v.1 23 3 = u.1 3 4 ∧ frX [(23, 1), (23, 2), (23, 3)] [] u v) := by
  have hb := h.b
  refine EQ_V vX11_image rfl ?_
  refine RQ_n (ZY_ok YP0) 3 rfl trivial ?_
  rw [h.2.1.1]
  refine RQ_b rfl (fun _ => ?_) (fun z => ?_)
  · refine RQ_n (ZY_ok YP0) 19 rfl ⟨Or.inr rfl, trivial⟩ ?_
    refine RQ_s vJ6_bitCount_0f7a4 (e_bitCount (ZY_ok YP0) _ _) rfl k11_295 rfl rfl rfl rfl ?_
    exact RQ_to (Rn_iret rfl rfl) ⟨rfl, rfl, rfl, rfl, ((frX.i 23 1 (by decide)).tr (frX.i 23 2 (by decide))).tr (frX.i 23 3 (by decide))⟩
  · exact absurd (fun y => by have := (zq_eq (a := zgR G) (b := 0) rfl rfl (by omega) (by omega)).mp y; omega) z
theorem y_back0 (hH : u.1 23 1 = 0) : Ev (ZY YP0) mX11_back [.ref 0] u (some (.int (-1))) u := by
  refine EQ_ev ?_
  refine EQ_V vX11_back rfl ?_
  refine RQ_n (ZY_ok YP0) 3 rfl trivial ?_
  rw [hH]
  refine RQ_b rfl (fun z => absurd rfl z) (fun _ => ?_)
  refine RQ_n (ZY_ok YP0) 1 rfl trivial ?_
  exact RQ_to (Rn_iret rfl rfl) ⟨rfl, rfl⟩
theorem y_back1 (h : ZGX G u) (hH : u.1 23 1 = 1) : EvQ (ZY YP0) mX11_back [.ref 0] u (fun y v => y = some (.int (bitC (u.1 23 2))) ∧ v.1 3 3 = u.1 23 2 ∧ v.1 3 4 = u.1 23 3 ∧ v.1 23 0 = 0 ∧ ZFX (zwi G (u.1 23 2)) v ∧ v.1 14 10 = 0 ∧ (v.1 36 3 = 1 ∧ v.1 53 3 = 1 ∧ v.1 70 3 = 1) ∧ (v.1 47 3 = 1 ∧ v.1 64 3 = 1 ∧ v.1 81 3 = 1) ∧ frX ((3, 4) :: (23, 0) :: swKs) [15, 16, 17, 18, 19] u v) := by
  refine EQ_V vX11_back rfl ?_
  refine RQ_n (ZY_ok YP0) 3 rfl trivial ?_
  rw [hH]
  refine RQ_b rfl (fun _ => ?_) (fun z => absurd (show ¬ (1 : Int32) = 0 by decide) z)
  refine RQ_n (ZY_ok YP0) 17 rfl trivial ?_
  obtain ⟨w, hw⟩ : ∃ w : SX, w = (updI (updI (updI u.1 3 3 (u.1 23 2)) 3 4 (u.1 23 3)) 23 0 0, u.2) := ⟨_, rfl⟩
  have f : frX [(3, 3), (3, 4), (23, 0)] [] u w := by
    rw [hw]
    exact ((frX.i 3 3 (by decide)).tr (frX.i 3 4 (by decide))).tr (frX.i 23 0 (by decide))
  have e1 : w.1 3 3 = u.1 23 2 := by rw [hw]; rfl
  have e2 : w.1 3 4 = u.1 23 3 := by rw [hw]; rfl
  have e3 : w.1 23 0 = 0 := by rw [hw]; rfl
  show RnQ (ZY YP0) mX11_back (49, _, _, (updI (updI (updI u.1 3 3 (u.1 23 2)) 3 4 (u.1 23 3)) 23 0 0, u.2)) _
  rw [← hw]
  have hG : ZGX (zwi G (u.1 23 2)) w := h.wi e1 (fun j hj => f.1 3 j (fun y => by simp only [List.mem_cons, List.not_mem_nil, or_false, Prod.mk.injEq] at y; omega)) (fun a _ _ => f.2.1 a (fun y => by cases y))
  refine RQ_V vX11_rulesChanged (y_rulesChanged hG) rfl k11_122 rfl rfl rfl (zy0 _ rfl) (fun _ s1 q => by show 3 * s1.2.2.2.2.1 + 99 = 3 * w.2.2.2.2.1 + 99; rw [q.2.2.2.2.2.2.2]) ?_
  rintro r1 v ⟨rfl, q1, q2, q3, q4, q5⟩
  refine RQ_n (ZY_ok YP0) 3 rfl trivial ?_
  refine RQ_s vJ6_bitCount_0f7a4 (e_bitCount (ZY_ok YP0) _ _) rfl k11_295 rfl rfl rfl rfl ?_
  have e4 : v.1 3 3 = u.1 23 2 := (q5.1 3 3 (by decide)).trans e1
  rw [e4]
  refine RQ_to (Rn_iret rfl rfl) ⟨rfl, e4, ?_, ?_, q1, q2, q3, q4, (f.up (by decide) (by decide)).tr (q5.up (by decide) (by decide))⟩
  · rw [q5.1 3 4 (by decide)]; exact e2
  · rw [q5.1 23 0 (by decide)]; exact e3
end ActX
