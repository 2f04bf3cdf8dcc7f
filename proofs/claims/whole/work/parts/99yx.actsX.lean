/-! The class: acts, done and undone; the image. -/
def zwi (G : ZGT) (x : Int32) : ZGT := (G.1, G.2.1, G.2.2.1, G.2.2.2.1, G.2.2.2.2.1, G.2.2.2.2.2.1, fun r => bt x r)
def zbi (k : Nat) : Int32 := (1 : Int32) <<< (nI k &&& 31)
/-- acts kept, of the class -/
def HsX (a : Nat) (ac : Nat → Nat) (u : SX) : Prop := u.1 23 0 = nI a ∧ a ≤ 40 ∧ ∀ i, i < a → u.2.1 24 i = nI (ac i)
/-- one act more -/
def hsAn (a : Nat) (ac : Nat → Nat) (k : Nat) : Nat → Nat := fun i => if a = 40 then (if i = 39 then k else ac (i + 1)) else if i = a then k else ac i
def hsNn (a : Nat) : Nat := if a = 40 then 40 else a + 1
def swKs : List (Nat × Nat) := [(14, 1), (14, 2), (14, 3), (14, 10), (36, 3), (53, 3), (70, 3), (47, 3), (64, 3), (81, 3), (3, 3)]
theorem ZGX.wi {G : ZGT} {u u' : SX} (h : ZGX G u) {x : Int32} (hx : u'.1 3 3 = x) (h1 : ∀ j, j < 3 → u'.1 3 j = u.1 3 j) (h2 : ∀ a, 4 ≤ a → a < 7 → u'.2.1 a = u.2.1 a) : ZGX (zwi G x) u' := by
  obtain ⟨g1, g2, g3, g4⟩ := h
  refine ⟨g1, ?_, fun r hr => ⟨?_, by rw [hx]; rfl⟩, fun r hr => ?_⟩
  · rw [h1 0 (by omega), h1 1 (by omega), h1 2 (by omega)]; exact g2
  · rw [h2 4 (by omega) (by omega)]; exact (g3 r hr).1
  · rw [h2 5 (by omega) (by omega), h2 6 (by omega) (by omega)]; exact g4 r hr
theorem y_hadd {P : YP} {u : SX} {a : Nat} {ac : Nat → Nat} (h : HsX a ac u) (k : Nat) : EvQ (ZY P) mX6_add [.ref 23, .int (nI k)] u (fun x v => x = none ∧ HsX (hsNn a) (hsAn a ac k) v ∧ frX [(23, 0)] [24] u v) := by
  obtain ⟨h1, h2, h3⟩ := h
  refine EQ_V vX6_add rfl ?_
  have fin : ∀ (v : SX) (b : Nat), b < 40 → v.1 23 0 = nI b → hsNn a = b + 1 → (∀ i, i < b → v.2.1 24 i = nI (hsAn a ac k i)) → hsAn a ac k b = k → frX [(23, 0)] [24] u v → RnQ (ZY P) mX6_add (34, [some (.ref 23), some (.int (nI k))], [], v) (fun x v => x = none ∧ HsX (hsNn a) (hsAn a ac k) v ∧ frX [(23, 0)] [24] u v) := by
    intro v b hb e1 e2 e3 e4 f
    have hin : vp_in (v.1 23 0) 40 := by rw [e1]; exact nI_in (by omega) (by omega)
    refine RQ_n (ZY_ok P) 12 rfl ⟨hin, trivial⟩ ?_
    refine RQ_to (Rn_vret rfl rfl) ⟨rfl, ⟨?_, by omega, fun i hi => ?_⟩, ?_⟩
    · show v.1 23 0 + 1 = _
      rw [e1, e2, show (1 : Int32) = nI 1 from rfl, nI_add]
    · show updA v.2.1 24 (v.1 23 0).toNatClampNeg (nI k) 24 i = _
      rw [e1, nI_clamp (by omega)]
      by_cases hib : i = b
      · subst hib
        rw [e4]
        exact upd_at
      · exact (upd_ne hib).trans (e3 i (by omega))
    · exact (f.tr (frX.a 24 (by decide))).tr (frX.i 23 0 (by decide))
  refine RQ_n (ZY_ok P) 3 rfl trivial ?_
  rw [h1]
  refine RQ_b rfl (fun z => ?_) (fun z => ?_)
  · have z : ¬ nI a = (40 : Int32) := z
    have hne : a ≠ 40 := fun y => z (by rw [y]; rfl)
    refine fin u a (by omega) h1 ?_ (fun i hi => ?_) ?_ frX.rf
    · unfold hsNn; rw [if_neg hne]
    · unfold hsAn; rw [if_neg hne, if_neg (by omega)]; exact h3 i hi
    · unfold hsAn; rw [if_neg hne, if_pos rfl]
  · have z : ¬ ¬ nI a = (40 : Int32) := z
    have ha : a = 40 := (zq_eq (a := a) (b := 40) rfl rfl (by omega) (by omega)).mp (Classical.byContradiction z)
    subst ha
    refine RQ_n (ZY_ok P) 7 rfl trivial ?_
    refine RQ_copy (s' := (u.1, setA u.2.1 24 (va_cpy (u.2.1 24) (u.2.1 24) 1 0 39), u.2.2)) (i := 1) (j := 0) (n := 39) (n0 := 40) (n1 := 40) (f := u.2.1 24) (g := u.2.1 24) rfl k6_23 rfl rfl rfl rfl rfl rfl (by show 24 < 3 * u.2.2.2.2.1 + 99; omega) (by show 24 < 3 * u.2.2.2.2.1 + 99; omega) (by omega) (by omega) ⟨by omega, by omega⟩ (y_cps rfl) ?_
    refine RQ_n (ZY_ok P) 6 rfl trivial ?_
    refine fin _ 39 (by omega) ?_ rfl (fun i hi => ?_) rfl ?_
    · show u.1 23 0 - 1 = _
      rw [h1]; rfl
    · show setA u.2.1 24 (va_cpy (u.2.1 24) (u.2.1 24) 1 0 39) 24 i = _
      rw [setA_at]
      show (if 0 ≤ i ∧ i < 0 + 39 then u.2.1 24 (1 + (i - 0)) else u.2.1 24 i) = nI (hsAn 40 ac k i)
      rw [if_pos ⟨by omega, by omega⟩, show 1 + (i - 0) = i + 1 by omega, h3 (i + 1) (by omega)]
      unfold hsAn
      rw [if_pos rfl, if_neg (by omega)]
    · exact (frX.s 24 (by decide)).tr (frX.i 23 0 (by decide))
theorem y_htake {P : YP} {u : SX} {a : Nat} {ac : Nat → Nat} (h : HsX (a + 1) ac u) : EvQ (ZY P) mX6_take [.ref 23] u (fun x v => x = some (.int (nI (ac a))) ∧ HsX a ac v ∧ frX [(23, 0)] [] u v) := by
  obtain ⟨h1, h2, h3⟩ := h
  refine EQ_V vX6_take rfl ?_
  refine RQ_n (ZY_ok P) 2 rfl trivial ?_
  rw [h1]
  refine RQ_b rfl (fun z => ?_) (fun _ => ?_)
  · have := (zq_le (a := a + 1) (b := 0) rfl rfl (by omega) (by omega)).mp z
    omega
  refine RQ_n (ZY_ok P) 6 rfl trivial ?_
  obtain ⟨w, hw⟩ : ∃ w : SX, w = (updI u.1 23 0 (u.1 23 0 - 1), u.2) := ⟨_, rfl⟩
  have f : frX [(23, 0)] [] u w := by rw [hw]; exact frX.i 23 0 (by decide)
  have e1 : w.1 23 0 = nI a := by
    rw [hw]
    show u.1 23 0 - 1 = _
    rw [h1]; exact nI_pred a
  show RnQ (ZY P) mX6_take (17, _, _, (updI u.1 23 0 (u.1 23 0 - 1), u.2)) _
  rw [← hw]
  have hin : vp_in (w.1 23 0) 40 := by rw [e1]; exact nI_in (by omega) (by omega)
  refine RQ_n (ZY_ok P) 5 rfl ⟨hin, trivial⟩ ?_
  rw [e1, nI_clamp (by omega)]
  refine RQ_to (Rn_iret rfl rfl) ⟨?_, ⟨e1, by omega, fun i hi => ?_⟩, f⟩
  · rw [f.2.1 24 (fun y => by cases y), h3 a (by omega)]
  · rw [f.2.1 24 (fun y => by cases y)]; exact h3 i (by omega)
theorem y_flipR {G : ZGT} {u : SX} (h : ZGX G u) {k : Nat} (hk : k < 16) : EvQ (ZY YP0) mX11_flip [.ref 0, .int (nI k)] u (fun x v => x = none ∧ v.1 3 3 = u.1 3 3 ^^^ zbi k ∧ ZFX (zwi G (u.1 3 3 ^^^ zbi k)) v ∧ v.1 14 10 = 0 ∧ (v.1 36 3 = 1 ∧ v.1 53 3 = 1 ∧ v.1 70 3 = 1) ∧ (v.1 47 3 = 1 ∧ v.1 64 3 = 1 ∧ v.1 81 3 = 1) ∧ frX swKs [15, 16, 17, 18, 19] u v) := by
  refine EQ_V vX11_flip rfl ?_
  refine RQ_n (ZY_ok YP0) 2 rfl trivial ?_
  refine RQ_b rfl (fun z => ?_) (fun _ => ?_)
  · have := (zq_le (a := 16) (b := k) rfl rfl (by omega) (by omega)).mp z
    omega
  refine RQ_n (ZY_ok YP0) 10 rfl trivial ?_
  obtain ⟨w, hw⟩ : ∃ w : SX, w = (updI u.1 3 3 (u.1 3 3 ^^^ zbi k), u.2) := ⟨_, rfl⟩
  have f : frX [(3, 3)] [] u w := by rw [hw]; exact frX.i 3 3 (by decide)
  have e1 : w.1 3 3 = u.1 3 3 ^^^ zbi k := by rw [hw]; rfl
  show RnQ (ZY YP0) mX11_flip (22, _, _, (updI u.1 3 3 (u.1 3 3 ^^^ zbi k), u.2)) _
  rw [← hw]
  have hG : ZGX (zwi G (u.1 3 3 ^^^ zbi k)) w := h.wi e1 (fun j hj => f.1 3 j (fun y => by simp only [List.mem_cons, List.not_mem_nil, or_false, Prod.mk.injEq] at y; omega)) (fun a _ _ => f.2.1 a (fun y => by cases y))
  refine RQ_V vX11_rulesChanged (y_rulesChanged hG) rfl k11_122 rfl rfl rfl (zy0 _ rfl) (fun _ s1 q => by show 3 * s1.2.2.2.2.1 + 99 = 3 * w.2.2.2.2.1 + 99; rw [q.2.2.2.2.2.2.2]) ?_
  rintro r1 v ⟨rfl, q1, q2, q3, q4, q5⟩
  refine RQ_n (ZY_ok YP0) 1 rfl trivial ?_
  refine RQ_to (Rn_vret rfl rfl) ⟨rfl, ?_, q1, q2, q3, q4, ?_⟩
  · rw [q5.1 3 3 (by decide)]; exact e1
  · exact (f.up (by decide) (by decide)).tr (q5.up (by decide) (by decide))
theorem y_flipP {u : SX} {k : Nat} (hk : k < 16) : EvQ (ZY YP0) mX11_flip [.ref 0, .int (nI (16 + k))] u (fun x v => x = none ∧ v.1 3 4 = u.1 3 4 ^^^ zbi k ∧ (v.1 47 3 = 1 ∧ v.1 64 3 = 1 ∧ v.1 81 3 = 1) ∧ frX [(3, 4), (47, 3), (64, 3), (81, 3)] [] u v) := by
  refine EQ_V vX11_flip rfl ?_
  refine RQ_n (ZY_ok YP0) 2 rfl trivial ?_
  refine RQ_b rfl (fun _ => ?_) (fun z => absurd ((zq_le (a := 16) (b := 16 + k) rfl rfl (by omega) (by omega)).mpr (by omega)) z)
  refine RQ_n (ZY_ok YP0) 12 rfl trivial ?_
  have ek : nI (16 + k) - 16 = nI k := by
    rw [show (16 : Int32) = nI 16 from rfl, nI_sub (by omega), show 16 + k - 16 = k by omega]
  rw [ek]
  obtain ⟨w, hw⟩ : ∃ w : SX, w = (updI u.1 3 4 (u.1 3 4 ^^^ zbi k), u.2) := ⟨_, rfl⟩
  have f : frX [(3, 4)] [] u w := by rw [hw]; exact frX.i 3 4 (by decide)
  have e1 : w.1 3 4 = u.1 3 4 ^^^ zbi k := by rw [hw]; rfl
  show RnQ (ZY YP0) mX11_flip (47, _, _, (updI u.1 3 4 (u.1 3 4 ^^^ zbi k), u.2)) _
  rw [← hw]
  refine RQ_V vX11_prefersChanged (y_prefersChanged w) rfl k11_240 rfl rfl rfl (zy0 _ rfl) (fun _ s1 q => by show 3 * s1.2.2.2.2.1 + 99 = 3 * w.2.2.2.2.1 + 99; rw [q.2.2.2.2]) ?_
  rintro r1 v ⟨rfl, q1, q2⟩
  refine RQ_to (Rn_vret rfl rfl) ⟨rfl, ?_, q1, ?_⟩
  · rw [q2.1 3 4 (by decide)]; exact e1
  · exact (f.up (by decide) (by decide)).tr (q2.up (by decide) (by decide))
