/-! The class: what is stale; flip. -/
theorem y_prefersChanged (u : SX) : EvQ (ZY YP0) mX11_prefersChanged [.ref 0] u (fun x v => x = none ∧ (v.1 47 3 = 1 ∧ v.1 64 3 = 1 ∧ v.1 81 3 = 1) ∧ frX [(47, 3), (64, 3), (81, 3)] [] u v) := by
  refine EQ_V vX11_prefersChanged rfl ?_
  refine RQ_n (ZY_ok YP0) 4 rfl trivial ?_
  refine RQ_b rfl (fun z => absurd (show (3 : Int32) ≤ (0 : Int32) from z) (by decide)) (fun _ => ?_)
  refine RQ_n (ZY_ok YP0) 4 rfl ⟨show vp_in (nI 0) 3 from nI_in (by omega) (by omega), trivial⟩ ?_
  refine RQ_n (ZY_ok YP0) 4 rfl ⟨Or.inr rfl, trivial⟩ ?_
  refine RQ_n (ZY_ok YP0) 2 rfl trivial ?_
  refine RQ_b rfl (fun z => absurd (show (3 : Int32) ≤ (0 + 1 : Int32) from z) (by decide)) (fun _ => ?_)
  refine RQ_n (ZY_ok YP0) 4 rfl ⟨show vp_in (nI 1) 3 from nI_in (by omega) (by omega), trivial⟩ ?_
  refine RQ_n (ZY_ok YP0) 4 rfl ⟨Or.inr rfl, trivial⟩ ?_
  refine RQ_n (ZY_ok YP0) 2 rfl trivial ?_
  refine RQ_b rfl (fun z => absurd (show (3 : Int32) ≤ (0 + 1 + 1 : Int32) from z) (by decide)) (fun _ => ?_)
  refine RQ_n (ZY_ok YP0) 4 rfl ⟨show vp_in (nI 2) 3 from nI_in (by omega) (by omega), trivial⟩ ?_
  refine RQ_n (ZY_ok YP0) 4 rfl ⟨Or.inr rfl, trivial⟩ ?_
  refine RQ_n (ZY_ok YP0) 2 rfl trivial ?_
  refine RQ_b rfl (fun _ => ?_) (fun z => absurd (show (3 : Int32) ≤ 0 + 1 + 1 + 1 by decide) z)
  refine RQ_to (Rn_vret rfl rfl) ⟨rfl, ⟨rfl, rfl, rfl⟩, ?_⟩
  exact ((frX.i 47 3 (by decide)).tr (frX.i 64 3 (by decide))).tr (frX.i 81 3 (by decide))
theorem y_rulesChanged {G : ZGT} {u : SX} (h : ZGX G u) : EvQ (ZY YP0) mX11_rulesChanged [.ref 0] u (fun x v => x = none ∧ ZFX G v ∧ v.1 14 10 = 0 ∧ (v.1 36 3 = 1 ∧ v.1 53 3 = 1 ∧ v.1 70 3 = 1) ∧ (v.1 47 3 = 1 ∧ v.1 64 3 = 1 ∧ v.1 81 3 = 1) ∧ frX [(14, 1), (14, 2), (14, 3), (14, 10), (36, 3), (53, 3), (70, 3), (47, 3), (64, 3), (81, 3)] [15, 16, 17, 18, 19] u v) := by
  refine EQ_V vX11_rulesChanged rfl ?_
  refine RQ_n (ZY_ok YP0) 2 rfl trivial ?_
  refine RQ_V vX4_find (y_find h) rfl k11_243 rfl rfl rfl (zyr (ci := 4) rfl rfl (by omega)) (fun _ s1 q => by show 3 * s1.2.2.2.2.1 + 99 = 3 * u.2.2.2.2.1 + 99; rw [q.2.2.2.2.2]) ?_
  rintro r1 v1 ⟨rfl, q1, q2, q3⟩
  refine RQ_n (ZY_ok YP0) 4 rfl trivial ?_
  refine RQ_b rfl (fun z => absurd (show (3 : Int32) ≤ (0 : Int32) from z) (by decide)) (fun _ => ?_)
  refine RQ_n (ZY_ok YP0) 4 rfl ⟨show vp_in (nI 0) 3 from nI_in (by omega) (by omega), trivial⟩ ?_
  refine RQ_n (ZY_ok YP0) 4 rfl ⟨Or.inr rfl, trivial⟩ ?_
  refine RQ_n (ZY_ok YP0) 2 rfl trivial ?_
  refine RQ_b rfl (fun z => absurd (show (3 : Int32) ≤ (0 + 1 : Int32) from z) (by decide)) (fun _ => ?_)
  refine RQ_n (ZY_ok YP0) 4 rfl ⟨show vp_in (nI 1) 3 from nI_in (by omega) (by omega), trivial⟩ ?_
  refine RQ_n (ZY_ok YP0) 4 rfl ⟨Or.inr rfl, trivial⟩ ?_
  refine RQ_n (ZY_ok YP0) 2 rfl trivial ?_
  refine RQ_b rfl (fun z => absurd (show (3 : Int32) ≤ (0 + 1 + 1 : Int32) from z) (by decide)) (fun _ => ?_)
  refine RQ_n (ZY_ok YP0) 4 rfl ⟨show vp_in (nI 2) 3 from nI_in (by omega) (by omega), trivial⟩ ?_
  refine RQ_n (ZY_ok YP0) 4 rfl ⟨Or.inr rfl, trivial⟩ ?_
  refine RQ_n (ZY_ok YP0) 2 rfl trivial ?_
  refine RQ_b rfl (fun _ => ?_) (fun z => absurd (show (3 : Int32) ≤ 0 + 1 + 1 + 1 by decide) z)
  refine RQ_n (ZY_ok YP0) 1 rfl trivial ?_
  obtain ⟨v2, hv2⟩ : ∃ w : SX, w = (updI (updI (updI v1.1 36 3 1) 53 3 1) 70 3 1, v1.2) := ⟨_, rfl⟩
  have f2 : frX [(36, 3), (53, 3), (70, 3)] [] v1 v2 := by
    rw [hv2]
    exact ((frX.i 36 3 (by decide)).tr (frX.i 53 3 (by decide))).tr (frX.i 70 3 (by decide))
  have e2 : v2.1 36 3 = 1 ∧ v2.1 53 3 = 1 ∧ v2.1 70 3 = 1 := by rw [hv2]; exact ⟨rfl, rfl, rfl⟩
  show RnQ (ZY YP0) mX11_rulesChanged (31, _, _, (updI (updI (updI v1.1 36 3 1) 53 3 1) 70 3 1, v1.2)) _
  rw [← hv2]
  refine RQ_V vX11_prefersChanged (y_prefersChanged v2) rfl k11_240 rfl rfl rfl (zy0 _ rfl) (fun _ s1 q => by show 3 * s1.2.2.2.2.1 + 99 = 3 * v2.2.2.2.2.1 + 99; rw [q.2.2.2.2]) ?_
  rintro r2 v3 ⟨rfl, p1, p2⟩
  have z3 : ZFX G v3 := (q1.k (v := v2) (fun b j hb => f2.1 b j (fun y => by simp only [List.mem_cons, List.not_mem_nil, or_false, Prod.mk.injEq] at y; omega)) (fun b hb => f2.2.1 b (fun y => by cases y))).k (fun b j hb => p2.1 b j (fun y => by simp only [List.mem_cons, List.not_mem_nil, or_false, Prod.mk.injEq] at y; omega)) (fun b hb => p2.2.1 b (fun y => by cases y))
  refine RQ_to (Rn_vret rfl rfl) ⟨rfl, z3, ?_, ⟨?_, ?_, ?_⟩, p1, ?_⟩
  · rw [p2.1 14 10 (by decide), f2.1 14 10 (by decide)]; exact q2
  · rw [p2.1 36 3 (by decide)]; exact e2.1
  · rw [p2.1 53 3 (by decide)]; exact e2.2.1
  · rw [p2.1 70 3 (by decide)]; exact e2.2.2
  · exact ((q3.up (by decide) (by decide)).tr (f2.up (by decide) (by decide))).tr (p2.up (by decide) (by decide))
/-- the cells' structure of all kinds -/
def XB (u : SX) : Prop := ∀ d, d < 3 → XI (YPd d) (swX d u)
theorem X3.b {G : ZGT} {os : Nat → Option ZAS} {u : SX} (h : X3 G os u) : XB u := fun d hd => (h d hd).1
theorem frX.sw {u v : SX} {ks : List (Nat × Nat)} {as : List Nat} {d : Nat} (f : frX ks as u v) : frX (ks.map fun x => (zsw d x.1, x.2)) (as.map (zsw d)) (swX d u) (swX d v) := by
  refine ⟨fun c b hb => ?_, fun a ha => ?_, ?_⟩
  · show v.1 (zsw d c) b = u.1 (zsw d c) b
    exact f.1 _ _ (fun y => hb (List.mem_map.mpr ⟨_, y, by rw [zsw_sw]⟩))
  · show v.2.1 (zsw d a) = u.2.1 (zsw d a)
    exact f.2.1 _ (fun y => ha (List.mem_map.mpr ⟨_, y, zsw_sw d a⟩))
  · have e := f.2.2
    show ((fun b => v.2.2.1 (zsw d b)), (fun b j => ze (zsw d) (v.2.2.2.1 (zsw d b) j)), v.2.2.2.2.1, (fun b i => (v.2.2.2.2.2 (zsw d b) i).map (zsw d))) = ((fun b => u.2.2.1 (zsw d b)), (fun b j => ze (zsw d) (u.2.2.2.1 (zsw d b) j)), u.2.2.2.2.1, (fun b i => (u.2.2.2.2.2 (zsw d b) i).map (zsw d)))
    rw [e]
theorem XB.fr {u v : SX} {ks : List (Nat × Nat)} {as : List Nat} (h : XB u) (f : frX ks as u v) (h1 : (25, 3) ∉ ks) : XB v := fun d hd => (h d hd).fr f.sw (fun y => by
  obtain ⟨x, x1, x2⟩ := List.mem_map.mp y
  have e1 : zsw d x.1 = 25 := congrArg Prod.fst x2
  have e2 : x.2 = 3 := congrArg Prod.snd x2
  have e3 : x.1 = 25 := by rw [← zsw_sw d x.1, e1, zsw_99 hd (by omega)]
  exact h1 (by rw [← e3, ← e2]; exact x1))
/-- all is stale -/
theorem X3_new {G : ZGT} {os : Nat → Option ZAS} {v : SX} (hB : XB v) (hF : ZFX G v) (h1 : v.1 36 3 = 1 ∧ v.1 53 3 = 1 ∧ v.1 70 3 = 1) (h2 : v.1 47 3 = 1 ∧ v.1 64 3 = 1 ∧ v.1 81 3 = 1) : X3 G os v := by
  intro d hd
  refine ⟨hB d hd, hF.sw hd, Or.inl ?_, Or.inl ?_⟩
  · show v.1 (zsw d 36) 3 = 1
    rcases lt3c hd with rfl | rfl | rfl
    · exact h1.1
    · exact h1.2.1
    · exact h1.2.2
  · show v.1 (zsw d 47) 3 = 1
    rcases lt3c hd with rfl | rfl | rfl
    · exact h2.1
    · exact h2.2.1
    · exact h2.2.2
theorem ZFX.k2 {G : ZGT} {u v : SX} (h : ZFX G u) (h1 : ∀ b j, b < 25 → (b, j) ≠ (3, 4) → v.1 b j = u.1 b j) (h2 : ∀ b, b < 25 → v.2.1 b = u.2.1 b) : ZFX G v := by
  unfold ZFX ZGX RSX SR at h ⊢
  rw [h1 3 0 (by omega) (by decide), h1 3 1 (by omega) (by decide), h1 3 2 (by omega) (by decide), h1 3 3 (by omega) (by decide), h1 14 1 (by omega) (by decide), h1 14 2 (by omega) (by decide), h1 14 3 (by omega) (by decide), h2 4 (by omega), h2 5 (by omega), h2 6 (by omega), h2 15 (by omega), h2 16 (by omega), h2 17 (by omega), h2 18 (by omega)]
  exact h
/-- another preference: the actions are stale, the automata stand -/
theorem X3_pref {G : ZGT} {os : Nat → Option ZAS} {u v : SX} (h : X3 G os u) (f : frX [(3, 4), (47, 3), (64, 3), (81, 3)] [] u v) (h2 : v.1 47 3 = 1 ∧ v.1 64 3 = 1 ∧ v.1 81 3 = 1) : X3 G os v := by
  intro d hd
  have hB := (h.b).fr f (by decide)
  obtain ⟨-, -, hA, -⟩ := h d hd
  have hF : ZFX G v := by
    have := (h 0 (by omega)).2.1.sw (d := 0) (by omega)
    rw [swX_sw] at this
    refine this.k2 (fun b j hb hn => f.1 b j (fun y => ?_)) (fun b hb => f.2.1 b (fun y => by cases y))
    simp only [List.mem_cons, List.not_mem_nil, or_false, Prod.mk.injEq] at y
    rcases y with y | y
    · exact hn (by rw [y.1, y.2])
    · omega
  refine ⟨hB d hd, hF.sw hd, ?_, Or.inl ?_⟩
  · have fs := f.sw (d := d)
    have e3 : (swX d v).1 36 3 = (swX d u).1 36 3 := fs.1 36 3 (by rcases lt3c hd with rfl | rfl | rfl <;> decide)
    have e4 : (swX d v).1 36 4 = (swX d u).1 36 4 := fs.1 36 4 (by rcases lt3c hd with rfl | rfl | rfl <;> decide)
    unfold XKa at hA ⊢
    rw [e3, e4]
    rcases hA with y | ⟨y, hA⟩
    · exact Or.inl y
    · refine Or.inr ⟨y, ?_⟩
      revert hA
      cases os d with
      | none => exact fun hA => hA
      | some A => exact fun hA => ⟨hA.1, hA.2.fr fs (by rcases lt3c hd with rfl | rfl | rfl <;> decide) (by rcases lt3c hd with rfl | rfl | rfl <;> decide)⟩
  · show v.1 (zsw d 47) 3 = 1
    rcases lt3c hd with rfl | rfl | rfl
    · exact h2.1
    · exact h2.2.1
    · exact h2.2.2
