/-! All three kinds of the class at once. -/
theorem isKc_up {c n m : Nat} (h : isKc c n) (hn : n ≤ m) : isKc c m := by
  rcases h with h | h | ⟨h1, h2, h3⟩
  · exact Or.inl h
  · exact Or.inr (Or.inl h)
  · exact Or.inr (Or.inr ⟨h1, h2, by omega⟩)
theorem XF.oth {G : ZGT} {A : ZAS} {w0 w : SX} (h : XF G A w0) (h1 : ∀ b j, 36 ≤ b → b < 53 → w.1 b j = w0.1 b j) (h2 : ∀ b, 36 ≤ b → b < 53 → w.2.1 b = w0.2.1 b) (h3 : ∀ i, w.2.2.2.2.2 37 i = w0.2.2.2.2.2 37 i) (h4 : ∀ i c, w0.2.2.2.2.2 37 i = some c → w.1 c 0 = w0.1 c 0 ∧ w.2.1 (c + 1) = w0.2.1 (c + 1) ∧ w.2.1 (c + 2) = w0.2.1 (c + 2)) (hn : w0.2.2.2.2.1 ≤ w.2.2.2.2.1) : XF G A w := by
  obtain ⟨g1, ⟨kc, hks⟩, g3, g4, g5, g6⟩ := h
  refine ⟨(h1 36 5 (by omega) (by omega)).trans g1, ⟨kc, fun i hi => ?_, hks.2⟩, fun i hi => ?_, fun s hs b hb => ?_, fun s hs hq => ?_, ?_⟩
  · obtain ⟨i1, i2, i3⟩ := hks.1 i hi
    obtain ⟨j1, j2, j3⟩ := h4 _ _ i1
    exact ⟨(h3 i).trans i1, ⟨i2.1, isKc_up i2.2 hn⟩, i3.fr j1 j2 j3⟩
  · obtain ⟨c, c1, c2⟩ := g3 i hi
    exact ⟨c, by rw [h2 38 (by omega) (by omega)]; exact c1, c2⟩
  · rw [h2 40 (by omega) (by omega)]; exact g4 s hs b hb
  · have := g5 s hs hq
    unfold yO at this ⊢
    rw [h2 39 (by omega) (by omega)]; exact this
  · unfold XNb at g6 ⊢
    rw [h1 36 10 (by omega) (by omega), h2 41 (by omega) (by omega), h2 42 (by omega) (by omega), h2 43 (by omega) (by omega), h2 44 (by omega) (by omega), h2 45 (by omega) (by omega)]
    exact g6
theorem XK.oth {P : YP} {G : ZGT} {o : Option ZAS} {w0 w : SX} (h : XK P G o w0) (hI : XI P w) (hF : ZFX G w) (h34 : w.1 3 4 = w0.1 3 4) (h1 : ∀ b j, 36 ≤ b → b < 53 → w.1 b j = w0.1 b j) (h2 : ∀ b, 36 ≤ b → b < 53 → w.2.1 b = w0.2.1 b) (h3 : ∀ i, w.2.2.2.2.2 37 i = w0.2.2.2.2.2 37 i) (h4 : ∀ i c, w0.2.2.2.2.2 37 i = some c → w.1 c 0 = w0.1 c 0 ∧ w.2.1 (c + 1) = w0.2.1 (c + 1) ∧ w.2.1 (c + 2) = w0.2.1 (c + 2)) (hn : w0.2.2.2.2.1 ≤ w.2.2.2.2.1) : XK P G o w := by
  obtain ⟨-, -, hA, hT⟩ := h
  refine ⟨hI, hF, ?_, ?_⟩
  · unfold XKa at hA ⊢
    rw [h1 36 3 (by omega) (by omega), h1 36 4 (by omega) (by omega)]
    rcases hA with y | ⟨y, hA⟩
    · exact Or.inl y
    · refine Or.inr ⟨y, ?_⟩
      cases o with
      | none => exact hA
      | some A => exact ⟨hA.1, hA.2.oth h1 h2 h3 h4 hn⟩
  · unfold XKt at hT ⊢
    rw [h1 36 3 (by omega) (by omega), h1 47 3 (by omega) (by omega), h34]
    rcases hT with y | ⟨y1, y2, A, y3, y4⟩
    · exact Or.inl y
    · refine Or.inr ⟨y1, y2, A, y3, fun k hk => ?_⟩
      obtain ⟨a, b, c⟩ := y4 k hk
      exact ⟨fun t ht => by rw [h2 48 (by omega) (by omega)]; exact a t ht, by rw [h2 49 (by omega) (by omega)]; exact b, by rw [h2 50 (by omega) (by omega)]; exact c⟩
theorem lt3c {d : Nat} (h : d < 3) : d = 0 ∨ d = 1 ∨ d = 2 := by omega
theorem KRw.sw {h : Nat → Nat} {s : SX} {d : Nat} (hd : d < 3) (k : KRw h s) : KRw (fun a => h (zsw d a)) (swX d s) := by
  have hv : ∀ a i c, (swX d s).2.2.2.2.2 a i = some c → s.2.2.2.2.2 (zsw d a) i = some c := by
    intro a i c e
    have e : (s.2.2.2.2.2 (zsw d a) i).map (zsw d) = some c := e
    cases hh : s.2.2.2.2.2 (zsw d a) i with
    | none => rw [hh] at e; cases e
    | some c' =>
      rw [hh] at e
      cases e
      have := (k.lt hh).2.1
      rw [zsw_99 hd (by omega)]
  refine ⟨fun a i => ⟨fun hi => ?_, fun hi => ?_⟩, fun a b i j c e1 e2 => ?_, ?_⟩
  · obtain ⟨c, c1, c2, c3⟩ := (k.1 (zsw d a) i).1 hi
    refine ⟨c, ?_, c2, c3⟩
    show (s.2.2.2.2.2 (zsw d a) i).map (zsw d) = some c
    rw [c1]
    show some (zsw d c) = some c
    rw [zsw_99 hd (by omega)]
  · show (s.2.2.2.2.2 (zsw d a) i).map (zsw d) = none
    rw [(k.1 (zsw d a) i).2 hi]; rfl
  · obtain ⟨y1, y2⟩ := k.2.1 _ _ _ _ _ (hv _ _ _ e1) (hv _ _ _ e2)
    exact ⟨by rw [← zsw_sw d a, y1, zsw_sw], y2⟩
  · have e := k.2.2
    show s.2.2.2.2.1 = h (zsw d 37) + h (zsw d 54) + h (zsw d 71)
    rcases lt3c hd with rfl | rfl | rfl
    · exact e
    · show s.2.2.2.2.1 = h 54 + h 37 + h 71; omega
    · show s.2.2.2.2.1 = h 71 + h 54 + h 37; omega
theorem zsv_sw {d n : Nat} (hd : d < 3) {v : Value} (h : zsv (3 * n + 99) v = true) : zsv (3 * n + 99) (ze (zsw d) v) = true := by
  cases v with
  | ref k => exact Nat.ble_eq_true_of_le (zsw_n hd (Nat.le_of_ble_eq_true h))
  | _ => rfl
theorem YPd_99 {d : Nat} (hd : d < 3) : (∀ i k, (YPd d).2.1 i = some k → k < 99) ∧ (∀ i k, (YPd d).2.2 i = some k → k < 99) := by
  have key : ∀ (f : Nat → Option Nat), (∀ i k, f i = some k → k < 99) → ∀ i k, (f i).map (zsw d) = some k → k < 99 := by
    intro f hf i k e
    cases hh : f i with
    | none => rw [hh] at e; cases e
    | some c =>
      rw [hh] at e
      cases e
      exact zsw_n (n := 0) hd (hf i c hh)
  refine ⟨key _ ?_, key _ ?_⟩
  · intro i k e
    match i, e with
    | 0, e => cases e; decide
    | 1, e => cases e; decide
    | 2, e => cases e; decide
    | i + 3, e => cases e
  · intro i k e
    match i, e with
    | 0, e => cases e; decide
    | 1, e => cases e; decide
    | 2, e => cases e; decide
    | i + 3, e => cases e
theorem YR.sw {d d' : Nat} (hd : d < 3) (hd' : d' < 3) {s : SX} (h : YR (YPd d) s) : YR (YPd d') (swX d' (swX d s)) := by
  refine ⟨YPd_99 hd', fun b j => zsv_sw hd' (zsv_sw hd (h.2.1 _ _)), fun b i k e => ?_⟩
  have e : ((s.2.2.2.2.2 (zsw d (zsw d' b)) i).map (zsw d)).map (zsw d') = some k := e
  cases hh : s.2.2.2.2.2 (zsw d (zsw d' b)) i with
  | none => rw [hh] at e; cases e
  | some c =>
    rw [hh] at e
    cases e
    exact zsw_n hd' (zsw_n hd (h.2.2 _ _ _ hh))
theorem ZFX.sw {G : ZGT} {d : Nat} (hd : d < 3) {s : SX} (h : ZFX G s) : ZFX G (swX d s) := h.k (fun b j hb => by show s.1 (zsw d b) j = _; rw [zsw_99 hd (by omega)]) (fun b hb => by show s.2.1 (zsw d b) = _; rw [zsw_99 hd (by omega)])
theorem zsw_o {d d' b : Nat} (hd : d < 3) (hd' : d' < 3) (hne : d' ≠ d) (h1 : 36 ≤ b) (h2 : b < 53) : 52 < zsw d (zsw d' b) ∧ zsw d (zsw d' b) < 87 := by
  rw [zsw_a h1 h2]
  by_cases h0 : d' = 0
  · subst h0
    rw [show b + 17 * 0 = b by omega, zsw_a h1 h2]
    omega
  · rw [zsw_c (by omega) (by omega)]
    omega
/-- the class holds the automata of a grammar: what is made of each kind is right -/
def X3 (G : ZGT) (os : Nat → Option ZAS) (u : SX) : Prop := ∀ d, d < 3 → XK (YPd d) G (os d) (swX d u)
theorem X3_step {G : ZGT} {os : Nat → Option ZAS} {u v : SX} {d : Nat} (hd : d < 3) (h : X3 G os u) (hv : XK (YPd d) G (os d) v) (f : frK (swX d u) v) (hn : u.2.2.2.2.1 ≤ v.2.2.2.2.1) : X3 G os (swX d v) := by
  intro d' hd'
  by_cases hne : d' = d
  · subst hne
    rw [swX_sw]; exact hv
  have h0 := h d' hd'
  obtain ⟨⟨i1, ⟨k, i2, i3⟩, hq, i4, i5⟩, hF, -, -⟩ := hv
  obtain ⟨⟨-, ⟨k0, j2, j3⟩, -⟩, -, -, -⟩ := id h0
  have o37 := zsw_o (b := 37) hd hd' hne (by omega) (by omega)
  have hsw : ∀ b, zsw d (zsw d (zsw d' b)) = zsw d' b := fun b => zsw_sw d _
  have e3 : ∀ i, (swX d' (swX d v)).2.2.2.2.2 37 i = (swX d' u).2.2.2.2.2 37 i := by
    intro i
    show ((v.2.2.2.2.2 (zsw d (zsw d' 37)) i).map (zsw d)).map (zsw d') = (u.2.2.2.2.2 (zsw d' 37) i).map (zsw d')
    rw [f.2.2.2.2.1 _ i (by omega)]
    show (((u.2.2.2.2.2 (zsw d (zsw d (zsw d' 37))) i).map (zsw d)).map (zsw d)).map (zsw d') = _
    rw [hsw, zom_sw]
  have kw := (i2.sw hd).sw hd'
  have fix : ∀ b, b < 36 ∨ 86 < b → zsw d (zsw d' b) = b := fun b hb => by rw [zsw_99 hd' hb, zsw_99 hd hb]
  refine h0.oth ⟨i1.sw hd hd', ⟨_, kw, ?_⟩, hq, i4, ?_⟩ ((hF.sw hd).sw hd') ?_ (fun b j hb1 hb2 => ?_) (fun b hb1 hb2 => ?_) e3 (fun i c hc => ?_) hn
  · refine Nat.le_of_not_lt fun y => ?_
    obtain ⟨c, c1, -⟩ := (kw.1 37 200).1 y
    rw [e3 200, (j2.1 37 200).2 (by omega)] at c1
    cases c1
  · show v.1 (zsw d (zsw d' 25)) 3 = _
    rw [fix 25 (by omega)]; exact i5
  · show v.1 (zsw d (zsw d' 3)) 4 = u.1 (zsw d' 3) 4
    rw [fix 3 (by omega), zsw_99 hd' (by omega), f.1 3 4 (by omega)]
    show u.1 (zsw d 3) 4 = _
    rw [zsw_99 hd (by omega)]
  · have := zsw_o hd hd' hne hb1 hb2
    show v.1 (zsw d (zsw d' b)) j = u.1 (zsw d' b) j
    rw [f.1 _ j (by omega)]
    show u.1 (zsw d (zsw d (zsw d' b))) j = _
    rw [hsw]
  · have := zsw_o hd hd' hne hb1 hb2
    show v.2.1 (zsw d (zsw d' b)) = u.2.1 (zsw d' b)
    rw [f.2.1 _ (by omega)]
    show u.2.1 (zsw d (zsw d (zsw d' b))) = _
    rw [hsw]
  · have hc9 := (j2.lt hc).2.1
    have hc : (u.2.2.2.2.2 (zsw d' 37) i).map (zsw d') = some c := hc
    have hc2 : (swX d u).2.2.2.2.2 (zsw d (zsw d' 37)) i = some c := by
      show (u.2.2.2.2.2 (zsw d (zsw d (zsw d' 37))) i).map (zsw d) = some c
      rw [hsw]
      cases hh : u.2.2.2.2.2 (zsw d' 37) i with
      | none => rw [hh] at hc; cases hc
      | some c' =>
        rw [hh] at hc
        have e : zsw d' c' = c := Option.some.inj hc
        have e2 : c' = zsw d' c := by rw [← e, zsw_sw]
        rw [zsw_99 hd' (by omega)] at e2
        subst e2
        show some (zsw d c') = some c'
        rw [zsw_99 hd (by omega)]
    obtain ⟨a1, a2, a3⟩ := f.2.2.2.2.2 _ i c (by omega) hc2
    have g : ∀ x, 99 ≤ x → zsw d x = x := fun x hx => zsw_99 hd (by omega)
    have g' : ∀ x, 99 ≤ x → zsw d' x = x := fun x hx => zsw_99 hd' (by omega)
    refine ⟨?_, ?_, ?_⟩
    · show v.1 (zsw d (zsw d' c)) 0 = u.1 (zsw d' c) 0
      rw [g' c hc9, g c hc9, a1]
      show u.1 (zsw d c) 0 = _
      rw [g c hc9]
    · show v.2.1 (zsw d (zsw d' (c + 1))) = u.2.1 (zsw d' (c + 1))
      rw [g' _ (by omega), g _ (by omega), a2]
      show u.2.1 (zsw d (c + 1)) = _
      rw [g _ (by omega)]
    · show v.2.1 (zsw d (zsw d' (c + 2))) = u.2.1 (zsw d' (c + 2))
      rw [g' _ (by omega), g _ (by omega), a3]
      show u.2.1 (zsw d (c + 2)) = _
      rw [g _ (by omega)]
/-- what a call by any kind may change -/
def frZ (u v : SX) : Prop := (∀ b j, b < 25 → v.1 b j = u.1 b j) ∧ (∀ b, b < 25 → v.2.1 b = u.2.1 b) ∧ v.2.2.1 = u.2.2.1 ∧ ∀ b j, b ≠ 87 → v.2.2.2.1 b j = u.2.2.2.1 b j
theorem frZ.rf {u : SX} : frZ u u := ⟨fun _ _ _ => rfl, fun _ _ => rfl, rfl, fun _ _ _ => rfl⟩
theorem frZ.tr {u v w : SX} (h1 : frZ u v) (h2 : frZ v w) : frZ u w := ⟨fun b j hb => (h2.1 b j hb).trans (h1.1 b j hb), fun b hb => (h2.2.1 b hb).trans (h1.2.1 b hb), h2.2.2.1.trans h1.2.2.1, fun b j hb => (h2.2.2.2 b j hb).trans (h1.2.2.2 b j hb)⟩
theorem frK.z {d : Nat} (hd : d < 3) {u v : SX} (f : frK (swX d u) v) : frZ u (swX d v) := by
  refine ⟨fun b j hb => ?_, fun b hb => ?_, ?_, fun b j hb => ?_⟩
  · show v.1 (zsw d b) j = _
    rw [zsw_99 hd (by omega), f.1 b j (Or.inl hb)]
    show u.1 (zsw d b) j = _
    rw [zsw_99 hd (by omega)]
  · show v.2.1 (zsw d b) = _
    rw [zsw_99 hd (by omega), f.2.1 b (Or.inl hb)]
    show u.2.1 (zsw d b) = _
    rw [zsw_99 hd (by omega)]
  · show (fun b => v.2.2.1 (zsw d b)) = _
    rw [f.2.2.1]
    exact funext fun b => by show u.2.2.1 (zsw d (zsw d b)) = _; rw [zsw_sw]
  · show ze (zsw d) (v.2.2.2.1 (zsw d b) j) = _
    have hne : zsw d b ≠ 87 := fun y => hb (by rw [← zsw_sw d b, y, zsw_99 hd (by omega)])
    rw [f.2.2.2.1 _ j hne]
    show ze (zsw d) (ze (zsw d) (u.2.2.2.1 (zsw d (zsw d b)) j)) = _
    rw [ze_sw, zsw_sw]
/-- how a call by any kind ends -/
def k3Q (G : ZGT) (os : Nat → Option ZAS) (u : SX) (r : Int32) (x : Option Value) (v : SX) : Prop := x = some (.int r) ∧ X3 G os v ∧ frZ u v
theorem k3_of {G : ZGT} {os : Nat → Option ZAS} {u : SX} {d : Nat} (hd : d < 3) {M : MD} {as : List Value} {r : Int32} (h : X3 G os u) (has : as.map (ze (zsw d)) = as) (e : EvQ (ZY (YPd d)) M (.ref 0 :: as) (swX d u) (kdQ (YPd d) G (os d) (swX d u) r)) : EvQ ZX M (.ref 0 :: as) u (k3Q G os u r) := by
  obtain ⟨x, v, ⟨rfl, q1, q2⟩, he⟩ := e
  have hn : u.2.2.2.2.1 ≤ v.2.2.2.2.1 := by
    have : 3 * u.2.2.2.2.1 + 99 ≤ 3 * v.2.2.2.2.1 + 99 := he.1.1
    omega
  refine ⟨_, _, ⟨rfl, X3_step hd h q1 q2 hn, q2.z hd⟩, ?_⟩
  have := Ev_sw hd he
  rw [List.map_cons, has, show ze (zsw d) (.ref 0) = .ref 0 from by show Value.ref (zsw d 0) = _; rw [zsw_99 hd (by omega)]] at this
  exact this
theorem YPd_k {d : Nat} (hd : d < 3) : (YPd d).2.1 d = some 36 ∧ (YPd d).2.2 d = some 47 ∧ (YPd d).1 0 = nI d := by
  rcases lt3c hd with rfl | rfl | rfl <;> exact ⟨rfl, rfl, rfl⟩
