/-! The class: countWays, countTrees, trees. -/
/-- the row of ways holds f, whichever of the two it is -/
def WyL (f : Nat → Nat) (x : SX) : Prop := (x.2.2.2.1 14 11 = .ref 21 ∧ x.2.2.2.1 14 12 = .ref 22 ∧ ∀ c, c < 9 → x.2.2.1 21 c = nL (f c)) ∨ (x.2.2.2.1 14 11 = .ref 22 ∧ x.2.2.2.1 14 12 = .ref 21 ∧ ∀ c, c < 9 → x.2.2.1 22 c = nL (f c))
def WyX (x : SX) : Prop := (x.2.2.2.1 14 11 = .ref 21 ∧ x.2.2.2.1 14 12 = .ref 22) ∨ (x.2.2.2.1 14 11 = .ref 22 ∧ x.2.2.2.1 14 12 = .ref 21)
theorem WyL.x {f : Nat → Nat} {x : SX} (h : WyL f x) : WyX x := by
  rcases h with ⟨a, b, _⟩ | ⟨a, b, _⟩
  · exact Or.inl ⟨a, b⟩
  · exact Or.inr ⟨a, b⟩
/-- what counting of ways may change -/
def frTw (u v : SX) : Prop := v.1 = u.1 ∧ v.2.1 = u.2.1 ∧ (∀ b, b ≠ 21 → b ≠ 22 → v.2.2.1 b = u.2.2.1 b) ∧ (∀ b j, ¬ (b = 14 ∧ (j = 11 ∨ j = 12)) → v.2.2.2.1 b j = u.2.2.2.1 b j) ∧ v.2.2.2.2 = u.2.2.2.2
theorem frTw.rf {u : SX} : frTw u u := ⟨rfl, rfl, fun _ _ _ => rfl, fun _ _ _ => rfl, rfl⟩
theorem frTw.tr {u v w : SX} (h1 : frTw u v) (h2 : frTw v w) : frTw u w := ⟨h2.1.trans h1.1, h2.2.1.trans h1.2.1, fun b x y => (h2.2.2.1 b x y).trans (h1.2.2.1 b x y), fun b j x => (h2.2.2.2.1 b j x).trans (h1.2.2.2.1 b j x), h2.2.2.2.2.trans h1.2.2.2.2⟩
theorem frLo.w1 {u v : SX} (h : frLo 21 u v) : frTw u v := ⟨h.1, h.2.1, fun b x _ => h.2.2.1 b x, fun b j _ => by rw [h.2.2.2], by rw [h.2.2.2]⟩
theorem frLo.w2 {u v : SX} (h : frLo 22 u v) : frTw u v := ⟨h.1, h.2.1, fun b _ y => h.2.2.1 b y, fun b j _ => by rw [h.2.2.2], by rw [h.2.2.2]⟩
theorem frTw.p {u : SX} {j : Nat} {w : Value} (hj : j = 11 ∨ j = 12) : frTw u (u.1, u.2.1, u.2.2.1, updW u.2.2.2.1 14 j w, u.2.2.2.2) := by
  refine ⟨rfl, rfl, fun _ _ _ => rfl, fun b i hb => ?_, rfl⟩
  show updW u.2.2.2.1 14 j w b i = _
  by_cases e : b = 14
  · subst e
    rw [updW_eq]
    show (bif Nat.beq i j then w else u.2.2.2.1 14 i) = _
    cases hq : Nat.beq i j with
    | true =>
      have := Nat.eq_of_beq_eq_true hq
      exact absurd ⟨rfl, by omega⟩ hb
    | false => rfl
  · rw [updW_ne e]
theorem ZGX.tw {G : ZGT} {u v : SX} (h : ZGX G u) (f : frTw u v) : ZGX G v := by
  unfold ZGX at h ⊢
  rw [f.1, f.2.1]; exact h
theorem cpyL {f g : Nat → Int64} {w : Nat → Nat} (hf : ∀ c, c < 9 → f c = nL (w c)) (hg : ∀ c, c < 9 → g c = 0) : ∀ c, c < 9 → va_cpy f g 0 1 8 c = nL (zshf w c) := by
  intro c hc
  unfold va_cpy zshf
  by_cases e : c = 0
  · rw [if_neg (by omega), if_pos e, hg c hc]; rfl
  · rw [if_pos (by omega), if_neg e, Nat.zero_add]; exact hf (c - 1) (by omega)
section CntX
variable {P : YP} {G : ZGT} {u : SX} {T : Nat → Nat → Nat}
set_option maxHeartbeats 1000000 in
theorem y_countWays (h : ZGX G u) (hW : WyX u) {r k : Nat} (hr : r < zgR G) (hk : k < 6) (hT : ∀ n c, n < 6 → c < 9 → u.2.1 20 ((k * 6 + n) * 9 + c) = nI (T n c)) (hTl : ∀ n c, T n c ≤ 1000000000) : EvQ (ZY P) mX4_countWays [.ref 14, .int (nI r), .int (nI k)] u (fun x v => x = none ∧ WyL (zuw G T r (zgn G r)) v ∧ frTw u v) := by
  have hb := h.b
  have hn5 := h.1.n (show r ≤ zgR G by omega)
  refine EQ_V vX4_countWays rfl ?_
  -- the loop over letters
  have p17 : ∀ v, WyL (zuw G T r 0) v → frTw u v → RnQ (ZY P) mX4_countWays (17, [some (.ref 14), some (.int (nI r)), some (.int (nI k)), some (.int (nI 0)), none, none], [], v) (fun x v => x = none ∧ WyL (zuw G T r (zgn G r)) v ∧ frTw u v) := by
    intro v hv0 fv0
    refine loopU (M := mX4_countWays) (pc := 17) (zgn G r) (fun d (_ : Unit) => [some (.ref 14), some (.int (nI r)), some (.int (nI k)), some (.int (nI d)), none, none]) (fun d _ x => WyL (zuw G T r d) x ∧ frTw u x) ?_ 0 () v (by omega) ⟨hv0, fv0⟩
    intro d _ x hd hJ ih
    obtain ⟨j1, j2⟩ := hJ
    have hGx := h.tw j2
    refine RQ_n (ZY_ok P) 6 rfl ⟨nI_in (by omega) (by omega), trivial⟩ ?_
    rw [nI_clamp (by omega), (hGx.2.2.2 r (by omega)).1]
    refine RQ_b rfl (fun z => ?_) (fun z => ?_)
    · have z := (zq_le (a := zgn G r) (b := d) rfl rfl (by omega) (by omega)).mp z
      have : d = zgn G r := by omega
      subst this
      exact RQ_to (Rn_vret rfl rfl) ⟨rfl, j1, j2⟩
    have z := (not_congr (zq_le (a := zgn G r) (b := d) rfl rfl (by omega) (by omega))).mp z
    have hd' : d < zgn G r := by omega
    obtain ⟨hl14, hl2⟩ := h.1.t (show r ≤ zgR G by omega) hd'
    refine RQ_n (ZY_ok P) 4 rfl trivial ?_
    refine RQ_v vX5_letterAt (y_letterAt hGx (r := r) (i := d) (by omega) (by omega)) rfl k4_86 rfl rfl rfl (zyr (ci := 5) rfl rfl (by omega)) rfl ?_
    rw [zlt_in hd']
    refine RQ_n (ZY_ok P) 3 rfl trivial ?_
    have hzs := zuw_s G T r d
    have e20 : x.2.1 20 = u.2.1 20 := by rw [j2.2.1]
    rcases j1 with ⟨o1, o2, o3⟩ | ⟨o1, o2, o3⟩
    · skip
      rw [o2]
      refine RQ_n (ZY_ok P) 1 rfl trivial ?_
      refine RQ_S vJ7_fill_d0a16 (y_fillL22 x (Int64.ofNat 0)) rfl k4_157 rfl rfl rfl (fun _ s1 q => by show 3 * s1.2.2.2.2.1 + 99 = 3 * x.2.2.2.2.1 + 99; rw [q.2.2.2.2.2]) ?_
      rintro r1 x1 ⟨rfl, f1, f2⟩
      have a1 : x1.2.2.2.1 14 11 = .ref 21 := by rw [f2.2.2.2]; exact o1
      have a2 : x1.2.2.2.1 14 12 = .ref 22 := by rw [f2.2.2.2]; exact o2
      have a3 : ∀ c, c < 9 → x1.2.2.1 21 c = nL (zuw G T r d c) := fun c hc => by rw [f2.2.2.1 21 (by decide)]; exact o3 c hc
      have fx1 : frTw u x1 := j2.tr f2.w2
      -- the two rows change places
      have p87 : ∀ x2, frTw u x2 → x2.2.2.2.1 14 11 = .ref 21 → x2.2.2.2.1 14 12 = .ref 22 → (∀ c, c < 9 → x2.2.2.1 22 c = nL (zuw G T r (d + 1) c)) → RnQ (ZY P) mX4_countWays (87, [some (.ref 14), some (.int (nI r)), some (.int (nI k)), some (.int (nI d)), some (.int (nI (zgt G r d))), none], [], x2) (fun x v => x = none ∧ WyL (zuw G T r (zgn G r)) v ∧ frTw u v) := by
        intro x2 g1 g2 g3 g4
        refine RQ_n (ZY_ok P) 2 rfl trivial ?_
        rw [g2]
        refine RQ_n (ZY_ok P) 4 rfl trivial ?_
        rw [g3]
        refine RQ_pr (s1 := (x2.1, x2.2.1, x2.2.2.1, updW x2.2.2.2.1 14 11 (.ref 22), x2.2.2.2.2)) (ZY_ok P) rfl rfl rfl (show 14 < 3 * x2.2.2.2.2.1 + 99 by omega) (show 11 < 13 by decide) rfl (fun _ => ⟨rfl, rfl⟩) rfl ?_
        refine RQ_n (ZY_ok P) 2 rfl trivial ?_
        refine RQ_pr (s1 := (x2.1, x2.2.1, x2.2.2.1, updW (updW x2.2.2.2.1 14 11 (.ref 22)) 14 12 (.ref 21), x2.2.2.2.2)) (ZY_ok P) rfl rfl rfl (show 14 < 3 * x2.2.2.2.2.1 + 99 by omega) (show 12 < 13 by decide) rfl (fun _ => ⟨rfl, rfl⟩) rfl ?_
        refine RQ_n (ZY_ok P) 2 rfl trivial ?_
        exact ih (by omega) () _ _ ⟨rfl, rfl, rfl, nIs d, trivial⟩ ⟨Or.inr ⟨rfl, rfl, g4⟩, (g1.tr (frTw.p (Or.inl rfl))).tr (frTw.p (Or.inr rfl))⟩
      refine RQ_n (ZY_ok P) 2 rfl trivial ?_
      by_cases h8 : zgt G r d < 8
      · refine RQ_b rfl (fun y => ?_) (fun _ => ?_)
        · have y := (zq_le (a := 8) (b := zgt G r d) rfl rfl (by omega) (by omega)).mp y
          omega
        refine RQ_n (ZY_ok P) 2 rfl trivial ?_
        rw [a1]
        refine RQ_n (ZY_ok P) 3 rfl trivial ?_
        rw [a2]
        refine RQ_n (ZY_ok P) 2 rfl trivial ?_
        refine RQ_copyL (i := 0) (j := 1) (n := 8) (s' := (x1.1, x1.2.1, setL x1.2.2.1 22 (va_cpy (x1.2.2.1 21) (x1.2.2.1 22) 0 1 8), x1.2.2.2)) rfl k4_160 rfl rfl rfl rfl (show (ZY P).1 x1 21 = .inl (2, 9, .inr (.inl (x1.2.2.1 21))) from rfl) (show (ZY P).1 x1 22 = .inl (2, 9, .inr (.inl (x1.2.2.1 22))) from rfl) (show 21 < 3 * x1.2.2.2.2.1 + 99 by omega) (show 22 < 3 * x1.2.2.2.2.1 + 99 by omega) (by omega) (by omega) ⟨by omega, by omega⟩ ⟨⟨rfl, rfl⟩, fun b hb => ?_, ?_⟩ ?_
        · show yc P (x1.1 b) (x1.2.1 b) (setL x1.2.2.1 22 _ b) _ _ b = yc P (x1.1 b) (x1.2.1 b) (x1.2.2.1 b) _ _ b
          rw [setL_ne hb]
        · rfl
        refine RQ_n (ZY_ok P) 1 rfl trivial ?_
        refine p87 _ (fx1.tr (frLo.w2 ⟨rfl, rfl, fun b hb => setL_ne hb, rfl⟩)) a1 a2 ?_
        rw [hzs, if_pos h8]
        exact cpyL a3 f1
      · refine RQ_b rfl (fun _ => ?_) (fun y => absurd ((zq_le (a := 8) (b := zgt G r d) rfl rfl (by omega) (by omega)).mpr (by omega)) y)
        refine RQ_n (ZY_ok P) 5 rfl trivial ?_
        rw [show (8 : Int32) = nI 8 from rfl, nI_sub (show 8 ≤ zgt G r d by omega)]
        refine RQ_s vX4_treesAt (y_treesAt x1 (zgt G r d - 8) k) rfl k4_139 rfl rfl rfl rfl ?_
        have e1 : x1.2.1 20 = u.2.1 20 := by rw [fx1.2.1]
        refine RQ_V vX4_joinWays (y_joinWays21 (w := zuw G T r d) (t := T (zgt G r d - 8)) a1 a2 a3 (fun i => zuw_le G T r d i) (fun i hi => by rw [e1]; exact hT _ i (by omega) hi) (fun i => hTl _ i) (by omega) f1) rfl k4_166 rfl rfl rfl (zy14 _ rfl) (fun _ s1 q => by show 3 * s1.2.2.2.2.1 + 99 = 3 * x1.2.2.2.2.1 + 99; rw [q.2.2.2.2.2]) ?_
        rintro r2 x2 ⟨rfl, g1, g2⟩
        refine p87 x2 (fx1.tr g2.w2) (by rw [g2.2.2.2]; exact a1) (by rw [g2.2.2.2]; exact a2) ?_
        rw [hzs, if_neg h8]
        exact g1
    · skip
      rw [o2]
      refine RQ_n (ZY_ok P) 1 rfl trivial ?_
      refine RQ_S vJ7_fill_d0a16 (y_fillL21 x (Int64.ofNat 0)) rfl k4_157 rfl rfl rfl (fun _ s1 q => by show 3 * s1.2.2.2.2.1 + 99 = 3 * x.2.2.2.2.1 + 99; rw [q.2.2.2.2.2]) ?_
      rintro r1 x1 ⟨rfl, f1, f2⟩
      have a1 : x1.2.2.2.1 14 11 = .ref 22 := by rw [f2.2.2.2]; exact o1
      have a2 : x1.2.2.2.1 14 12 = .ref 21 := by rw [f2.2.2.2]; exact o2
      have a3 : ∀ c, c < 9 → x1.2.2.1 22 c = nL (zuw G T r d c) := fun c hc => by rw [f2.2.2.1 22 (by decide)]; exact o3 c hc
      have fx1 : frTw u x1 := j2.tr f2.w1
      -- the two rows change places
      have p87 : ∀ x2, frTw u x2 → x2.2.2.2.1 14 11 = .ref 22 → x2.2.2.2.1 14 12 = .ref 21 → (∀ c, c < 9 → x2.2.2.1 21 c = nL (zuw G T r (d + 1) c)) → RnQ (ZY P) mX4_countWays (87, [some (.ref 14), some (.int (nI r)), some (.int (nI k)), some (.int (nI d)), some (.int (nI (zgt G r d))), none], [], x2) (fun x v => x = none ∧ WyL (zuw G T r (zgn G r)) v ∧ frTw u v) := by
        intro x2 g1 g2 g3 g4
        refine RQ_n (ZY_ok P) 2 rfl trivial ?_
        rw [g2]
        refine RQ_n (ZY_ok P) 4 rfl trivial ?_
        rw [g3]
        refine RQ_pr (s1 := (x2.1, x2.2.1, x2.2.2.1, updW x2.2.2.2.1 14 11 (.ref 21), x2.2.2.2.2)) (ZY_ok P) rfl rfl rfl (show 14 < 3 * x2.2.2.2.2.1 + 99 by omega) (show 11 < 13 by decide) rfl (fun _ => ⟨rfl, rfl⟩) rfl ?_
        refine RQ_n (ZY_ok P) 2 rfl trivial ?_
        refine RQ_pr (s1 := (x2.1, x2.2.1, x2.2.2.1, updW (updW x2.2.2.2.1 14 11 (.ref 21)) 14 12 (.ref 22), x2.2.2.2.2)) (ZY_ok P) rfl rfl rfl (show 14 < 3 * x2.2.2.2.2.1 + 99 by omega) (show 12 < 13 by decide) rfl (fun _ => ⟨rfl, rfl⟩) rfl ?_
        refine RQ_n (ZY_ok P) 2 rfl trivial ?_
        exact ih (by omega) () _ _ ⟨rfl, rfl, rfl, nIs d, trivial⟩ ⟨Or.inl ⟨rfl, rfl, g4⟩, (g1.tr (frTw.p (Or.inl rfl))).tr (frTw.p (Or.inr rfl))⟩
      refine RQ_n (ZY_ok P) 2 rfl trivial ?_
      by_cases h8 : zgt G r d < 8
      · refine RQ_b rfl (fun y => ?_) (fun _ => ?_)
        · have y := (zq_le (a := 8) (b := zgt G r d) rfl rfl (by omega) (by omega)).mp y
          omega
        refine RQ_n (ZY_ok P) 2 rfl trivial ?_
        rw [a1]
        refine RQ_n (ZY_ok P) 3 rfl trivial ?_
        rw [a2]
        refine RQ_n (ZY_ok P) 2 rfl trivial ?_
        refine RQ_copyL (i := 0) (j := 1) (n := 8) (s' := (x1.1, x1.2.1, setL x1.2.2.1 21 (va_cpy (x1.2.2.1 22) (x1.2.2.1 21) 0 1 8), x1.2.2.2)) rfl k4_160 rfl rfl rfl rfl (show (ZY P).1 x1 22 = .inl (2, 9, .inr (.inl (x1.2.2.1 22))) from rfl) (show (ZY P).1 x1 21 = .inl (2, 9, .inr (.inl (x1.2.2.1 21))) from rfl) (show 22 < 3 * x1.2.2.2.2.1 + 99 by omega) (show 21 < 3 * x1.2.2.2.2.1 + 99 by omega) (by omega) (by omega) ⟨by omega, by omega⟩ ⟨⟨rfl, rfl⟩, fun b hb => ?_, ?_⟩ ?_
        · show yc P (x1.1 b) (x1.2.1 b) (setL x1.2.2.1 21 _ b) _ _ b = yc P (x1.1 b) (x1.2.1 b) (x1.2.2.1 b) _ _ b
          rw [setL_ne hb]
        · rfl
        refine RQ_n (ZY_ok P) 1 rfl trivial ?_
        refine p87 _ (fx1.tr (frLo.w1 ⟨rfl, rfl, fun b hb => setL_ne hb, rfl⟩)) a1 a2 ?_
        rw [hzs, if_pos h8]
        exact cpyL a3 f1
      · refine RQ_b rfl (fun _ => ?_) (fun y => absurd ((zq_le (a := 8) (b := zgt G r d) rfl rfl (by omega) (by omega)).mpr (by omega)) y)
        refine RQ_n (ZY_ok P) 5 rfl trivial ?_
        rw [show (8 : Int32) = nI 8 from rfl, nI_sub (show 8 ≤ zgt G r d by omega)]
        refine RQ_s vX4_treesAt (y_treesAt x1 (zgt G r d - 8) k) rfl k4_139 rfl rfl rfl rfl ?_
        have e1 : x1.2.1 20 = u.2.1 20 := by rw [fx1.2.1]
        refine RQ_V vX4_joinWays (y_joinWays22 (w := zuw G T r d) (t := T (zgt G r d - 8)) a1 a2 a3 (fun i => zuw_le G T r d i) (fun i hi => by rw [e1]; exact hT _ i (by omega) hi) (fun i => hTl _ i) (by omega) f1) rfl k4_166 rfl rfl rfl (zy14 _ rfl) (fun _ s1 q => by show 3 * s1.2.2.2.2.1 + 99 = 3 * x1.2.2.2.2.1 + 99; rw [q.2.2.2.2.2]) ?_
        rintro r2 x2 ⟨rfl, g1, g2⟩
        refine p87 x2 (fx1.tr g2.w1) (by rw [g2.2.2.2]; exact a1) (by rw [g2.2.2.2]; exact a2) ?_
        rw [hzs, if_neg h8]
        exact g1
  refine RQ_n (ZY_ok P) 2 rfl trivial ?_
  rcases hW with ⟨w1, w2⟩ | ⟨w1, w2⟩
  · rw [show u.2.2.2.1 14 11 = .ref 21 from w1]
    refine RQ_n (ZY_ok P) 1 rfl trivial ?_
    refine RQ_S vJ7_fill_d0a16 (y_fillL21 u (Int64.ofNat 0)) rfl k4_157 rfl rfl rfl (fun _ s1 q => by show 3 * s1.2.2.2.2.1 + 99 = 3 * u.2.2.2.2.1 + 99; rw [q.2.2.2.2.2]) ?_
    rintro r1 x1 ⟨rfl, f1, f2⟩
    refine RQ_n (ZY_ok P) 2 rfl trivial ?_
    rw [show x1.2.2.2.1 14 11 = .ref 21 by rw [f2.2.2.2]; exact w1]
    refine RQ_n (ZY_ok P) 5 rfl ⟨nI_in (c := 0) (by omega) (by omega), trivial⟩ ?_
    refine p17 _ (Or.inl ⟨?_, ?_, fun c hc => ?_⟩) (f2.w1.tr (frLo.w1 ⟨rfl, rfl, fun b hb => updL_ne hb, rfl⟩))
    · show x1.2.2.2.1 14 11 = _
      rw [f2.2.2.2]; exact w1
    · show x1.2.2.2.1 14 12 = _
      rw [f2.2.2.2]; exact w2
    · show vp_updL (x1.2.2.1 21) 0 (Int64.ofNat 1) c = nL (zun0 c)
      unfold zun0
      by_cases e : c = 0
      · rw [e, updl_at]; rfl
      · rw [updl_ne e, f1 c hc, if_neg e]; rfl
  · rw [show u.2.2.2.1 14 11 = .ref 22 from w1]
    refine RQ_n (ZY_ok P) 1 rfl trivial ?_
    refine RQ_S vJ7_fill_d0a16 (y_fillL22 u (Int64.ofNat 0)) rfl k4_157 rfl rfl rfl (fun _ s1 q => by show 3 * s1.2.2.2.2.1 + 99 = 3 * u.2.2.2.2.1 + 99; rw [q.2.2.2.2.2]) ?_
    rintro r1 x1 ⟨rfl, f1, f2⟩
    refine RQ_n (ZY_ok P) 2 rfl trivial ?_
    rw [show x1.2.2.2.1 14 11 = .ref 22 by rw [f2.2.2.2]; exact w1]
    refine RQ_n (ZY_ok P) 5 rfl ⟨nI_in (c := 0) (by omega) (by omega), trivial⟩ ?_
    refine p17 _ (Or.inr ⟨?_, ?_, fun c hc => ?_⟩) (f2.w2.tr (frLo.w2 ⟨rfl, rfl, fun b hb => updL_ne hb, rfl⟩))
    · show x1.2.2.2.1 14 11 = _
      rw [f2.2.2.2]; exact w1
    · show x1.2.2.2.1 14 12 = _
      rw [f2.2.2.2]; exact w2
    · show vp_updL (x1.2.2.1 22) 0 (Int64.ofNat 1) c = nL (zun0 c)
      unfold zun0
      by_cases e : c = 0
      · rw [e, updl_at]; rfl
      · rw [updl_ne e, f1 c hc, if_neg e]; rfl
end CntX
