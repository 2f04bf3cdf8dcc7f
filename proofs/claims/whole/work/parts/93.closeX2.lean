/-! The class: a state's closure by names. -/
def clJ (G : ZGT) (E : Int32) (F k : Nat → Int32) (sl : Nat) (u v : SX) : Prop :=
  (frX [] [39] u v ∧ ∀ j, (j < 6 * sl ∨ 6 * sl + 6 ≤ j) → v.2.1 39 j = u.2.1 39 j) ∧ ∀ O', zcO G E F k O' → ∀ n, n < 6 → bsub (yO sl v n) (O' n)
/-- the items of the kernel are taken in -/
def clK (G : ZGT) (E : Int32) (F k O : Nat → Int32) (it : Nat → Nat) (a : Nat) : Prop := ∀ b, b < a → it b % 6 < zgn G (it b / 6) → 8 ≤ zgt G (it b / 6) (it b % 6) → bsub (zLB G E F (it b / 6) (it b % 6 + 1) (k (it b))) (O (zgt G (it b / 6) (it b % 6) - 8))
theorem clK_up {G : ZGT} (hG : GW G) {E : Int32} {F k O O' : Nat → Int32} {it : Nat → Nat} {a : Nat} (hr : ∀ b, b < a → it b / 6 ≤ zgR G) (h : clK G E F k O it a) (hO : ∀ n, n < 6 → bsub (O n) (O' n)) : clK G E F k O' it a := fun b hb h1 h2 => by
  have := hG.t (hr b hb) h1
  exact bsub_tr (h b hb h1 h2) (hO _ (by omega))
set_option maxHeartbeats 2000000 in
theorem y_close {P : YP} {G : ZGT} {E : Int32} {F : Nat → Int32} {u : SX} (h : ZGX G u) (hF : FE G E F u) (h5 : ∀ n, n < 6 → bsub (F n) 511) {sl c : Nat} {k : Nat → Int32} (hs : sl < 200) (hrow : u.2.2.2.2.2 37 sl = some c) (hc : isKc c u.2.2.2.2.1) (hc99 : 99 ≤ c) (hk : KX k c u) (hh : zhi G k) :
    EvQ (ZY P) mX1_close [.ref 36, .int (nI sl)] u (fun x v => x = none ∧ zlO G E F k (yO sl v) ∧ (∀ j, (j < 6 * sl ∨ 6 * sl + 6 ≤ j) → v.2.1 39 j = u.2.1 39 j) ∧ frX [] [39] u v) := by
  have hb := h.b
  obtain ⟨m, it, hz, hm81, hsz, hit⟩ := hk
  have hr : ∀ b, b < m → it b / 6 ≤ zgR G := fun b hb => by
    obtain ⟨h1, h2⟩ := hz.2.1 b hb
    have : ¬ 6 * (zgR G + 1) ≤ it b := fun y => h2 (hh _ h1 y)
    omega
  have hlt := isK_lt hc
  refine EQ_V vX1_close rfl ?_
  refine RQ_n (ZY_ok P) 3 rfl trivial ?_
  rw [nI_mul6r]
  refine RQ_n (ZY_ok P) 8 rfl trivial ?_
  have e66 : nI (6 * sl) + 6 = nI (6 * sl + 6) := nI_add _ 6
  rw [e66]
  refine RQ_s vJ7_fill_fda19 (y_fillR u 39 1200 (6 * sl) (6 * sl + 6) 0 (by omega) (by omega) (by omega) (by omega) (fun _ _ => rfl)) rfl k1_72 rfl rfl rfl rfl ?_
  obtain ⟨u1, hu1⟩ : ∃ w : SX, w = (u.1, setA u.2.1 39 (fil (u.2.1 39) (6 * sl) (6 * sl + 6) 0), u.2.2) := ⟨_, rfl⟩
  rw [← hu1]
  have f1 : frX [] [39] u u1 := by rw [hu1]; exact frX.s 39 (by decide)
  have h39 : u1.2.1 39 = fil (u.2.1 39) (6 * sl) (6 * sl + 6) 0 := by rw [hu1]; rfl
  have hO1 : ∀ n, n < 6 → yO sl u1 n = 0 := fun n hn => by
    show u1.2.1 39 (6 * sl + n) = 0
    rw [h39]; exact fil_in (by omega) (by omega)
  have ho1 : ∀ j, (j < 6 * sl ∨ 6 * sl + 6 ≤ j) → u1.2.1 39 j = u.2.1 39 j := fun j hj => by rw [h39]; exact fil_out hj
  have e22 : ∀ v : SX, frX [] [39] u v → v.2.2 = u.2.2 := fun v hv => hv.2.2
  refine RQ_n (ZY_ok P) 2 rfl trivial ?_
  refine RQ_v vX1_kernelIn (y_kernelIn (c := c) hs (by rw [f1.2.2]; exact hrow)) rfl k1_64 rfl rfl rfl (zy36 u1 rfl) rfl ?_
  -- the rules' own turns
  have second : ∀ v : SX, clJ G E F k sl u v → clK G E F k (yO sl v) it m → RnQ (ZY P) mX1_close (75, [some (.ref 36), some (.int (nI sl)), some (.int (nI (6 * sl))), none, none, none, none, none], [], v) (fun x v => x = none ∧ zlO G E F k (yO sl v) ∧ (∀ j, (j < 6 * sl ∨ 6 * sl + 6 ≤ j) → v.2.1 39 j = u.2.1 39 j) ∧ frX [] [39] u v) := by
    intro v hv hvK
    refine RQ_n (ZY_ok P) 4 rfl trivial ?_
    refine loopD (fun (x : Nat × Bool) => [some (.ref 36), some (.int (nI sl)), some (.int (nI (6 * sl))), none, some (.int (bI x.2)), some (.int (nI x.1)), none, none]) (fun q x v => q + x.1 = 300 ∧ x.1 ≤ 200 ∧ clJ G E F k sl u v ∧ clK G E F k (yO sl v) it m ∧ (x.2 = true → x.1 ≤ ct6 (yO sl v)) ∧ (x.2 = false → ∀ r, r < zgR G → zgi G r = true → yO sl v (zgl G r) ≠ 0 → 0 < zgn G r → 8 ≤ zgt G r 0 → bsub (zLB G E F r 1 (yO sl v (zgl G r))) (yO sl v (zgt G r 0 - 8)))) ?_ 300 (0, true) v ⟨rfl, Nat.zero_le _, hv, hvK, fun _ => Nat.zero_le _, fun z => by cases z⟩
    intro q x v hJ ih
    obtain ⟨t, more⟩ := x
    obtain ⟨hq, ht2, ⟨⟨c1, c2⟩, c3⟩, c4, c5, c6⟩ := hJ
    dsimp only at hq ht2 c5 c6 ⊢
    have h192 := ct6_le (yO sl v)
    refine RQ_n (ZY_ok P) 1 rfl trivial ?_
    refine RQ_b rfl (fun z => ?_) (fun z => ?_)
    · have z := bI_0.mp z
      refine RQ_to (Rn_vret rfl rfl) ⟨rfl, ⟨⟨fun r hr' d hd h8 hne => ?_, c6 z⟩, c3⟩, c2, c1⟩
      have hn := h.1.n hr'
      obtain ⟨b, hb', e⟩ := hz.2.2 (6 * r + d) (by omega) hne
      have := c4 b hb'
      rw [e, show (6 * r + d) / 6 = r by omega, show (6 * r + d) % 6 = d by omega] at this
      exact this hd h8
    have z := bI_t z
    have ht := c5 z
    refine RQ_n (ZY_ok P) 2 rfl trivial ?_
    refine RQ_b rfl (fun z2 => ?_) (fun z2 => ?_)
    · have z2 := (zq_le (a := 1000000) (b := t) rfl rfl (by omega) (by omega)).mp z2
      omega
    refine RQ_n (ZY_ok P) 4 rfl trivial ?_
    obtain ⟨O0, hO0⟩ : ∃ O0, O0 = yO sl v := ⟨_, rfl⟩
    refine loopU (zgR G) (fun r (x : Bool) => [some (.ref 36), some (.int (nI sl)), some (.int (nI (6 * sl))), none, some (.int (bI x)), some (.int (nI t)), some (.int (nI r)), none]) (fun r x w => clJ G E F k sl u w ∧ clK G E F k (yO sl w) it m ∧ (∀ n, n < 6 → bsub (O0 n) (yO sl w n)) ∧ (x = true → ∃ n, n < 6 ∧ O0 n ≠ yO sl w n) ∧ (x = false → (∀ n, yO sl w n = O0 n) ∧ ∀ r', r' < r → zgi G r' = true → O0 (zgl G r') ≠ 0 → 0 < zgn G r' → 8 ≤ zgt G r' 0 → bsub (zLB G E F r' 1 (O0 (zgl G r'))) (O0 (zgt G r' 0 - 8)))) ?_ 0 false v (by omega) ⟨⟨⟨c1, c2⟩, c3⟩, c4, fun n _ => (by rw [hO0]; exact bsub_rf), fun z => (by cases z), fun _ => ⟨fun n => (by rw [hO0]), fun r' hr' => (by omega)⟩⟩
    intro r x w hr' hJ2 ih2
    obtain ⟨⟨⟨d1, d2⟩, d3⟩, d4, d5, d6, d7⟩ := hJ2
    have hw : ZGX G w := h.fr d1 (by decide)
    have hwF : FE G E F w := hF.fr d1 (by decide) (by decide) (by decide)
    refine RQ_n (ZY_ok P) 4 rfl trivial ?_
    refine RQ_b rfl (fun z3 => ?_) (fun z3 => ?_)
    · have z3 := (zq_le hw.R rfl (by omega) (by omega)).mp z3
      have : r = zgR G := by omega
      subst this
      refine RQ_n (ZY_ok P) 2 rfl trivial ?_
      cases x with
      | true =>
        obtain ⟨n, hn, hne⟩ := d6 rfl
        have hlt := ct6_lt d5 hn hne
        rw [hO0] at hlt
        exact ih (q - 1) (t + 1, true) _ _ (by omega) ⟨rfl, rfl, rfl, rfl, nIs t, trivial⟩ ⟨by dsimp only; omega, by dsimp only; omega, ⟨⟨d1, d2⟩, d3⟩, d4, fun _ => (by dsimp only; omega), fun z => by cases z⟩
      | false =>
        obtain ⟨e1, e2⟩ := d7 rfl
        refine ih (q - 1) (t + 1, false) _ _ (by omega) ⟨rfl, rfl, rfl, rfl, nIs t, trivial⟩ ⟨by dsimp only; omega, by dsimp only; omega, ⟨⟨d1, d2⟩, d3⟩, d4, fun z => (by cases z), fun _ r' hr2 a1 a2 a3 a4 => ?_⟩
        rw [e1] at a2 ⊢
        rw [e1]
        exact e2 r' hr2 a1 a2 a3 a4
    have z3 := (not_congr (zq_le hw.R rfl (by omega) (by omega))).mp z3
    have hrR : r < zgR G := by omega
    have hl6 := h.1.l hrR
    refine RQ_n (ZY_ok P) 3 rfl trivial ?_
    refine RQ_v vX1_openLookIn (y_openLookIn hw hs (by omega)) rfl k1_108 rfl rfl rfl (zy36 w rfl) rfl ?_
    -- nothing comes of it
    have pass : ∀ (x' : Bool) (o : Option Value) (w' : SX), clJ G E F k sl u w' → clK G E F k (yO sl w') it m → (∀ n, n < 6 → bsub (O0 n) (yO sl w' n)) → (x' = true → ∃ n, n < 6 ∧ O0 n ≠ yO sl w' n) → (x' = false → x = false ∧ (∀ n, yO sl w' n = O0 n) ∧ (zgi G r = true → O0 (zgl G r) ≠ 0 → 0 < zgn G r → 8 ≤ zgt G r 0 → bsub (zLB G E F r 1 (O0 (zgl G r))) (O0 (zgt G r 0 - 8)))) → RnQ (ZY P) mX1_close (141, [some (.ref 36), some (.int (nI sl)), some (.int (nI (6 * sl))), none, some (.int (bI x')), some (.int (nI t)), some (.int (nI r)), o], [], w') (fun x v => x = none ∧ zlO G E F k (yO sl v) ∧ (∀ j, (j < 6 * sl ∨ 6 * sl + 6 ≤ j) → v.2.1 39 j = u.2.1 39 j) ∧ frX [] [39] u v) := by
      intro x' o w' a1 a2 a3 a4 a5
      refine RQ_n (ZY_ok P) 2 rfl trivial ?_
      refine ih2 hrR x' _ _ ⟨rfl, rfl, rfl, rfl, rfl, nIs r, trivial⟩ ⟨a1, a2, a3, a4, fun z => ?_⟩
      obtain ⟨b1', b2, b3⟩ := a5 z
      refine ⟨b2, fun r' hr2 => ?_⟩
      by_cases y : r' = r
      · subst y; exact b3
      · exact (d7 b1').2 r' (by omega)
    refine RQ_n (ZY_ok P) 2 rfl trivial ?_
    refine RQ_b rfl (fun z4 => ?_) (fun z4 => ?_)
    · have z4 : zol G (yO sl w) r = 0 := z4
      refine pass x _ w ⟨⟨d1, d2⟩, d3⟩ d4 d5 d6 (fun z => ⟨z, (d7 z).1, fun a1 a2 => ?_⟩)
      rw [zol, if_pos ⟨hrR, a1⟩, (d7 z).1] at z4
      exact absurd z4 a2
    have z4 : ¬ zol G (yO sl w) r = 0 := z4
    have hin : zgi G r = true := Classical.byContradiction fun y => z4 (by rw [zol, if_neg (fun w => y w.2)])
    have ezol : zol G (yO sl w) r = yO sl w (zgl G r) := by rw [zol, if_pos ⟨hrR, hin⟩]
    rw [ezol] at z4 ⊢
    refine RQ_n (ZY_ok P) 5 rfl trivial ?_
    refine RQ_V vX1_open (y_open hw hwF h5 (d := 0) (x := yO sl w (zgl G r)) hs (by omega) (by omega)) rfl k1_98 rfl rfl rfl (zy36 w rfl) (fun r1 s1 h => by obtain ⟨b, -, h, -⟩ := h; exact h.1.n) (fun r1 w1 h1 => ?_)
    obtain ⟨b, rfl, ⟨p1, p2⟩, p3, p4, p5, p6, p7⟩ := h1
    have q1 : clJ G E F k sl u w1 := by
      refine ⟨⟨d1.tr p1, fun j hj => by rw [p2 j hj]; exact d2 j hj⟩, fun O' hO' n hn => ?_⟩
      by_cases y : yO sl w1 n = yO sl w n
      · rw [y]; exact d3 O' hO' n hn
      · obtain ⟨y1, y2, y3⟩ := p4 n hn y
        rw [y3]
        refine bsub_or (d3 O' hO' n hn) ?_
        have hl := d3 O' hO' _ hl6
        have := hO'.2 r hrR hin (bsub_ne hl z4) y1 (by omega)
        rw [y2, Nat.add_sub_cancel_left] at this
        exact bsub_tr (zLB_mo hl) this
    have q2 : clK G E F k (yO sl w1) it m := clK_up h.1 hr d4 p3
    have q3 : ∀ n, n < 6 → bsub (O0 n) (yO sl w1 n) := fun n hn => bsub_tr (d5 n hn) (p3 n hn)
    refine RQ_b rfl (fun z5 => ?_) (fun z5 => ?_)
    · have z5 := bI_0.mp z5
      have e9 : ∀ n, yO sl w1 n = yO sl w n := fun n => p7 z5 _
      refine pass x _ w1 q1 q2 q3 (fun z => ?_) (fun z => ⟨z, fun n => by rw [e9]; exact (d7 z).1 n, fun a1 a2 a3 a4 => ?_⟩)
      · obtain ⟨n, hn, hne⟩ := d6 z; exact ⟨n, hn, by rw [e9]; exact hne⟩
      · have := p5 a3 a4
        rw [e9, (d7 z).1, (d7 z).1] at this
        exact this
    · have z5 := bI_t z5
      refine RQ_n (ZY_ok P) 2 rfl trivial ?_
      refine pass true _ w1 q1 q2 q3 (fun _ => ?_) (fun z => by cases z)
      obtain ⟨n, hn, hne⟩ := p6 z5
      refine ⟨n, hn, fun y => hne (bsub_an ?_ (p3 n hn))⟩
      rw [← y]; exact d5 n hn
  -- the kernel's items
  refine RQ_n (ZY_ok P) 3 rfl trivial ?_
  refine loopU m (fun a (_ : Unit) => [some (.ref 36), some (.int (nI sl)), some (.int (nI (6 * sl))), some (.ref c), some (.int (nI a)), none, none, none]) (fun a _ v => clJ G E F k sl u v ∧ clK G E F k (yO sl v) it a) ?_ 0 () u1 (by omega) ⟨⟨⟨f1, ho1⟩, fun O' _ n hn => (by rw [hO1 n hn]; exact bsub_0)⟩, fun b hb => (by omega)⟩
  intro a _ v ha hJ ih
  obtain ⟨⟨⟨c1, c2⟩, c3⟩, c4⟩ := hJ
  have hv : ZGX G v := h.fr c1 (by decide)
  have hvF : FE G E F v := hF.fr c1 (by decide) (by decide) (by decide)
  have hn : v.2.2.2.2.1 = u.2.2.2.2.1 := by rw [c1.2.2]
  have hcv : isKc c v.2.2.2.2.1 := by rw [hn]; exact hc
  obtain ⟨l0, l1, l2⟩ := isK_cell (P := P) (s := v) hcv
  have hlv : c + 2 < 3 * v.2.2.2.2.1 + 99 := by rw [hn]; exact hlt
  have hl0 : c < (ZY P).2.1 v := by show c < 3 * v.2.2.2.2.1 + 99; omega
  have hl1 : c + 1 < (ZY P).2.1 v := by show c + 1 < 3 * v.2.2.2.2.1 + 99; omega
  have hl2 : c + 2 < (ZY P).2.1 v := by show c + 2 < 3 * v.2.2.2.2.1 + 99; omega
  have esz : v.1 c 0 = nI m := by rw [c1.1 c 0 (by simp)]; exact hsz
  have ea1 : v.2.1 (c + 1) = u.2.1 (c + 1) := c1.2.1 _ (by simp; omega)
  have ea2 : v.2.1 (c + 2) = u.2.1 (c + 2) := c1.2.1 _ (by simp; omega)
  refine RQ_n (ZY_ok P) 2 rfl trivial ?_
  refine RQ_gf (ZY_ok P) rfl rfl l0 hl0 rfl ?_
  refine RQ_b rfl (fun z => ?_) (fun z => ?_)
  · have z := (zq_le esz rfl (by omega) (by omega)).mp z
    have : a = m := by omega
    subst this
    exact RQ_le (l' := [some (.ref 36), some (.int (nI sl)), some (.int (nI (6 * sl))), none, none, none, none, none]) ⟨rfl, rfl, rfl, trivial⟩ (second v ⟨⟨c1, c2⟩, c3⟩ c4)
  have z := (not_congr (zq_le esz rfl (by omega) (by omega))).mp z
  have ham : a < m := by omega
  obtain ⟨t1, t2⟩ := hit a ham
  obtain ⟨s1, s2⟩ := hz.2.1 a ham
  have hra := hr a ham
  have hain : vp_in (nI a) 81 := nI_in (by omega) (by omega)
  have hac : (nI a).toNatClampNeg = a := nI_clamp (by omega)
  have v1 : v.2.1 (c + 1) (nI a).toNatClampNeg = nI (it a) := by rw [hac, ea1]; exact t1
  have v2 : v.2.1 (c + 2) (nI a).toNatClampNeg = k (it a) := by rw [hac, ea2]; exact t2
  have ed : nI (it a) / 6 = nI (it a / 6) := pk_div (d := 6) (by omega) (by omega) (by omega)
  have em : nI (it a) - nI (it a) / 6 * 6 = nI (it a % 6) := nI_rem (d := 6) (by omega) (by omega) (by omega)
  refine RQ_n (ZY_ok P) 3 rfl trivial ?_
  refine RQ_gf (ZY_ok P) rfl rfl l0 hl0 rfl ?_
  refine RQ_n (ZY_ok P) 1 rfl trivial ?_
  refine RQ_ia (ZY_ok P) rfl l1 hl1 hain ?_
  rw [v1]
  refine RQ_n (ZY_ok P) 3 rfl ⟨by decide, trivial⟩ ?_
  rw [ed]
  refine RQ_gf (ZY_ok P) rfl rfl l0 hl0 rfl ?_
  refine RQ_n (ZY_ok P) 1 rfl trivial ?_
  refine RQ_ia (ZY_ok P) rfl l1 hl1 hain ?_
  rw [v1]
  refine RQ_n (ZY_ok P) 3 rfl ⟨by decide, trivial⟩ ?_
  rw [em]
  refine RQ_gf (ZY_ok P) rfl rfl l0 hl0 rfl ?_
  refine RQ_n (ZY_ok P) 1 rfl trivial ?_
  refine RQ_ia (ZY_ok P) rfl l2 hl2 hain ?_
  rw [v2]
  refine RQ_V vX1_open (y_open hv hvF h5 (d := it a % 6) (x := k (it a)) hs hra (by omega)) rfl k1_98 rfl rfl rfl (zy36 v rfl) (fun r1 s1 h => by obtain ⟨b, -, h, -⟩ := h; exact h.1.n) (fun r1 w h1 => ?_)
  obtain ⟨b, rfl, ⟨p1, p2⟩, p3, p4, p5, p6, p7⟩ := h1
  refine RQ_n (ZY_ok P) 3 rfl trivial ?_
  have e6 : 6 * (it a / 6) + it a % 6 = it a := by omega
  refine ih ham () _ _ ⟨rfl, rfl, rfl, rfl, nIs a, trivial⟩ ⟨⟨⟨c1.tr p1, fun j hj => by rw [p2 j hj]; exact c2 j hj⟩, fun O' hO' n hn => ?_⟩, fun b' hb' h1 h2 => ?_⟩
  · by_cases y : yO sl w n = yO sl v n
    · rw [y]; exact c3 O' hO' n hn
    · obtain ⟨y1, y2, y3⟩ := p4 n hn y
      rw [y3]
      refine bsub_or (c3 O' hO' n hn) ?_
      have := hO'.1 (it a / 6) hra (it a % 6) y1 (by omega) (by rw [e6]; exact s2)
      rw [y2, Nat.add_sub_cancel_left, e6] at this
      exact this
  · by_cases y : b' = a
    · subst y; exact p5 h1 h2
    · have ht := h.1.t (hr b' (by omega)) h1
      exact bsub_tr (c4 b' (by omega) h1 h2) (p3 _ (by omega))
