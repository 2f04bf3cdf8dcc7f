/-! The class: findNext. -/
/-- next as far as T -/
def zNT (N : Nat → Int32) (T i : Nat) : Int32 := if i ≤ T then N i else 0
set_option maxHeartbeats 2000000 in
/-- findNext: the kernel behind a letter, out of now (28) and the closure by names -/
theorem y_findNext {P : YP} {G : ZGT} {u : SX} (h : ZGX G u) {sl b : Nat} {k : Nat → Int32} (hs : sl < 200) (hb14 : b < 14) (hk : KX k 28 u) (h0 : zk0 G k) (hh : zhi G k) : EvQ (ZY P) mX2_findNext [.ref 25, .ref 36, .int (nI sl), .int (nI b)] u (fun x v => x = none ∧ KX (zNX G (zCM G k (yO sl u)) b) 31 v ∧ frX [(31, 0)] [32, 33] u v) := by
  have hb := h.b
  obtain ⟨m, it, hz, hm81, hsz, hit⟩ := hk
  obtain ⟨O, hO⟩ : ∃ O, O = yO sl u := ⟨_, rfl⟩
  obtain ⟨N, hN⟩ : ∃ N, N = zNX G (zCM G k O) b := ⟨_, rfl⟩
  rw [← hO, ← hN]
  have hNne : ∀ i, N i ≠ 0 → i % 6 ≠ 0 ∧ 0 < i ∧ (i - 1) / 6 ≤ zgR G ∧ (i - 1) % 6 < zgn G ((i - 1) / 6) ∧ zgt G ((i - 1) / 6) ((i - 1) % 6) = b ∧ zCM G k O (i - 1) ≠ 0 := fun i hi => by rw [hN] at hi; exact zNX_ne h.1 hi
  have hNs : ∀ r d, r ≤ zgR G → d < zgn G r → zgt G r d = b → N (6 * r + d + 1) = zCM G k O (6 * r + d) := fun r d hr hd ht => by rw [hN]; exact zNX_s hr hd (h.1.n hr) ht
  -- beyond T what is told comes from the kernel
  have hker : ∀ r T i, (r < zgR G → 6 * r + 1 ≤ T) → 6 * r ≤ T → r ≤ zgR G → T < i → i ≤ 6 * (r + 1) → N i ≠ 0 → k (i - 1) ≠ 0 := by
    intro r T i hT1 hT2 hr h1 h2 hne
    obtain ⟨a1, a2, a3, a4, a5, a6⟩ := hNne i hne
    intro y
    apply a6
    by_cases z : (i - 1) % 6 = 0
    · have e : i - 1 = 6 * r := by
        by_cases w : r < zgR G
        · have := hT1 w; omega
        · omega
      have hrr : ¬ r < zgR G := fun w => by have := hT1 w; omega
      rw [e, zCM_o (fun w => hrr w.1), ← e]; exact y
    · have e : i - 1 = 6 * ((i - 1) / 6) + (i - 1) % 6 := by omega
      rw [e, zCM_d (by omega) (by omega), ← e]; exact y
  refine EQ_V vX2_findNext rfl ?_
  refine RQ_n (ZY_ok P) 8 rfl trivial ?_
  obtain ⟨u1, hu1⟩ : ∃ w : SX, w = (updI u.1 31 0 0, u.2) := ⟨_, rfl⟩
  have f1 : frX [(31, 0)] [32, 33] u u1 := by rw [hu1]; exact frX.i 31 0 (by decide)
  have e31 : u1.1 31 0 = 0 := by rw [hu1]; rfl
  show RnQ (ZY P) mX2_findNext (14, [some (.ref 25), some (.ref 36), some (.int (nI sl)), some (.int (nI b)), some (.int 0), some (.int 0), none], [], (updI u.1 31 0 0, u.2)) _
  rw [← hu1]
  refine loopU (zgR G + 1) (fun r (a : Nat) => [some (.ref 25), some (.ref 36), some (.int (nI sl)), some (.int (nI b)), some (.int (nI a)), some (.int (nI r)), none]) (fun r a w => frX [(31, 0)] [32, 33] u w ∧ KX (zNT N (6 * r)) 31 w ∧ a ≤ m ∧ (∀ x, x < a → it x < 6 * r) ∧ ∀ x, a ≤ x → x < m → 6 * r ≤ it x) ?_ 0 0 u1 (by omega) ⟨f1, ⟨0, fun _ => 0, ⟨fun _ _ _ hb => (by omega), fun _ ha => (by omega), fun i _ hne => ?_⟩, by omega, e31, fun _ hb => (by omega)⟩, Nat.zero_le _, fun x hx => (by omega), fun x _ hx => (by omega)⟩
  rotate_left
  · exfalso
    unfold zNT at hne
    by_cases y : i ≤ 6 * 0
    · rw [if_pos y] at hne
      have := (hNne i hne).2.1
      omega
    · rw [if_neg y] at hne; exact hne rfl
  intro r a w hr hJ ih
  obtain ⟨g1, g2, g3, g4, g5⟩ := hJ
  have hw : ZGX G w := h.fr g1 (by decide)
  have eO : yO sl w = O := by
    rw [hO]
    funext n
    show w.2.1 39 _ = u.2.1 39 _
    rw [g1.2.1 39 (by decide)]
  refine RQ_n (ZY_ok P) 4 rfl trivial ?_
  refine RQ_b rfl (fun z => ?_) (fun z => ?_)
  · have z := (zq_lt hw.R rfl (by omega) (by omega)).mp z
    have : r = zgR G + 1 := by omega
    subst this
    refine RQ_to (Rn_vret rfl rfl) ⟨rfl, g2.cg (fun i hi => ?_), g1⟩
    unfold zNT
    by_cases y : i ≤ 6 * (zgR G + 1)
    · rw [if_pos y]
    · rw [if_neg y, hN, zNX_hi h.1 (by omega)]
  have z := (not_congr (zq_lt hw.R rfl (by omega) (by omega))).mp z
  have hrR : r ≤ zgR G := by omega
  have hn5 := h.1.n hrR
  refine RQ_n (ZY_ok P) 3 rfl trivial ?_
  have hol := y_openLookIn (P := P) hw hs hrR
  rw [eO] at hol
  refine RQ_v vX1_openLookIn hol rfl k2_110 rfl rfl rfl (zy36 w rfl) rfl ?_
  obtain ⟨y, hy⟩ : ∃ y, y = zol G O r := ⟨_, rfl⟩
  rw [← hy]
  refine RQ_n (ZY_ok P) 2 rfl trivial ?_
  have hC0 : r < zgR G → zCM G k O (6 * r) = y := by
    intro hr2
    rw [hy, zol]
    by_cases hi : zgi G r = true
    · rw [if_pos ⟨hr2, hi⟩, zCM_q hr2 hi, h0 r hr2, or_cm, or_0]
    · rw [if_neg (fun w => hi w.2), zCM_o (fun w => hi w.2), h0 r hr2]
  have hy0 : ¬ r < zgR G → y = 0 := fun w => by rw [hy, zol, if_neg (fun z => w z.1)]
  -- an item more, or none: next is told up to it
  have puts : ∀ (T d : Nat) (x : Int32) (w : SX), d < zgn G r → zgt G r d = b → zCM G k O (6 * r + d) = x → x ≠ 0 → T ≤ 6 * r + d → (∀ i, T < i → i ≤ 6 * r + d → N i = 0) → KX (zNT N T) 31 w → EvQ (ZY P) mX7_put [.ref 31, .int (nI (6 * r + d + 1)), .int x] w (fun res w' => res = none ∧ KX (zNT N (6 * r + d + 1)) 31 w' ∧ frX [(31, 0)] [32, 33] w w') := by
    intro T d x w hd ht hx hx0 hT hgap hK
    obtain ⟨p1, p2, p3⟩ := phi80 h.1 hrR hd
    have hlt : ∀ j, zNT N T j ≠ 0 → j % 6 ≠ 0 ∧ j < 6 * r + d + 1 := by
      intro j hj
      unfold zNT at hj
      by_cases w : j ≤ T
      · rw [if_pos w] at hj; exact ⟨(hNne j hj).1, by omega⟩
      · rw [if_neg w] at hj; exact absurd rfl hj
    refine EQ_mono (y_put hK (fun m' it' hz' => zen_80 hz' (fun a ha => hlt _ (hz'.2.1 a ha).2) p1 p2) p3 (fun j _ hj => (hlt j hj).2) hx0) (fun res w' hq => ⟨hq.1, hq.2.1.cg (fun i hi => ?_), hq.2.2⟩)
    unfold zNT
    by_cases e : i = 6 * r + d + 1
    · subst e; rw [upd_at, if_pos (Nat.le_refl _), hNs r d hrR hd ht, hx]
    · rw [upd_ne e]
      by_cases e2 : i ≤ T
      · rw [if_pos e2, if_pos (by omega)]
      · rw [if_neg e2]
        by_cases e3 : i ≤ 6 * r + d + 1
        · rw [if_pos e3, hgap i (by omega) (by omega)]
        · rw [if_neg e3]
  -- the kernel's items of this rule
  have inner : ∀ (T : Nat) (w : SX), frX [(31, 0)] [32, 33] u w → KX (zNT N T) 31 w → (r < zgR G → 6 * r + 1 ≤ T) → 6 * r ≤ T → T ≤ 6 * (r + 1) → (∀ x, a ≤ x → x < m → T ≤ it x) → RnQ (ZY P) mX2_findNext (70, [some (.ref 25), some (.ref 36), some (.int (nI sl)), some (.int (nI b)), some (.int (nI a)), some (.int (nI r)), some (.int y)], [], w) (fun x v => x = none ∧ KX N 31 v ∧ frX [(31, 0)] [32, 33] u v) := by
    intro T w f2 hK2 hT1 hT2 hT3 hT4
    have key := loopU (Z := ZY P) (M := mX2_findNext) (pc := 70) (Q := fun x v => x = none ∧ KX N 31 v ∧ frX [(31, 0)] [32, 33] u v) (m - a) (fun e (_ : Nat) => [some (.ref 25), some (.ref 36), some (.int (nI sl)), some (.int (nI b)), some (.int (nI (a + e))), some (.int (nI r)), some (.int y)]) (fun e T w => frX [(31, 0)] [32, 33] u w ∧ KX (zNT N T) 31 w ∧ (r < zgR G → 6 * r + 1 ≤ T) ∧ 6 * r ≤ T ∧ T ≤ 6 * (r + 1) ∧ (∀ x, x < a + e → it x < T) ∧ ∀ x, a + e ≤ x → x < m → T ≤ it x) ?_ 0 T w (by omega) ⟨f2, hK2, hT1, hT2, hT3, fun x hx => (by have := g4 x hx; omega), hT4⟩
    · exact key
    intro e T w he hJ2 ih2
    obtain ⟨c1, c2, c3, c4, c5, c6, c7⟩ := hJ2
    have hwX : ZGX G w := h.fr c1 (by decide)
    obtain ⟨x, hx⟩ : ∃ x, x = a + e := ⟨_, rfl⟩
    rw [← hx] at c6 c7 ⊢
    have e28 : w.1 28 0 = nI m := by rw [c1.1 28 0 (by decide)]; exact hsz
    have e29 : w.2.1 29 = u.2.1 29 := c1.2.1 29 (by decide)
    have e30 : w.2.1 30 = u.2.1 30 := c1.2.1 30 (by decide)
    -- nothing is told between T and the next item
    have gap : ∀ i lim, i < 102 → T < i → i ≤ 6 * (r + 1) → i ≤ lim → (∀ x', x ≤ x' → x' < m → lim ≤ it x') → N i = 0 := by
      intro i lim hi h1 h2 h3 hlim
      apply Classical.byContradiction
      intro hne
      have hk0 := hker r T i c3 c4 hrR h1 h2 hne
      obtain ⟨x', hx1, hx2⟩ := hz.2.2 (i - 1) (by omega) hk0
      by_cases hxx : x' < x
      · have := c6 x' hxx; omega
      · have := hlim x' (by omega) hx1; omega
    have out : (∀ x', x ≤ x' → x' < m → 6 * (r + 1) ≤ it x') → RnQ (ZY P) mX2_findNext (161, [some (.ref 25), some (.ref 36), some (.int (nI sl)), some (.int (nI b)), some (.int (nI x)), some (.int (nI r)), some (.int y)], [], w) (fun x v => x = none ∧ KX N 31 v ∧ frX [(31, 0)] [32, 33] u v) := by
      intro ho
      refine RQ_n (ZY_ok P) 2 rfl trivial ?_
      refine ih (by omega) x _ _ ⟨rfl, rfl, rfl, rfl, rfl, nIs r, trivial⟩ ⟨c1, c2.cg (fun i hi => ?_), by omega, fun x' hx' => (by have := c6 x' hx'; omega), ho⟩
      unfold zNT
      by_cases y1 : i ≤ T
      · rw [if_pos y1, if_pos (by omega)]
      · rw [if_neg y1]
        by_cases y2 : i ≤ 6 * (r + 1)
        · rw [if_pos y2, gap i (6 * (r + 1)) hi (by omega) y2 y2 ho]
        · rw [if_neg y2]
    refine RQ_n (ZY_ok P) 4 rfl trivial ?_
    refine RQ_b rfl (fun z2 => ?_) (fun z2 => ?_)
    · have z2 := (zq_le e28 rfl (by omega) (by omega)).mp z2
      exact out (fun x' h1 h2 => by omega)
    have z2 := (not_congr (zq_le e28 rfl (by omega) (by omega))).mp z2
    have hxm : x < m := by omega
    obtain ⟨t1, t2⟩ := hit x hxm
    obtain ⟨s1, s2⟩ := hz.2.1 x hxm
    have hxin : vp_in (nI x) 81 := nI_in (by omega) (by omega)
    have hxc : (nI x).toNatClampNeg = x := nI_clamp (by omega)
    have v1 : w.2.1 29 (nI x).toNatClampNeg = nI (it x) := by rw [hxc, e29]; exact t1
    have v2 : w.2.1 30 (nI x).toNatClampNeg = k (it x) := by rw [hxc, e30]; exact t2
    have ed : nI (it x) / 6 = nI (it x / 6) := pk_div (d := 6) (by omega) (by omega) (by omega)
    have em : nI (it x) - nI (it x) / 6 * 6 = nI (it x % 6) := nI_rem (d := 6) (by omega) (by omega) (by omega)
    have hTx := c7 x (Nat.le_refl _) hxm
    refine RQ_n (ZY_ok P) 5 rfl ⟨hxin, trivial⟩ ?_
    rw [v1]
    refine RQ_n (ZY_ok P) 3 rfl ⟨by decide, trivial⟩ ?_
    rw [ed]
    refine RQ_b rfl (fun z3 => ?_) (fun z3 => ?_)
    · have z3 := (not_congr (zq_eq (a := it x / 6) (b := r) rfl rfl (by omega) (by omega))).mp z3
      refine out (fun x' h1 h2 => ?_)
      have := zen_le hz h1 h2
      omega
    have z3 := (zq_eq (a := it x / 6) (b := r) rfl rfl (by omega) (by omega)).mp (Classical.not_not.mp z3)
    obtain ⟨d, hd⟩ : ∃ d, d = it x % 6 := ⟨_, rfl⟩
    have hix : it x = 6 * r + d := by omega
    have hcgap : ∀ i, T < i → i ≤ 6 * r + d → N i = 0 := fun i h1 h2 => gap i (it x) (by omega) h1 (by omega) (by omega) (fun x' h3 h4 => zen_le hz h3 h4)
    have hCk : zCM G k O (6 * r + d) = k (it x) := by
      rw [hix]
      by_cases hd0 : d = 0
      · have hrr : ¬ r < zgR G := fun w2 => by have := c3 w2; omega
        rw [hd0, Nat.add_zero, zCM_o (fun w2 => hrr w2.1)]
      · rw [zCM_d (by omega) (by omega)]
    -- on to the next item
    have next : ∀ w' : SX, frX [(31, 0)] [32, 33] u w' → KX (zNT N (6 * r + d + 1)) 31 w' → RnQ (ZY P) mX2_findNext (155, [some (.ref 25), some (.ref 36), some (.int (nI sl)), some (.int (nI b)), some (.int (nI x)), some (.int (nI r)), some (.int y)], [], w') (fun x v => x = none ∧ KX N 31 v ∧ frX [(31, 0)] [32, 33] u v) := by
      intro w' f3 hK3
      refine RQ_n (ZY_ok P) 2 rfl trivial ?_
      refine ih2 (by omega) (6 * r + d + 1) _ _ ⟨rfl, rfl, rfl, rfl, ?_, rfl, rfl, trivial⟩ ⟨f3, hK3, fun _ => (by omega), by omega, by omega, fun x' hx' => ?_, fun x' h1 h2 => ?_⟩
      · show Value.int (nI (a + (e + 1))) = Value.int (nI x + 1)
        rw [nI_1, hx]; rfl
      · by_cases q : x' = x
        · subst q; omega
        · have := c6 x' (by omega); omega
      · have := hz.1 x x' (by omega) h2; omega
    refine RQ_n (ZY_ok P) 8 rfl ⟨hxin, trivial⟩ ?_
    rw [v1]
    refine RQ_n (ZY_ok P) 2 rfl ⟨by decide, trivial⟩ ?_
    rw [em, ← hd]
    refine RQ_v vX5_letterAt (y_letterAt hwX hrR (by omega)) rfl k2_114 rfl rfl rfl (zy3 w rfl) rfl ?_
    refine RQ_n (ZY_ok P) 1 rfl trivial ?_
    by_cases hdn : d < zgn G r ∧ zgt G r d = b
    · rw [zlt_in hdn.1, hdn.2]
      refine RQ_b rfl (fun q => absurd rfl q) (fun _ => ?_)
      refine RQ_n (ZY_ok P) 7 rfl ⟨hxin, trivial⟩ ?_
      rw [v1, hix]
      refine RQ_n (ZY_ok P) 7 rfl ⟨hxin, trivial⟩ ?_
      rw [v2, nI_1]
      refine RQ_V vX7_put (puts T d (k (it x)) w hdn.1 hdn.2 hCk s2 (by omega) hcgap c2) rfl k2_66 rfl rfl rfl (zyk (Or.inr (Or.inl rfl)) rfl) (fun r1 s1 h => h.2.2.n) (fun r1 w1 h1 => ?_)
      obtain ⟨rfl, q1, q2⟩ := h1
      exact next w1 (c1.tr q2) q1
    · refine RQ_b rfl (fun _ => ?_) (fun q => ?_)
      · refine next w c1 (c2.cg (fun i hi => ?_))
        unfold zNT
        by_cases y1 : i ≤ T
        · rw [if_pos y1, if_pos (by omega)]
        · rw [if_neg y1]
          by_cases y2 : i ≤ 6 * r + d + 1
          · rw [if_pos y2]
            by_cases y3 : i = 6 * r + d + 1
            · subst y3
              refine (Classical.byContradiction fun hne => ?_ : N (6 * r + d + 1) = 0).symm
              obtain ⟨-, -, -, b4, b5, -⟩ := hNne _ hne
              rw [show 6 * r + d + 1 - 1 = 6 * r + d by omega, show (6 * r + d) / 6 = r by omega, show (6 * r + d) % 6 = d by omega] at b4 b5
              exact hdn ⟨b4, b5⟩
            · exact (hcgap i (by omega) (by omega)).symm
          · rw [if_neg y2]
      · exfalso
        have q : zlt G r d = nI b := Classical.not_not.mp q
        unfold zlt at q
        by_cases y1 : d < zgn G r
        · rw [if_pos y1] at q
          have := h.1.t hrR y1
          exact hdn ⟨y1, (nI_eq (by omega) (by omega)).mp q⟩
        · rw [if_neg y1] at q; exact nI_m1 (show b < 2 ^ 31 by omega) q.symm
  -- the rule with its dot at the beginning
  have hge : ∀ x, a ≤ x → x < m → r < zgR G → 6 * r + 1 ≤ it x := fun x h1 h2 hr2 => by
    have := g5 x h1 h2
    have hne : it x ≠ 6 * r := fun q => (hz.2.1 x h2).2 (by rw [q]; exact h0 r hr2)
    omega
  have noput : (r < zgR G → N (6 * r + 1) = 0) → RnQ (ZY P) mX2_findNext (70, [some (.ref 25), some (.ref 36), some (.int (nI sl)), some (.int (nI b)), some (.int (nI a)), some (.int (nI r)), some (.int y)], [], w) (fun x v => x = none ∧ KX N 31 v ∧ frX [(31, 0)] [32, 33] u v) := by
    intro hno
    by_cases hr2 : r < zgR G
    · refine inner (6 * r + 1) w g1 (g2.cg (fun i hi => ?_)) (fun _ => Nat.le_refl _) (by omega) (by omega) (fun x h1 h2 => hge x h1 h2 hr2)
      unfold zNT
      by_cases e : i = 6 * r + 1
      · subst e; rw [if_neg (by omega), if_pos (Nat.le_refl _), hno hr2]
      · by_cases e2 : i ≤ 6 * r
        · rw [if_pos e2, if_pos (by omega)]
        · rw [if_neg e2, if_neg (by omega)]
    · exact inner (6 * r) w g1 g2 (fun q => absurd q hr2) (Nat.le_refl _) (by omega) g5
  have hN1 : ¬ (0 < zgn G r ∧ zgt G r 0 = b ∧ zCM G k O (6 * r) ≠ 0) → N (6 * r + 1) = 0 := fun hq => Classical.byContradiction fun hne => by
    obtain ⟨-, -, -, b4, b5, b6⟩ := hNne _ hne
    rw [show 6 * r + 1 - 1 = 6 * r by omega] at b4 b5 b6
    rw [show 6 * r / 6 = r by omega, show 6 * r % 6 = 0 by omega] at b4 b5
    exact hq ⟨b4, b5, b6⟩
  refine RQ_b rfl (fun z2 => ?_) (fun z2 => ?_)
  · have z2 : y = 0 := z2
    exact noput (fun hr2 => hN1 (fun q => q.2.2 (by rw [hC0 hr2]; exact z2)))
  have z2 : ¬ y = 0 := z2
  have hr2 : r < zgR G := Classical.byContradiction fun q => z2 (hy0 q)
  refine RQ_n (ZY_ok P) 4 rfl trivial ?_
  refine RQ_v vX5_letterAt (y_letterAt hw hrR (i := 0) (by omega)) rfl k2_114 rfl rfl rfl (zy3 w rfl) rfl ?_
  refine RQ_n (ZY_ok P) 1 rfl trivial ?_
  by_cases hdn : 0 < zgn G r ∧ zgt G r 0 = b
  · rw [zlt_in hdn.1, hdn.2]
    refine RQ_b rfl (fun q => absurd rfl q) (fun _ => ?_)
    refine RQ_n (ZY_ok P) 5 rfl trivial ?_
    rw [nI_mul6r]
    refine RQ_n (ZY_ok P) 3 rfl trivial ?_
    rw [nI_1]
    have hp := puts (6 * r) 0 y w hdn.1 hdn.2 (by rw [Nat.add_zero]; exact hC0 hr2) z2 (by omega) (fun i h1 h2 => by omega) g2
    rw [Nat.add_zero] at hp
    refine RQ_V vX7_put hp rfl k2_66 rfl rfl rfl (zyk (Or.inr (Or.inl rfl)) rfl) (fun r1 s1 h => h.2.2.n) (fun r1 w1 h1 => ?_)
    obtain ⟨rfl, q1, q2⟩ := h1
    exact inner (6 * r + 1) w1 (g1.tr q2) q1 (fun _ => Nat.le_refl _) (by omega) (by omega) (fun x h1 h2 => hge x h1 h2 hr2)
  · refine RQ_b rfl (fun _ => noput (fun _ => hN1 (fun q => hdn ⟨q.1, q.2.1⟩))) (fun q => ?_)
    exfalso
    have q : zlt G r 0 = nI b := Classical.not_not.mp q
    unfold zlt at q
    by_cases y1 : 0 < zgn G r
    · rw [if_pos y1] at q
      have := h.1.t hrR y1
      exact hdn ⟨y1, (nI_eq (by omega) (by omega)).mp q⟩
    · rw [if_neg y1] at q; exact nI_m1 (show b < 2 ^ 31 by omega) q.symm
