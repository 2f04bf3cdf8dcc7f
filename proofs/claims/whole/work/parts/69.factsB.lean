/-! Facts: findRest, findFirst, looksBehind, addFollows, findFollow. -/
theorem b65536 (i : Nat) : bt 65536 i = decide (i = 16) := by
  rcases Nat.lt_or_ge i 32 with h | h
  · exact (by decide +kernel : ∀ i, i < 32 → bt 65536 i = decide (i = 16)) i h
  · rw [b_big h, decide_eq_false (by omega)]
def zRS (G : ZGT) (em : Int32) (fs : Nat → Int32) (r i : Nat) : Int32 := zFF G em fs r i ||| (if zAE G em r i = true then 65536 else 0)
theorem zRS_511 {G : ZGT} (hG : GW G) {em : Int32} {fs : Nat → Int32} {r i : Nat} (hr : r ≤ zgR G) (hf : ∀ n, n < 6 → bsub (fs n) 511) : zRS G em fs r i &&& 511 = zFF G em fs r i := by
  have h1 := zFF_511 hG (e := em) (i := i) hr hf
  apply b_ext
  intro k hk
  rw [b_and, zRS, b_or, b511]
  cases hx : bt (zFF G em fs r i) k with
  | true =>
    have := h1 k hx
    rw [b511] at this
    rw [this]; rfl
  | false =>
    by_cases z : zAE G em r i = true
    · rw [if_pos z, b65536]
      by_cases y : k = 16
      · subst y; rfl
      · rw [decide_eq_false y]; rfl
    · rw [if_neg z, b_0]; rfl
theorem zRS_65536 {G : ZGT} (hG : GW G) {em : Int32} {fs : Nat → Int32} {r i : Nat} (hr : r ≤ zgR G) (hf : ∀ n, n < 6 → bsub (fs n) 511) : zRS G em fs r i &&& 65536 = if zAE G em r i = true then 65536 else 0 := by
  have h1 := zFF_511 hG (e := em) (i := i) hr hf
  apply b_ext
  intro k hk
  rw [b_and, zRS, b_or, b65536]
  by_cases y : k = 16
  · subst y
    have h2 : bt (zFF G em fs r i) 16 = false := by
      cases hx : bt (zFF G em fs r i) 16 with
      | false => rfl
      | true => have := h1 _ hx; rw [b511] at this; cases this
    rw [h2, Bool.false_or, decide_eq_true rfl, Bool.and_true]
  · rw [decide_eq_false y, Bool.and_false]
    by_cases z : zAE G em r i = true
    · rw [if_pos z, b65536, decide_eq_false y]
    · rw [if_neg z, b_0]
theorem nI_m {a : Nat} (h : 1 ≤ a) : nI a - 1 = nI (a - 1) := nI_sub (b := 1) h
theorem nI_dn {a : Nat} (h : 1 ≤ a) : nI a + (-1) = nI (a - 1) := by
  have h1 := nI_m h
  rw [← h1, Int32.sub_eq_add_neg]
theorem zRS_s {G : ZGT} {em : Int32} {fs : Nat → Int32} {r i : Nat} (h : i < zgn G r) : zRS G em fs r i = zfl fs (zgt G r i) ||| (if zem em (zgt G r i) = true then zRS G em fs r (i + 1) else 0) := by
  obtain ⟨d, hd⟩ : ∃ d, zgn G r - i = d + 1 := ⟨zgn G r - i - 1, by omega⟩
  have hd2 : zgn G r - (i + 1) = d := by omega
  unfold zRS zFF zAE
  rw [hd, hd2, zff, zae]
  cases hz : zem em (zgt G r i) with
  | true =>
    rw [if_pos rfl, if_pos rfl, Bool.true_and]
    apply b_ext
    intro k _
    rw [b_or, b_or, b_or, b_or, Bool.or_assoc]
  | false =>
    have hF : ¬ (false = true) := by decide
    rw [Bool.false_and, if_neg hF, if_neg hF, if_neg hF]
    apply b_ext
    intro k _
    rw [b_or, b_0, Bool.or_false]
theorem zRS_n {G : ZGT} {em : Int32} {fs : Nat → Int32} {r : Nat} : zRS G em fs r (zgn G r) = 65536 := by
  unfold zRS zFF zAE
  rw [Nat.sub_self, zff, zae, if_pos rfl]
  decide
theorem zem_sg {em : Int32} {l : Nat} (h : l < 8) : zem em l = false := by rw [zem, decide_eq_false (by omega), Bool.false_and]
theorem nI_mul6r (r : Nat) : nI r * 6 = nI (6 * r) := by rw [show (6 : Int32) = nI 6 from rfl, nI_mul, Nat.mul_comm]
def frQ (G : ZGT) (r : Nat) (u v : SX) : Prop := frX [] [18] u v ∧ (∀ i, i ≤ zgn G r → v.2.1 18 (6 * r + i) = zRS G (u.1 14 1) (u.2.1 15) r i) ∧ ∀ j, (j < 6 * r ∨ 6 * r + 6 ≤ j) → v.2.1 18 j = u.2.1 18 j
set_option maxHeartbeats 1000000 in
theorem y_findRest {P : YP} {G : ZGT} {u : SX} (h : ZGX G u) {r : Nat} (hr : r ≤ zgR G) : EvQ (ZY P) mX4_findRest [.ref 14, .int (nI r)] u (fun x v => x = none ∧ frQ G r u v) := by
  have hb := h.b
  have hn := h.1.n hr
  have hrc : (nI r).toNatClampNeg = r := nI_clamp (by omega)
  have e1 : u.2.1 5 (nI r).toNatClampNeg = nI (zgn G r) := by rw [hrc]; exact h.n hr
  refine EQ_V vX4_findRest rfl ?_
  have e6 : nI r * 6 + u.2.1 5 (nI r).toNatClampNeg = nI (6 * r + zgn G r) := by rw [e1, nI_mul6r, nI_add]
  refine RQ_n (ZY_ok P) 15 rfl ⟨nI_in (by omega) (by omega), by rw [e6]; exact nI_in (by omega) (by omega), trivial⟩ ?_
  refine RQ_n (ZY_ok P) 8 rfl ⟨nI_in (by omega) (by omega), trivial⟩ ?_
  obtain ⟨u1, hu1⟩ : ∃ w : SX, w = (u.1, updA u.2.1 18 (nI r * 6 + u.2.1 5 (nI r).toNatClampNeg).toNatClampNeg 65536, u.2.2) := ⟨_, rfl⟩
  have h18 : u1.2.1 18 = upd (u.2.1 18) (6 * r + zgn G r) 65536 := by
    rw [hu1]
    show upd (u.2.1 18) (nI r * 6 + u.2.1 5 (nI r).toNatClampNeg).toNatClampNeg 65536 = _
    rw [e6, nI_clamp (by omega)]
  have hf1 : frX [] [18] u u1 := by rw [hu1]; exact frX.a 18 (by decide)
  have key := loopU (Z := ZY P) (M := mX4_findRest) (pc := 35) (Q := fun x v => x = none ∧ frQ G r u v) (zgn G r) (fun j (_ : Unit) => [some (.ref 14), some (.int (nI r)), some (.int (nI (6 * r))), some (.int (nI (zgn G r - j) - 1)), none, none]) (fun j _ v => frX [] [18] u v ∧ (∀ i, zgn G r - j ≤ i → i ≤ zgn G r → v.2.1 18 (6 * r + i) = zRS G (u.1 14 1) (u.2.1 15) r i) ∧ ∀ j, (j < 6 * r ∨ 6 * r + 6 ≤ j) → v.2.1 18 j = u.2.1 18 j) ?_ 0 () u1 (by omega) ⟨hf1, fun i h1 h2 => ?_, fun j hj => ?_⟩
  · show RnQ (ZY P) mX4_findRest (35, [some (.ref 14), some (.int (nI r)), some (.int (nI r * 6)), some (.int (u.2.1 5 (nI r).toNatClampNeg - 1)), none, none], [], (u.1, updA u.2.1 18 (nI r * 6 + u.2.1 5 (nI r).toNatClampNeg).toNatClampNeg 65536, u.2.2)) _
    rw [← hu1, e1, nI_mul6r]
    exact key
  · intro j _ v hj hJ ih
    obtain ⟨g1, g2, g3⟩ := hJ
    have hv : ZGX G v := h.fr g1 (by decide)
    refine RQ_n (ZY_ok P) 1 rfl trivial ?_
    by_cases hjn : j = zgn G r
    · subst hjn
      rw [Nat.sub_self] at g2 ⊢
      refine RQ_b rfl (fun _ => ?_) (fun q => absurd (by show nI 0 - 1 < 0; decide) q)
      exact RQ_to (Rn_vret rfl rfl) ⟨rfl, g1, fun i hi => g2 i (by omega) hi, g3⟩
    obtain ⟨i, hi⟩ : ∃ i, zgn G r - j = i + 1 := ⟨zgn G r - j - 1, by omega⟩
    have hin : i < zgn G r := by omega
    have ei : nI (zgn G r - j) - 1 = nI i := by rw [hi, nI_m (by omega)]; rfl
    rw [ei]
    refine RQ_b rfl (fun q => absurd ((zq_lt (a := i) (b := 0) rfl rfl (by omega) (by omega)).mp q) (by omega)) (fun _ => ?_)
    have hlt := h.1.t hr hin
    have e15 : v.2.1 15 = u.2.1 15 := g1.2.1 15 (by decide)
    have e14 : v.1 14 1 = u.1 14 1 := g1.1 14 1 (by decide)
    have e7 : nI (6 * r) + nI i = nI (6 * r + i) := nI_add _ _
    refine RQ_n (ZY_ok P) 4 rfl trivial ?_
    refine RQ_v vX5_letterAt (y_letterAt hv hr (by omega)) rfl k4_86 rfl rfl rfl (zy3 v rfl) rfl ?_
    rw [zlt_in hin]
    -- the end of a turn: the value is written
    have turn : ∀ (o : Option Value) (x : Int32) (w : SX), x = zRS G (u.1 14 1) (u.2.1 15) r i → w = (v.1, updA v.2.1 18 (6 * r + i) x, v.2.2) → RnQ (ZY P) mX4_findRest (118, [some (.ref 14), some (.int (nI r)), some (.int (nI (6 * r))), some (.int (nI i)), some (.int (nI (zgt G r i))), o], [], w) (fun x v => x = none ∧ frQ G r u v) := by
      intro o x w hx hw
      refine RQ_n (ZY_ok P) 2 rfl trivial ?_
      have hwf : frX [] [18] v w := by rw [hw]; exact frX.a 18 (by decide)
      have hw18 : w.2.1 18 = upd (v.2.1 18) (6 * r + i) x := by rw [hw]; rfl
      refine ih (by omega) () _ _ ⟨rfl, rfl, rfl, ?_, trivial⟩ ⟨g1.tr hwf, fun k h1 h2 => ?_, fun k hk => ?_⟩
      · show Value.int (nI (zgn G r - (j + 1)) - 1) = Value.int (nI i + (-1))
        rw [show zgn G r - (j + 1) = i by omega, Int32.sub_eq_add_neg]
      · rw [hw18]
        by_cases z : k = i
        · subst z; rw [upd_at]; exact hx
        · rw [upd_ne (by omega)]; exact g2 k (by omega) h2
      · rw [hw18, upd_ne (by omega)]; exact g3 k hk
    refine RQ_n (ZY_ok P) 3 rfl trivial ?_
    refine RQ_b rfl (fun q => ?_) (fun q => ?_)
    · have q := (zq_le (a := 8) (b := zgt G r i) rfl rfl (by omega) (by omega)).mp q
      refine RQ_n (ZY_ok P) 2 rfl trivial ?_
      refine RQ_v vX4_isEmptyLetter (y_isEmptyLetter hlt.1) rfl k4_90 rfl rfl rfl (zy14 v rfl) rfl ?_
      have e8 : nI (zgt G r i) - 8 = nI (zgt G r i - 8) := nI_sub (b := 8) q
      have e9 : nI (6 * r) + nI i + 1 = nI (6 * r + (i + 1)) := by rw [e7, nI_1, Nat.add_assoc]
      have hfl : zfl (u.2.1 15) (zgt G r i) = v.2.1 15 (nI (zgt G r i) - 8).toNatClampNeg := by rw [zfl, if_neg (by omega), e8, nI_clamp (by omega), e15]
      refine RQ_b rfl (fun q2 => ?_) (fun q2 => ?_)
      · have q2 := bI_0.mp q2
        refine RQ_n (ZY_ok P) 2 rfl trivial ?_
        refine RQ_n (ZY_ok P) 14 rfl ⟨by rw [e8]; exact nI_in (by omega) (by omega), by rw [e7]; exact nI_in (by omega) (by omega), trivial⟩ ?_
        refine turn _ _ _ ?_ (by rw [← nI_clamp (n := 6 * r + i) (by omega), ← e7])
        rw [zRS_s hin, ← e14, if_neg (by rw [q2]; decide), hfl]
      · have q2 := bI_t q2
        refine RQ_n (ZY_ok P) 10 rfl ⟨by rw [e9]; exact nI_in (by omega) (by omega), trivial⟩ ?_
        refine RQ_n (ZY_ok P) 14 rfl ⟨by rw [e8]; exact nI_in (by omega) (by omega), by rw [e7]; exact nI_in (by omega) (by omega), trivial⟩ ?_
        refine turn _ _ _ ?_ (by rw [← nI_clamp (n := 6 * r + i) (by omega), ← e7])
        rw [zRS_s hin, ← e14, if_pos q2, hfl, e9, nI_clamp (by omega), g2 (i + 1) (by omega) (by omega), e14]
    · have q := (not_congr (zq_le (a := 8) (b := zgt G r i) rfl rfl (by omega) (by omega))).mp q
      refine RQ_n (ZY_ok P) 10 rfl ⟨by rw [e7]; exact nI_in (by omega) (by omega), trivial⟩ ?_
      refine turn _ _ _ ?_ (by rw [← nI_clamp (n := 6 * r + i) (by omega), ← e7])
      rw [zRS_s hin, if_neg (by rw [zem_sg (by omega)]; decide), zfl, if_pos (by omega)]
      exact (bsub_eq bsub_0).symm
  · rw [h18]
    have : i = zgn G r := by omega
    subst this
    rw [upd_at, zRS_n]
  · rw [h18, upd_ne (by omega)]
/-- what rest says -/
def RSX (G : ZGT) (u : SX) : Prop := ∀ r, r ≤ zgR G → ∀ i, i ≤ zgn G r → u.2.1 18 (6 * r + i) = zRS G (u.1 14 1) (u.2.1 15) r i
set_option maxHeartbeats 1000000 in
theorem y_findFirst {P : YP} {G : ZGT} {s : SX} (h : ZGX G s) : EvQ (ZY P) mX4_findFirst [.ref 14] s (fun x u => x = none ∧ zlF G (s.1 14 1) (u.2.1 15) ∧ RSX G u ∧ frX [] [15, 18] s u) := by
  have hb := h.b
  obtain ⟨E, hE⟩ : ∃ E, E = s.1 14 1 := ⟨_, rfl⟩
  rw [← hE]
  refine EQ_V vX4_findFirst rfl ?_
  refine RQ_n (ZY_ok P) 3 rfl trivial ?_
  refine RQ_s vJ7_fill_53178 (y_fill s 15 6 0 (by omega) (by omega) (fun _ _ => rfl)) rfl k4_93 rfl rfl rfl rfl ?_
  refine RQ_n (ZY_ok P) 4 rfl trivial ?_
  obtain ⟨s1, hs1⟩ : ∃ w : SX, w = (s.1, setA s.2.1 15 (fil (s.2.1 15) 0 6 0), s.2.2) := ⟨_, rfl⟩
  have hf1 : frX [] [15, 18] s s1 := by
    rw [hs1]
    exact ⟨fun _ _ _ => rfl, fun a ha => setA_ne (fun z => ha (by rw [z]; decide)), rfl⟩
  have h15 : ∀ n, n < 6 → s1.2.1 15 n = 0 := fun n hn => by
    rw [hs1]
    show fil (s.2.1 15) 0 6 0 n = 0
    exact fil_in (by omega) hn
  have key := loopD (Z := ZY P) (M := mX4_findFirst) (pc := 12) (Q := fun x u => x = none ∧ zlF G E (u.2.1 15) ∧ RSX G u ∧ frX [] [15, 18] s u) (fun (x : Nat × Bool) => [some (.ref 14), some (.int (bI x.2)), some (.int (nI x.1)), none]) (fun m x u => m + x.1 = 300 ∧ x.1 ≤ 200 ∧ frX [] [15, 18] s u ∧ (∀ F', zcF G E F' → ∀ n, n < 6 → bsub (u.2.1 15 n) (F' n)) ∧ (x.2 = true → x.1 ≤ ct6 (u.2.1 15)) ∧ (x.2 = false → zcF G E (u.2.1 15) ∧ RSX G u)) ?_ 300 (0, true) s1 ⟨rfl, by decide, hf1, fun F' _ n hn => (by rw [h15 n hn]; exact bsub_0), fun _ => Nat.zero_le _, fun z => by cases z⟩
  · show RnQ (ZY P) mX4_findFirst (12, [some (.ref 14), some (.int 1), some (.int 0), none], [], (s.1, setA s.2.1 15 (fil (s.2.1 15) 0 6 0), s.2.2)) _
    rw [← hs1]
    exact key
  intro m x u hJ ih
  obtain ⟨k, more⟩ := x
  obtain ⟨hm, hk7, hf, hl, ht, hc⟩ := hJ
  dsimp only at hm hk7 ht hc ⊢
  have hu : ZGX G u := h.fr hf (by decide)
  have h192 := ct6_le (u.2.1 15)
  refine RQ_n (ZY_ok P) 1 rfl trivial ?_
  refine RQ_b rfl (fun q => ?_) (fun q => ?_)
  · have q := bI_0.mp q
    exact RQ_to (Rn_vret rfl rfl) ⟨rfl, ⟨(hc q).1, hl⟩, (hc q).2, hf⟩
  have q := bI_t q
  have hk := ht q
  refine RQ_n (ZY_ok P) 2 rfl trivial ?_
  refine RQ_b rfl (fun q2 => ?_) (fun q2 => ?_)
  · have q2 := (zq_le (a := 1000000) (b := k) rfl rfl (by omega) (by omega)).mp q2
    omega
  refine RQ_n (ZY_ok P) 4 rfl trivial ?_
  obtain ⟨F0, hF0⟩ : ∃ F0, F0 = u.2.1 15 := ⟨_, rfl⟩
  refine loopU (zgR G + 1) (fun r (x : Bool) => [some (.ref 14), some (.int (bI x)), some (.int (nI k)), some (.int (nI r))]) (fun r x v => frX [] [15, 18] s v ∧ (∀ n, n < 6 → bsub (F0 n) (v.2.1 15 n)) ∧ (∀ F', zcF G E F' → ∀ n, n < 6 → bsub (v.2.1 15 n) (F' n)) ∧ (x = true → ∃ n, n < 6 ∧ v.2.1 15 n ≠ F0 n) ∧ (x = false → v.2.1 15 = F0 ∧ ∀ r', r' < r → (r' < zgR G → zgi G r' = true → bsub (zFF G E F0 r' 0) (F0 (zgl G r'))) ∧ ∀ i, i ≤ zgn G r' → v.2.1 18 (6 * r' + i) = zRS G E F0 r' i)) ?_ 0 false u (by omega) ⟨hf, fun n _ => (by rw [hF0]; exact bsub_rf), hl, fun z => (by cases z), fun _ => ⟨hF0.symm, fun r' hr' => by omega⟩⟩
  intro r x v hr hJ ih2
  obtain ⟨g1, g2, g3, g4, g5⟩ := hJ
  have hv : ZGX G v := h.fr g1 (by decide)
  have e14 : v.1 14 1 = E := by rw [g1.1 14 1 (by decide), hE]
  refine RQ_n (ZY_ok P) 4 rfl trivial ?_
  refine RQ_b rfl (fun q3 => ?_) (fun q3 => ?_)
  · have q3 := (zq_lt hv.R rfl (by omega) (by omega)).mp q3
    have hrR : r = zgR G + 1 := by omega
    subst hrR
    refine RQ_n (ZY_ok P) 2 rfl trivial ?_
    cases x with
    | false =>
      obtain ⟨a1, a2⟩ := g5 rfl
      refine ih (m - 1) (k + 1, false) _ _ (by omega) ⟨rfl, rfl, nIs k, trivial⟩ ⟨by dsimp only; omega, by dsimp only; omega, g1, g3, (fun z => by cases z), fun _ => ⟨?_, ?_⟩⟩
      · rw [a1]; exact fun r' hr' => (a2 r' (by omega)).1 hr'
      · intro r' hr' i hi
        rw [e14, a1]
        exact (a2 r' (by omega)).2 i hi
    | true =>
      obtain ⟨n, hn, hne⟩ := g4 rfl
      refine ih (m - 1) (k + 1, true) _ _ (by omega) ⟨rfl, rfl, nIs k, trivial⟩ ⟨by dsimp only; omega, by dsimp only; omega, g1, g3, fun _ => ?_, (fun z => by cases z)⟩
      have := ct6_lt g2 hn (fun z => hne z.symm)
      dsimp only
      rw [hF0] at this
      omega
  have q3 := (not_congr (zq_lt hv.R rfl (by omega) (by omega))).mp q3
  have hrR : r ≤ zgR G := by omega
  have hrc : (nI r).toNatClampNeg = r := nI_clamp (by omega)
  refine RQ_n (ZY_ok P) 2 rfl trivial ?_
  refine RQ_V vX4_findRest (y_findRest hv hrR) rfl k4_100 rfl rfl rfl (zy14 v rfl) (fun r1 s1 h => h.2.1.n) (fun r1 w hw => ?_)
  obtain ⟨rfl, w1, w2, w3⟩ := hw
  have hwf : frX [] [15, 18] s w := g1.tr (w1.up (by decide) (by decide))
  have hwX : ZGX G w := h.fr hwf (by decide)
  have e15 : w.2.1 15 = v.2.1 15 := w1.2.1 15 (by decide)
  rw [e14] at w2
  have h511 : ∀ n, n < 6 → bsub (v.2.1 15 n) 511 := g3 _ (zcF_511 h.1 E)
  -- nothing is added
  have pass : (r < zgR G → zgi G r = true → x = false → bsub (zFF G E F0 r 0) (F0 (zgl G r))) → RnQ (ZY P) mX4_findFirst (96, [some (.ref 14), some (.int (bI x)), some (.int (nI k)), some (.int (nI r))], [], w) (fun x u => x = none ∧ zlF G E (u.2.1 15) ∧ RSX G u ∧ frX [] [15, 18] s u) := by
    intro hp
    refine RQ_n (ZY_ok P) 2 rfl trivial ?_
    refine ih2 (by omega) x _ _ ⟨rfl, rfl, rfl, nIs r, trivial⟩ ⟨hwf, ?_, ?_, ?_, fun z => ?_⟩
    · rw [e15]; exact g2
    · rw [e15]; exact g3
    · rw [e15]; exact g4
    · obtain ⟨a1, a2⟩ := g5 z
      rw [e15]
      refine ⟨a1, fun r' hr' => ?_⟩
      by_cases y : r' = r
      · subst y
        refine ⟨fun y1 y2 => hp y1 y2 z, fun i hi => ?_⟩
        rw [w2 i hi, a1]
      · obtain ⟨b1', b2⟩ := a2 r' (by omega)
        refine ⟨b1', fun i hi => ?_⟩
        have := h.1.n (r := r') (by omega)
        rw [w3 _ (by omega)]
        exact b2 i hi
  refine RQ_n (ZY_ok P) 4 rfl trivial ?_
  refine RQ_b rfl (fun q4 => ?_) (fun q4 => ?_)
  · have q4 := (zq_le hwX.R rfl (by omega) (by omega)).mp q4
    exact pass (fun z => by omega)
  have q4 := (not_congr (zq_le hwX.R rfl (by omega) (by omega))).mp q4
  have hrR2 : r < zgR G := by omega
  refine RQ_n (ZY_ok P) 3 rfl trivial ?_
  refine RQ_v vX5_isIn (y_isIn hwX hrR2) rfl k4_72 rfl rfl rfl (zy3 w rfl) rfl ?_
  refine RQ_b rfl (fun q5 => ?_) (fun q5 => ?_)
  · exact pass (fun _ z => by rw [bI_0.mp q5] at z; cases z)
  have q5 := bI_t q5
  have hl6 := h.1.l hrR2
  have e4 : w.2.1 4 (nI r).toNatClampNeg = nI (zgl G r) := by rw [hrc]; exact hwX.l hrR2
  have e6 : nI r * 6 = nI (6 * r) := nI_mul6r r
  have e18 : w.2.1 18 (nI r * 6).toNatClampNeg &&& 511 = zFF G E (v.2.1 15) r 0 := by
    rw [e6, nI_clamp (by omega)]
    have := w2 0 (by omega)
    rw [Nat.add_zero] at this
    rw [this]
    exact zRS_511 h.1 hrR h511
  refine RQ_n (ZY_ok P) 16 rfl ⟨nI_in (by omega) (by omega), by rw [e6]; exact nI_in (by omega) (by omega), trivial⟩ ?_
  refine RQ_s vX4_add (s1 := (w.1, setA w.2.1 15 (upd (w.2.1 15) (zgl G r) (w.2.1 15 (zgl G r) ||| zFF G E (v.2.1 15) r 0)), w.2.2)) (r1 := some (.int (bI (!decide (w.2.1 15 (zgl G r) ||| zFF G E (v.2.1 15) r 0 = w.2.1 15 (zgl G r)))))) (as := [.ref 15, .int (nI (zgl G r)), .int (zFF G E (v.2.1 15) r 0)]) (y_add w 15 6 (zgl G r) (zFF G E (v.2.1 15) r 0) (by omega) hl6 (by omega) (fun _ _ => rfl)) rfl k4_104 (by rw [← e4, ← e18]; rfl) rfl rfl rfl ?_
  obtain ⟨w', hw'⟩ : ∃ w' : SX, w' = (w.1, setA w.2.1 15 (upd (w.2.1 15) (zgl G r) (w.2.1 15 (zgl G r) ||| zFF G E (v.2.1 15) r 0)), w.2.2) := ⟨_, rfl⟩
  rw [← hw']
  have hw'f : frX [] [15, 18] s w' := by
    refine hwf.tr ?_
    rw [hw']
    exact ⟨fun _ _ _ => rfl, fun a ha => setA_ne (fun z => ha (by rw [z]; decide)), rfl⟩
  have h15' : w'.2.1 15 = upd (v.2.1 15) (zgl G r) (v.2.1 15 (zgl G r) ||| zFF G E (v.2.1 15) r 0) := by
    rw [hw', ← e15]
    rfl
  have h18' : w'.2.1 18 = w.2.1 18 := by rw [hw']; rfl
  rw [e15]
  have hup : ∀ n, n < 6 → bsub (v.2.1 15 n) (w'.2.1 15 n) := by
    intro n hn
    rw [h15']
    by_cases z : n = zgl G r
    · subst z; rw [upd_at]; exact bsub_l
    · rw [upd_ne z]; exact bsub_rf
  refine RQ_n (ZY_ok P) 2 rfl trivial ?_
  have hor : ∀ a b : Bool, bI a ||| bI b = bI (a || b) := by decide
  rw [show (bI x ||| bI (!decide (v.2.1 15 (zgl G r) ||| zFF G E (v.2.1 15) r 0 = v.2.1 15 (zgl G r)))) = bI (x || !decide (v.2.1 15 (zgl G r) ||| zFF G E (v.2.1 15) r 0 = v.2.1 15 (zgl G r))) from hor _ _]
  refine RQ_n (ZY_ok P) 2 rfl trivial ?_
  refine ih2 (by omega) (x || !decide (v.2.1 15 (zgl G r) ||| zFF G E (v.2.1 15) r 0 = v.2.1 15 (zgl G r))) _ _ ⟨rfl, rfl, rfl, nIs r, trivial⟩ ⟨hw'f, fun n hn => bsub_tr (g2 n hn) (hup n hn), fun F' hF' n hn => ?_, fun z => ?_, fun z => ?_⟩
  · rw [h15']
    by_cases z : n = zgl G r
    · subst z
      rw [upd_at]
      exact bsub_or (g3 F' hF' _ hl6) (bsub_tr (zFF_up h.1 hrR bsub_rf (g3 F' hF')) (hF' r hrR2 q5))
    · rw [upd_ne z]; exact g3 F' hF' n hn
  · by_cases hx : x = true
    · obtain ⟨n, hn, hne⟩ := g4 hx
      refine ⟨n, hn, fun y => hne ?_⟩
      refine bsub_an ?_ (g2 n hn)
      rw [← y]
      exact hup n hn
    · rw [Bool.eq_false_iff.mpr hx, Bool.false_or, Bool.not_eq_true', decide_eq_false_iff_not] at z
      refine ⟨zgl G r, hl6, fun y => z ?_⟩
      have : v.2.1 15 (zgl G r) = F0 (zgl G r) := by
        refine bsub_an ?_ (g2 _ hl6)
        rw [← y]
        exact hup _ hl6
      rw [h15', upd_at] at y
      rw [y, this]
  · rw [Bool.or_eq_false_iff, Bool.not_eq_false', decide_eq_true_eq] at z
    obtain ⟨a1, a2⟩ := g5 z.1
    have z2 := z.2
    rw [a1] at z2
    have e0 : w'.2.1 15 = F0 := by
      rw [h15', a1, z2]
      funext n
      by_cases y : n = zgl G r
      · subst y; rw [upd_at]
      · rw [upd_ne y]
    refine ⟨e0, fun r' hr' => ?_⟩
    rw [h18']
    by_cases y : r' = r
    · subst y
      refine ⟨fun _ _ => ?_, fun i hi => ?_⟩
      · rw [← z2]; exact bsub_r
      · rw [w2 i hi, a1]
    · obtain ⟨b1', b2⟩ := a2 r' (by omega)
      refine ⟨b1', fun i hi => ?_⟩
      have := h.1.n (r := r') (by omega)
      rw [w3 _ (by omega)]
      exact b2 i hi
