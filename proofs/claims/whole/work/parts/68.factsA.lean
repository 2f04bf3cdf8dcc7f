/-! The class's grammar; what is empty, what begins (Facts). -/
theorem zyr {P : YP} {MX : MD} {s : SX} {b ci : Nat} {fs : List Value} (hc : ycel P s b = .inr (ci, fs)) (h : MX.1 = ci) (hb : b < 99) : zrc (ZY P) MX s b = true := by
  unfold zrc
  rw [show (ZY P).1 s b = .inr (ci, fs) from hc]
  show (Nat.beq ci MX.1 && Nat.blt b (3 * s.2.2.2.2.1 + 99)) = true
  rw [h, Bool.and_eq_true]
  exact ⟨Nat.beq_refl _, Nat.ble_eq_true_of_le (by omega)⟩
theorem zy3 {P : YP} {MX : MD} (s : SX) (h : MX.1 = 5) : zrc (ZY P) MX s 3 = true := zyr (fs := [.int (s.1 3 0), .int (s.1 3 1), .int (s.1 3 2), .int (s.1 3 3), .int (s.1 3 4), .ref 4, .ref 5, .ref 6, .ref 7, .ref 8, .ref 9, .ref 10]) rfl h (by omega)
theorem zy14 {P : YP} {MX : MD} (s : SX) (h : MX.1 = 4) : zrc (ZY P) MX s 14 = true := zyr (ci := 4) rfl h (by omega)
def ZGX (G : ZGT) (u : SX) : Prop := GW G ∧ (u.1 3 0 = nI (zgR G) ∧ u.1 3 1 = nI (zgN G) ∧ u.1 3 2 = nI (zgT G)) ∧ (∀ r, r < zgR G → u.2.1 4 r = nI (zgl G r) ∧ bt (u.1 3 3) r = zgi G r) ∧ ∀ r, r ≤ zgR G → u.2.1 5 r = nI (zgn G r) ∧ ∀ i, i < zgn G r → u.2.1 6 (5 * r + i) = nI (zgt G r i)
def gfr (ks : List (Nat × Nat)) (as : List Nat) : Bool := ks.all (fun q => !(Nat.beq q.1 3 && Nat.blt q.2 4)) && as.all (fun a => !(Nat.beq a 4 || Nat.beq a 5 || Nat.beq a 6))
theorem ZGX.fr {G : ZGT} {u v : SX} {ks : List (Nat × Nat)} {as : List Nat} (h : ZGX G u) (f : frX ks as u v) (hk : gfr ks as = true) : ZGX G v := by
  unfold gfr at hk
  rw [Bool.and_eq_true, List.all_eq_true, List.all_eq_true] at hk
  have h1 : ∀ b, b < 4 → (3, b) ∉ ks := fun b hb hm => by
    have := hk.1 _ hm
    rw [show Nat.blt b 4 = true from Nat.ble_eq_true_of_le hb] at this
    cases this
  have h4 : (4 : Nat) ∉ as := fun hm => by have := hk.2 _ hm; cases this
  have h5 : (5 : Nat) ∉ as := fun hm => by have := hk.2 _ hm; cases this
  have h6 : (6 : Nat) ∉ as := fun hm => by have := hk.2 _ hm; cases this
  obtain ⟨a, ⟨b0, b1', b2⟩, c, d⟩ := h
  refine ⟨a, ⟨?_, ?_, ?_⟩, fun r hr => ?_, fun r hr => ?_⟩
  · rw [f.1 3 0 (h1 0 (by omega))]; exact b0
  · rw [f.1 3 1 (h1 1 (by omega))]; exact b1'
  · rw [f.1 3 2 (h1 2 (by omega))]; exact b2
  · rw [f.1 3 3 (h1 3 (by omega)), f.2.1 4 h4]; exact c r hr
  · rw [f.2.1 5 h5, f.2.1 6 h6]; exact d r hr
theorem ZGX.R {G : ZGT} {u : SX} (h : ZGX G u) : u.1 3 0 = nI (zgR G) := h.2.1.1
theorem ZGX.l {G : ZGT} {u : SX} (h : ZGX G u) {r : Nat} (hr : r < zgR G) : u.2.1 4 r = nI (zgl G r) := (h.2.2.1 r hr).1
theorem ZGX.n {G : ZGT} {u : SX} (h : ZGX G u) {r : Nat} (hr : r ≤ zgR G) : u.2.1 5 r = nI (zgn G r) := (h.2.2.2 r hr).1
theorem ZGX.b {G : ZGT} {u : SX} (h : ZGX G u) : zgR G ≤ 16 ∧ 1 ≤ zgR G ∧ zgN G ≤ 6 ∧ 1 ≤ zgN G ∧ zgT G ≤ 8 := ⟨h.1.1.2.1, h.1.1.1, h.1.1.2.2.2.1, h.1.1.2.2.1, h.1.1.2.2.2.2⟩
/-- Grammar.isIn, letterAt, endBit -/
theorem y_isIn {P : YP} {G : ZGT} {u : SX} (h : ZGX G u) {r : Nat} (hr : r < zgR G) : Ev (ZY P) mX5_isIn [.ref 3, .int (nI r)] u (some (.int (bI (zgi G r)))) u := by
  have hb := h.b
  have e1 : u.1 3 3 >>> (nI r &&& 31) &&& 1 = if zgi G r = true then 1 else 0 := by rw [sh_bit _ (by omega), (h.2.2.1 r hr).2]
  refine Ev_V vX5_isIn rfl ?_
  refine Rn_n (ZY_ok P) 6 rfl trivial ?_
  refine Rn_b rfl (fun q => ?_) (fun q => ?_)
  · have q : u.1 3 3 >>> (nI r &&& 31) &&& 1 = 0 := q
    have : zgi G r = false := by
      cases hi : zgi G r with
      | false => rfl
      | true => rw [e1, hi, if_pos rfl] at q; exact absurd q (by decide)
    refine Rn_n (ZY_ok P) 1 rfl trivial ?_
    exact Rn_to (Rn_zret rfl rfl (Or.inl rfl)) (by rw [this]; rfl) rfl
  · have q : ¬ u.1 3 3 >>> (nI r &&& 31) &&& 1 = 0 := q
    have : zgi G r = true := by
      cases hi : zgi G r with
      | true => rfl
      | false => rw [e1, hi, if_neg (by decide)] at q; exact absurd rfl q
    refine Rn_n (ZY_ok P) 2 rfl trivial ?_
    exact Rn_to (Rn_zret rfl rfl (Or.inr rfl)) (by rw [this]; rfl) rfl
def zlt (G : ZGT) (r i : Nat) : Int32 := if i < zgn G r then nI (zgt G r i) else -1
theorem nI_mul5r (r : Nat) : nI r * 5 = nI (5 * r) := by rw [show (5 : Int32) = nI 5 from rfl, nI_mul, Nat.mul_comm]
theorem y_letterAt {P : YP} {G : ZGT} {u : SX} (h : ZGX G u) {r i : Nat} (hr : r ≤ zgR G) (hi : i < 2 ^ 31) : Ev (ZY P) mX5_letterAt [.ref 3, .int (nI r), .int (nI i)] u (some (.int (zlt G r i))) u := by
  have hb := h.b
  have hn := h.1.n hr
  have hrc : (nI r).toNatClampNeg = r := nI_clamp (by omega)
  have e1 : u.2.1 5 (nI r).toNatClampNeg = nI (zgn G r) := by rw [hrc]; exact h.n hr
  refine Ev_V vX5_letterAt rfl ?_
  refine Rn_n (ZY_ok P) 5 rfl ⟨nI_in (by omega) (by omega), trivial⟩ ?_
  refine Rn_b rfl (fun q => ?_) (fun q => ?_)
  · have q := (zq_le e1 rfl (by omega) hi).mp q
    refine Rn_n (ZY_ok P) 1 rfl trivial ?_
    exact Rn_to (Rn_iret rfl rfl) (by rw [zlt, if_neg (by omega)]) rfl
  · have q := (not_congr (zq_le e1 rfl (by omega) hi)).mp q
    have e2 : nI r * 5 + nI i = nI (5 * r + i) := by rw [nI_mul5r, nI_add]
    refine Rn_n (ZY_ok P) 9 rfl ⟨by rw [e2]; exact nI_in (by omega) (by omega), trivial⟩ ?_
    refine Rn_to (Rn_iret rfl rfl) ?_ rfl
    rw [zlt, if_pos (by omega), e2, nI_clamp (by omega), (h.2.2.2 r hr).2 i (by omega)]
theorem zlt_in {G : ZGT} {r i : Nat} (h : i < zgn G r) : zlt G r i = nI (zgt G r i) := if_pos h
theorem y_endBit {P : YP} {G : ZGT} {u : SX} (h : ZGX G u) : Ev (ZY P) mX5_endBit [.ref 3] u (some (.int (b1 (zgT G)))) u := by
  refine Ev_V vX5_endBit rfl ?_
  refine Rn_n (ZY_ok P) 4 rfl trivial ?_
  refine Rn_to (Rn_iret rfl rfl) ?_ rfl
  rw [h.2.1.2.2]
  rfl
/-- Facts.isEmptyLetter, emptyAhead -/
theorem y_isEmptyLetter {P : YP} {u : SX} {l : Nat} (hl : l < 14) : Ev (ZY P) mX4_isEmptyLetter [.ref 14, .int (nI l)] u (some (.int (bI (zem (u.1 14 1) l)))) u := by
  refine Ev_V vX4_isEmptyLetter rfl ?_
  refine Rn_n (ZY_ok P) 2 rfl trivial ?_
  refine Rn_b rfl (fun q => ?_) (fun q => ?_)
  · have q := (zq_lt (a := l) (b := 8) rfl rfl (by omega) (by omega)).mp q
    refine Rn_n (ZY_ok P) 1 rfl trivial ?_
    exact Rn_to (Rn_zret rfl rfl (Or.inl rfl)) (by rw [zem, decide_eq_false (by omega), Bool.false_and]; rfl) rfl
  · have q := (not_congr (zq_lt (a := l) (b := 8) rfl rfl (by omega) (by omega))).mp q
    have e1 : nI l - 8 = nI (l - 8) := nI_sub (b := 8) (by omega)
    have e2 : u.1 14 1 >>> ((nI l - 8) &&& 31) &&& 1 = if bt (u.1 14 1) (l - 8) = true then 1 else 0 := by rw [e1, sh_bit _ (by omega)]
    refine Rn_n (ZY_ok P) 8 rfl trivial ?_
    refine Rn_b rfl (fun q2 => ?_) (fun q2 => ?_)
    · have q2 : u.1 14 1 >>> ((nI l - 8) &&& 31) &&& 1 = 0 := q2
      have : bt (u.1 14 1) (l - 8) = false := by
        cases hi : bt (u.1 14 1) (l - 8) with
        | false => rfl
        | true => rw [e2, hi, if_pos rfl] at q2; exact absurd q2 (by decide)
      refine Rn_n (ZY_ok P) 1 rfl trivial ?_
      exact Rn_to (Rn_zret rfl rfl (Or.inl rfl)) (by rw [zem, this, Bool.and_false]; rfl) rfl
    · have q2 : ¬ u.1 14 1 >>> ((nI l - 8) &&& 31) &&& 1 = 0 := q2
      have : bt (u.1 14 1) (l - 8) = true := by
        cases hi : bt (u.1 14 1) (l - 8) with
        | true => rfl
        | false => rw [e2, hi, if_neg (by decide)] at q2; exact absurd rfl q2
      refine Rn_n (ZY_ok P) 2 rfl trivial ?_
      exact Rn_to (Rn_zret rfl rfl (Or.inr rfl)) (by rw [zem, this, decide_eq_true (by omega)]; rfl) rfl
def zea (G : ZGT) (em : Int32) (r : Nat) : Nat → Nat → Nat
  | 0, i => i
  | d + 1, i => if zem em (zgt G r i) = true then zea G em r d (i + 1) else i
theorem zea_le (G : ZGT) (em : Int32) (r : Nat) : ∀ d i, i ≤ zea G em r d i ∧ zea G em r d i ≤ i + d
  | 0, i => ⟨Nat.le_refl _, Nat.le_refl _⟩
  | d + 1, i => by
    unfold zea
    have := zea_le G em r d (i + 1)
    split <;> omega
theorem zea_ae (G : ZGT) (em : Int32) (r : Nat) : ∀ d i, zea G em r d i = i + d ↔ zae G em r d i = true
  | 0, i => ⟨fun _ => rfl, fun _ => rfl⟩
  | d + 1, i => by
    unfold zea zae
    have := zea_ae G em r d (i + 1)
    have h2 := zea_le G em r d (i + 1)
    cases hz : zem em (zgt G r i) with
    | true => rw [if_pos rfl, Bool.true_and, ← this]; omega
    | false => rw [if_neg (by decide), Bool.false_and]; exact ⟨fun h => (by omega), fun h => (by cases h)⟩
theorem y_emptyAhead {P : YP} {G : ZGT} {u : SX} (h : ZGX G u) {r : Nat} (hr : r ≤ zgR G) : Ev (ZY P) mX4_emptyAhead [.ref 14, .int (nI r)] u (some (.int (nI (zea G (u.1 14 1) r (zgn G r) 0)))) u := by
  have hb := h.b
  have hn := h.1.n hr
  have hrc : (nI r).toNatClampNeg = r := nI_clamp (by omega)
  have e1 : u.2.1 5 (nI r).toNatClampNeg = nI (zgn G r) := by rw [hrc]; exact h.n hr
  refine EQ_ev (EQ_V vX4_emptyAhead rfl ?_)
  refine RQ_n (ZY_ok P) 2 rfl trivial ?_
  refine loopU (zgn G r) (fun i (_ : Unit) => [some (.ref 14), some (.int (nI r)), some (.int (nI i))]) (fun i _ v => v = u ∧ zea G (u.1 14 1) r (zgn G r) 0 = zea G (u.1 14 1) r (zgn G r - i) i) ?_ 0 () u (by omega) ⟨rfl, rfl⟩
  intro i _ v hi hv ih
  obtain ⟨rfl, hz⟩ := hv
  rw [hz]
  refine RQ_n (ZY_ok P) 6 rfl ⟨nI_in (by omega) (by omega), trivial⟩ ?_
  refine RQ_b rfl (fun q => ?_) (fun q => ?_)
  · have q := (zq_le e1 rfl (by omega) (by omega)).mp q
    have : i = zgn G r := by omega
    subst this
    refine RQ_n (ZY_ok P) 1 rfl trivial ?_
    exact RQ_to (Rn_iret rfl rfl) ⟨by rw [Nat.sub_self]; rfl, rfl⟩
  · have q := (not_congr (zq_le e1 rfl (by omega) (by omega))).mp q
    have hi2 : i < zgn G r := by omega
    obtain ⟨d, hd⟩ : ∃ d, zgn G r - i = d + 1 := ⟨zgn G r - i - 1, by omega⟩
    rw [hd] at hz ⊢
    refine RQ_n (ZY_ok P) 5 rfl trivial ?_
    refine RQ_v vX5_letterAt (y_letterAt h hr (by omega)) rfl k4_86 rfl rfl rfl (zy3 v rfl) rfl ?_
    rw [zlt_in hi2]
    refine RQ_v vX4_isEmptyLetter (y_isEmptyLetter (h.1.t hr hi2).1) rfl k4_90 rfl rfl rfl (zy14 v rfl) rfl ?_
    refine RQ_b rfl (fun q2 => ?_) (fun q2 => ?_)
    · have q2 := bI_0.mp q2
      refine RQ_n (ZY_ok P) 1 rfl trivial ?_
      exact RQ_to (Rn_iret rfl rfl) ⟨by rw [zea, if_neg (by rw [q2]; decide)], rfl⟩
    · have q2 := bI_t q2
      refine RQ_n (ZY_ok P) 2 rfl trivial ?_
      have ez : zea G (v.1 14 1) r (d + 1) i = zea G (v.1 14 1) r d (i + 1) := by rw [zea, if_pos q2]
      rw [← hz]
      refine ih hi2 () _ _ ⟨rfl, rfl, nIs i, trivial⟩ ⟨rfl, ?_⟩
      rw [hz, ez, show zgn G r - (i + 1) = d by omega]
theorem zcE_63 {G : ZGT} (hG : GW G) : zcE G 63 := fun r hr _ _ => by
  have h1 := hG.l hr
  have : ∀ l, l < 6 → bt 63 l = true := by decide +kernel
  exact this _ h1
set_option maxHeartbeats 1000000 in
theorem y_findEmpty {P : YP} {G : ZGT} {s : SX} (h : ZGX G s) : EvQ (ZY P) mX4_findEmpty [.ref 14] s (fun r u => r = none ∧ zlE G (u.1 14 1) ∧ frX [(14, 1)] [] s u) := by
  have hb := h.b
  refine EQ_V vX4_findEmpty rfl ?_
  refine RQ_n (ZY_ok P) 7 rfl trivial ?_
  refine loopD (fun (x : Nat × Bool) => [some (.ref 14), some (.int (bI x.2)), some (.int (nI x.1)), none, none]) (fun m x u => m + x.1 = 8 ∧ x.1 ≤ 7 ∧ frX [(14, 1)] [] s u ∧ (∀ E', zcE G E' → bsub (u.1 14 1) E') ∧ (x.2 = true → x.1 ≤ ctI (u.1 14 1) 32) ∧ (x.2 = false → zcE G (u.1 14 1))) ?_ 8 (0, true) _ ⟨rfl, by decide, frX.i 14 1 (by decide), fun E' _ => bsub_0, fun _ => Nat.zero_le _, fun z => by cases z⟩
  intro m x u hJ ih
  obtain ⟨k, more⟩ := x
  obtain ⟨hm, hk7, hf, hl, ht, hc⟩ := hJ
  dsimp only at hm hk7 ht hc ⊢
  have hu : ZGX G u := h.fr hf (by decide)
  have h63 : ctI (u.1 14 1) 32 ≤ 6 := Nat.le_trans (ctI_up (hl 63 (zcE_63 h.1))) (by decide +kernel)
  refine RQ_n (ZY_ok P) 1 rfl trivial ?_
  refine RQ_b rfl (fun q => ?_) (fun q => ?_)
  · have q := bI_0.mp q
    exact RQ_to (Rn_vret rfl rfl) ⟨rfl, ⟨hc q, hl⟩, hf⟩
  have q := bI_t q
  have hk := ht q
  refine RQ_n (ZY_ok P) 2 rfl trivial ?_
  refine RQ_b rfl (fun q2 => ?_) (fun q2 => ?_)
  · have q2 := (zq_lt (a := 6) (b := k) rfl rfl (by omega) (by omega)).mp q2
    omega
  refine RQ_n (ZY_ok P) 5 rfl trivial ?_
  refine loopU (zgR G) (fun r (_ : Unit) => [some (.ref 14), some (.int (bI more)), some (.int (nI k)), some (.int (u.1 14 1)), some (.int (nI r))]) (fun r _ v => frX [(14, 1)] [] s v ∧ bsub (u.1 14 1) (v.1 14 1) ∧ (∀ E', zcE G E' → bsub (v.1 14 1) E') ∧ (v.1 14 1 = u.1 14 1 → ∀ r', r' < r → zgi G r' = true → zAE G (u.1 14 1) r' 0 = true → bt (u.1 14 1) (zgl G r') = true)) ?_ 0 () u (by omega) ⟨hf, bsub_rf, hl, fun _ r' hr' => by omega⟩
  intro r _ v hr hJ ih2
  obtain ⟨g1, g2, g3, g4⟩ := hJ
  have hv : ZGX G v := h.fr g1 (by decide)
  refine RQ_n (ZY_ok P) 4 rfl trivial ?_
  refine RQ_b rfl (fun q3 => ?_) (fun q3 => ?_)
  · have q3 := (zq_le hv.R rfl (by omega) (by omega)).mp q3
    have hrR : r = zgR G := by omega
    subst hrR
    refine RQ_n (ZY_ok P) 3 rfl trivial ?_
    refine RQ_b rfl (fun q4 => ?_) (fun q4 => ?_)
    · have q4 : v.1 14 1 = u.1 14 1 := q4
      refine RQ_n (ZY_ok P) 4 rfl trivial ?_
      refine ih (m - 1) (k + 1, false) _ _ (by omega) ⟨rfl, rfl, nIs k, trivial⟩ ⟨by dsimp only; omega, by dsimp only; omega, g1, g3, (fun z => by cases z), fun _ => ?_⟩
      rw [q4]
      exact g4 q4
    · have q4 : ¬ v.1 14 1 = u.1 14 1 := q4
      refine RQ_n (ZY_ok P) 5 rfl trivial ?_
      refine ih (m - 1) (k + 1, true) _ _ (by omega) ⟨rfl, rfl, nIs k, trivial⟩ ⟨by dsimp only; omega, by dsimp only; omega, g1, g3, fun _ => ?_, (fun z => by cases z)⟩
      have := ctI_ne g2 (fun z => q4 z.symm)
      dsimp only
      omega
  have q3 := (not_congr (zq_le hv.R rfl (by omega) (by omega))).mp q3
  have hrR : r < zgR G := by omega
  have hnr := h.1.n (r := r) (by omega)
  have hrc : (nI r).toNatClampNeg = r := nI_clamp (by omega)
  have e5 : v.2.1 5 (nI r).toNatClampNeg = nI (zgn G r) := by rw [hrc]; exact hv.n hr
  have e4 : v.2.1 4 (nI r).toNatClampNeg = nI (zgl G r) := by rw [hrc]; exact hv.l hrR
  -- nothing is added
  have pass : (zgi G r = true → zAE G (v.1 14 1) r 0 = true → bt (v.1 14 1) (zgl G r) = true) → RnQ (ZY P) mX4_findEmpty (91, [some (.ref 14), some (.int (bI more)), some (.int (nI k)), some (.int (u.1 14 1)), some (.int (nI r))], [], v) (fun r u => r = none ∧ zlE G (u.1 14 1) ∧ frX [(14, 1)] [] s u) := by
    intro hp
    refine RQ_n (ZY_ok P) 2 rfl trivial ?_
    refine ih2 hrR () _ _ ⟨rfl, rfl, rfl, rfl, nIs r, trivial⟩ ⟨g1, g2, g3, fun z r' hr' a1 a2 => ?_⟩
    by_cases y : r' = r
    · subst y
      rw [← z] at a2 ⊢
      exact hp a1 a2
    · exact g4 z r' (by omega) a1 a2
  refine RQ_n (ZY_ok P) 3 rfl trivial ?_
  refine RQ_v vX5_isIn (y_isIn hv hrR) rfl k4_72 rfl rfl rfl (zy3 v rfl) rfl ?_
  refine RQ_b rfl (fun q4 => ?_) (fun q4 => ?_)
  · exact pass (fun z => by rw [bI_0.mp q4] at z; cases z)
  have q4 := bI_t q4
  refine RQ_n (ZY_ok P) 2 rfl trivial ?_
  refine RQ_v vX4_emptyAhead (y_emptyAhead hv (by omega)) rfl k4_76 rfl rfl rfl (zy14 v rfl) rfl ?_
  refine RQ_n (ZY_ok P) 5 rfl ⟨nI_in (by omega) (by omega), trivial⟩ ?_
  have hz := zea_le G (v.1 14 1) r (zgn G r) 0
  have hza := zea_ae G (v.1 14 1) r (zgn G r) 0
  refine RQ_b rfl (fun q5 => ?_) (fun q5 => ?_)
  · have q5 := (not_congr (zq_eq (b := zgn G r) rfl e5 (by omega) (by omega))).mp q5
    refine pass (fun _ z => absurd (hza.mpr z) (by omega))
  have q5 := (zq_eq (b := zgn G r) rfl e5 (by omega) (by omega)).mp (Classical.not_not.mp q5)
  have hae : zAE G (v.1 14 1) r 0 = true := hza.mp (by omega)
  refine RQ_n (ZY_ok P) 14 rfl ⟨nI_in (by omega) (by omega), trivial⟩ ?_
  have ew : v.1 14 1 ||| (1 : Int32) <<< (v.2.1 4 (nI r).toNatClampNeg &&& 31) = v.1 14 1 ||| b1 (zgl G r) := by rw [e4]; rfl
  obtain ⟨w, hw⟩ : ∃ w : SX, w = (updI v.1 14 1 (v.1 14 1 ||| (1 : Int32) <<< (v.2.1 4 (nI r).toNatClampNeg &&& 31)), v.2) := ⟨_, rfl⟩
  have hw1 : w.1 14 1 = v.1 14 1 ||| b1 (zgl G r) := by rw [hw, ← ew]; rfl
  have hwf : frX [(14, 1)] [] v w := by rw [hw]; exact frX.i 14 1 (by decide)
  show RnQ (ZY P) mX4_findEmpty (27, _, [], (updI v.1 14 1 (v.1 14 1 ||| (1 : Int32) <<< (v.2.1 4 (nI r).toNatClampNeg &&& 31)), v.2)) _
  rw [← hw]
  have hl6 := h.1.l hrR
  refine ih2 hrR () _ _ ⟨rfl, rfl, rfl, rfl, nIs r, trivial⟩ ⟨g1.tr hwf, ?_, fun E' hE => ?_, fun z r' hr' a1 a2 => ?_⟩
  · rw [hw1]; exact bsub_tr g2 bsub_l
  · rw [hw1]
    exact bsub_or (g3 E' hE) (b1_sub (by omega) (hE r hrR q4 (zae_up (g3 E' hE) hae)))
  · have hb1 : bt (u.1 14 1) (zgl G r) = true := by rw [← z, hw1, b_or, b1_at (by omega), Bool.or_true]
    by_cases y : r' = r
    · subst y; exact hb1
    · refine g4 (bsub_an ?_ g2) r' (by omega) a1 a2
      rw [← z, hw1]; exact bsub_l
