/-! Facts: looksBehind, addFollows, findFollow, shortestSum, findShortest. -/
theorem frX.s {ks : List (Nat × Nat)} {as : List Nat} {s : SX} (a : Nat) {g : Nat → Int32} (h : a ∈ as) : frX ks as s (s.1, setA s.2.1 a g, s.2.2) := ⟨fun _ _ _ => rfl, fun b hb => setA_ne (fun q => hb (by rw [q]; exact h)), rfl⟩
theorem y_looksBehind {P : YP} {G : ZGT} {u : SX} (h : ZGX G u) (hR : RSX G u) (h5 : ∀ n, n < 6 → bsub (u.2.1 15 n) 511) {r i : Nat} (hr : r ≤ zgR G) (hi : i ≤ zgn G r) (x : Int32) : Ev (ZY P) mX4_looksBehind [.ref 14, .int (nI r), .int (nI i), .int x] u (some (.int (zLB G (u.1 14 1) (u.2.1 15) r i x))) u := by
  have hb := h.b
  have hn := h.1.n hr
  have e6 : nI r * 6 + nI i = nI (6 * r + i) := by rw [nI_mul6r, nI_add]
  have e1 : u.2.1 18 (nI r * 6 + nI i).toNatClampNeg = zRS G (u.1 14 1) (u.2.1 15) r i := by rw [e6, nI_clamp (by omega)]; exact hR r hr i hi
  have e2 := zRS_511 h.1 (em := u.1 14 1) (i := i) hr h5
  have e3 := zRS_65536 h.1 (em := u.1 14 1) (i := i) hr h5
  refine Ev_V vX4_looksBehind rfl ?_
  refine Rn_n (ZY_ok P) 9 rfl ⟨by rw [e6]; exact nI_in (by omega) (by omega), trivial⟩ ?_
  rw [e1]
  refine Rn_n (ZY_ok P) 6 rfl trivial ?_
  refine Rn_b rfl (fun q => ?_) (fun q => ?_)
  · have q : zRS G (u.1 14 1) (u.2.1 15) r i &&& 65536 = 0 := q
    rw [e3] at q
    refine Rn_n (ZY_ok P) 2 rfl trivial ?_
    refine Rn_to (Rn_iret rfl rfl) ?_ rfl
    rw [e2, zLB, if_neg (fun z => by rw [if_pos z] at q; exact absurd q (by decide))]
  · have q : ¬ zRS G (u.1 14 1) (u.2.1 15) r i &&& 65536 = 0 := q
    rw [e3] at q
    refine Rn_n (ZY_ok P) 3 rfl trivial ?_
    refine Rn_to (Rn_iret rfl rfl) ?_ rfl
    rw [e2, zLB, if_pos (Classical.byContradiction fun z => q (by rw [if_neg z]))]
/-- what the fields of Facts say as follow is found -/
def FE (G : ZGT) (E : Int32) (F : Nat → Int32) (u : SX) : Prop := u.1 14 1 = E ∧ u.2.1 15 = F ∧ RSX G u
theorem FE.fr {G : ZGT} {E : Int32} {F : Nat → Int32} {u v : SX} {ks : List (Nat × Nat)} {as : List Nat} (h : FE G E F u) (f : frX ks as u v) (h1 : (14, 1) ∉ ks) (h2 : 15 ∉ as) (h3 : 18 ∉ as) : FE G E F v := by
  obtain ⟨a, b, c⟩ := h
  refine ⟨by rw [f.1 14 1 h1]; exact a, by rw [f.2.1 15 h2]; exact b, ?_⟩
  unfold RSX
  rw [f.1 14 1 h1, f.2.1 15 h2, f.2.1 18 h3]
  exact c
/-- one rule's letters: follow grows; W0: what it was when the turn began -/
def afJ (G : ZGT) (E : Int32) (F W0 : Nat → Int32) (r i : Nat) (x : Bool) (u v : SX) : Prop :=
  frX [] [16] u v ∧ (∀ n, n < 6 → bsub (W0 n) (v.2.1 16 n)) ∧ (∀ W', zcW G E F W' → ∀ n, n < 6 → bsub (v.2.1 16 n) (W' n)) ∧ (x = true → ∃ n, n < 6 ∧ v.2.1 16 n ≠ W0 n) ∧
  (x = false → v.2.1 16 = W0 ∧ ∀ j, j < i → 8 ≤ zgt G r j → bsub (zLB G E F r (j + 1) (W0 (zgl G r))) (W0 (zgt G r j - 8)))
set_option maxHeartbeats 1000000 in
theorem y_addFollows {P : YP} {G : ZGT} {u : SX} {E : Int32} {F : Nat → Int32} (h : ZGX G u) (hF : FE G E F u) (h5 : ∀ n, n < 6 → bsub (F n) 511) {r : Nat} (hr : r < zgR G) (hin : zgi G r = true) (hl : ∀ W', zcW G E F W' → ∀ n, n < 6 → bsub (u.2.1 16 n) (W' n)) :
    EvQ (ZY P) mX4_addFollows [.ref 14, .int (nI r)] u (fun x v => ∃ b, x = some (.int (bI b)) ∧ afJ G E F (u.2.1 16) r (zgn G r) b u v) := by
  have hb := h.b
  have hn := h.1.n (r := r) (by omega)
  have hl6 := h.1.l hr
  have hrc : (nI r).toNatClampNeg = r := nI_clamp (by omega)
  obtain ⟨W0, hW0⟩ : ∃ W0, W0 = u.2.1 16 := ⟨_, rfl⟩
  rw [← hW0]
  refine EQ_V vX4_addFollows rfl ?_
  refine RQ_n (ZY_ok P) 4 rfl trivial ?_
  refine loopU (zgn G r) (fun i (x : Bool) => [some (.ref 14), some (.int (nI r)), some (.int (bI x)), some (.int (nI i)), none]) (fun i x v => afJ G E F W0 r i x u v) ?_ 0 false u (by omega) ⟨frX.rf, fun n _ => (by rw [hW0]; exact bsub_rf), hl, fun z => (by cases z), fun _ => ⟨hW0.symm, fun j hj => by omega⟩⟩
  intro i x v hi hJ ih
  obtain ⟨g1, g2, g3, g4, g5⟩ := hJ
  have hv : ZGX G v := h.fr g1 (by decide)
  have hvF : FE G E F v := hF.fr g1 (by decide) (by decide) (by decide)
  have e5 : v.2.1 5 (nI r).toNatClampNeg = nI (zgn G r) := by rw [hrc]; exact hv.n (by omega)
  have e4 : v.2.1 4 (nI r).toNatClampNeg = nI (zgl G r) := by rw [hrc]; exact hv.l hr
  refine RQ_n (ZY_ok P) 6 rfl ⟨nI_in (by omega) (by omega), trivial⟩ ?_
  refine RQ_b rfl (fun q => ?_) (fun q => ?_)
  · have q := (zq_le e5 rfl (by omega) (by omega)).mp q
    have : i = zgn G r := by omega
    subst this
    refine RQ_n (ZY_ok P) 1 rfl trivial ?_
    exact RQ_to (Rn_zret rfl rfl (bI_01 _)) ⟨x, rfl, g1, g2, g3, g4, g5⟩
  have q := (not_congr (zq_le e5 rfl (by omega) (by omega))).mp q
  have hin2 : i < zgn G r := by omega
  have hlt := h.1.t (r := r) (by omega) hin2
  refine RQ_n (ZY_ok P) 4 rfl trivial ?_
  refine RQ_v vX5_letterAt (y_letterAt hv (by omega) (by omega)) rfl k4_86 rfl rfl rfl (zy3 v rfl) rfl ?_
  rw [zlt_in hin2]
  refine RQ_n (ZY_ok P) 3 rfl trivial ?_
  refine RQ_b rfl (fun q2 => ?_) (fun q2 => ?_)
  · have q2 := (zq_lt (a := zgt G r i) (b := 8) rfl rfl (by omega) (by omega)).mp q2
    refine RQ_n (ZY_ok P) 2 rfl trivial ?_
    refine ih hin2 x _ _ ⟨rfl, rfl, rfl, nIs i, trivial⟩ ⟨g1, g2, g3, g4, fun z => ⟨(g5 z).1, fun j hj h8 => ?_⟩⟩
    by_cases y : j = i
    · subst y; omega
    · exact (g5 z).2 j (by omega) h8
  have q2 := (not_congr (zq_lt (a := zgt G r i) (b := 8) rfl rfl (by omega) (by omega))).mp q2
  obtain ⟨n, hn8⟩ : ∃ n, zgt G r i = 8 + n := ⟨zgt G r i - 8, by omega⟩
  have hn6 : n < 6 := by omega
  have e8 : nI (zgt G r i) - 8 = nI n := by rw [hn8, show (8 : Int32) = nI 8 from rfl, nI_sub (by omega), Nat.add_sub_cancel_left]
  have e9 : nI i + 1 = nI (i + 1) := nI_1 i
  have e10 : v.2.1 16 (v.2.1 4 (nI r).toNatClampNeg).toNatClampNeg = v.2.1 16 (zgl G r) := by rw [e4, nI_clamp (by omega)]
  refine RQ_n (ZY_ok P) 19 rfl ⟨nI_in (by omega) (by omega), by rw [e4]; exact nI_in (by omega) (by omega), trivial⟩ ?_
  obtain ⟨y, hy⟩ : ∃ y, y = zLB G E F r (i + 1) (v.2.1 16 (zgl G r)) := ⟨_, rfl⟩
  have hlb := y_looksBehind (P := P) hv hvF.2.2 (by rw [hvF.2.1]; exact h5) (r := r) (i := i + 1) (by omega) (by omega) (v.2.1 16 (zgl G r))
  rw [hvF.1, hvF.2.1, ← hy] at hlb
  refine RQ_v vX4_looksBehind (as := [.int (nI r), .int (nI (i + 1)), .int (v.2.1 16 (zgl G r))]) hlb rfl k4_116 (by rw [← e9, ← e10]; rfl) rfl rfl (zy14 v rfl) rfl ?_
  refine RQ_s vX4_add (as := [.ref 16, .int (nI n), .int y]) (y_add v 16 6 n y (by omega) hn6 (by omega) (fun _ _ => rfl)) rfl k4_104 (by rw [← e8]; rfl) rfl rfl rfl ?_
  obtain ⟨w, hw⟩ : ∃ w : SX, w = (v.1, setA v.2.1 16 (upd (v.2.1 16) n (v.2.1 16 n ||| y)), v.2.2) := ⟨_, rfl⟩
  rw [← hw]
  have hwf : frX [] [16] v w := by rw [hw]; exact frX.s 16 (by decide)
  have h16 : w.2.1 16 = upd (v.2.1 16) n (v.2.1 16 n ||| y) := by rw [hw]; rfl
  have hup : ∀ k, k < 6 → bsub (v.2.1 16 k) (w.2.1 16 k) := by
    intro k hk
    rw [h16]
    by_cases z : k = n
    · subst z; rw [upd_at]; exact bsub_l
    · rw [upd_ne z]; exact bsub_rf
  have hor : ∀ a b : Bool, bI a ||| bI b = bI (a || b) := by decide
  refine RQ_n (ZY_ok P) 2 rfl trivial ?_
  rw [show (bI x ||| bI (!decide (v.2.1 16 n ||| y = v.2.1 16 n))) = bI (x || !decide (v.2.1 16 n ||| y = v.2.1 16 n)) from hor _ _]
  refine RQ_n (ZY_ok P) 2 rfl trivial ?_
  refine ih hin2 (x || !decide (v.2.1 16 n ||| y = v.2.1 16 n)) _ _ ⟨rfl, rfl, rfl, nIs i, trivial⟩ ⟨g1.tr hwf, fun k hk => bsub_tr (g2 k hk) (hup k hk), fun W' hW' k hk => ?_, fun z => ?_, fun z => ?_⟩
  · rw [h16]
    by_cases z : k = n
    · subst z
      rw [upd_at]
      refine bsub_or (g3 W' hW' _ hk) ?_
      have := hW'.2 r hr hin i hin2 (by omega)
      rw [hn8, Nat.add_sub_cancel_left] at this
      refine bsub_tr ?_ this
      rw [hy]
      exact zLB_up (g3 W' hW' _ hl6)
    · rw [upd_ne z]; exact g3 W' hW' k hk
  · by_cases hx : x = true
    · obtain ⟨k, hk, hne⟩ := g4 hx
      refine ⟨k, hk, fun y => hne ?_⟩
      refine bsub_an ?_ (g2 k hk)
      rw [← y]
      exact hup k hk
    · rw [Bool.eq_false_iff.mpr hx, Bool.false_or, Bool.not_eq_true', decide_eq_false_iff_not] at z
      refine ⟨n, hn6, fun y1 => z ?_⟩
      have : v.2.1 16 n = W0 n := by
        refine bsub_an ?_ (g2 _ hn6)
        rw [← y1]
        exact hup _ hn6
      rw [h16, upd_at] at y1
      rw [y1, this]
  · rw [Bool.or_eq_false_iff, Bool.not_eq_false', decide_eq_true_eq] at z
    obtain ⟨a1, a2⟩ := g5 z.1
    have z2 := z.2
    rw [a1] at z2 hy
    refine ⟨?_, fun j hj h8 => ?_⟩
    · rw [h16, a1, z2]
      funext k
      by_cases y1 : k = n
      · subst y1; rw [upd_at]
      · rw [upd_ne y1]
    · by_cases y1 : j = i
      · subst y1
        rw [hn8, Nat.add_sub_cancel_left, ← hy, ← z2]
        exact bsub_r
      · exact a2 j (by omega) h8
set_option maxHeartbeats 1000000 in
theorem y_findFollow {P : YP} {G : ZGT} {s : SX} {E : Int32} {F : Nat → Int32} (h : ZGX G s) (hF : FE G E F s) (h5 : ∀ n, n < 6 → bsub (F n) 511) : EvQ (ZY P) mX4_findFollow [.ref 14] s (fun x u => x = none ∧ zlW G E F (u.2.1 16) ∧ frX [] [16] s u) := by
  have hb := h.b
  refine EQ_V vX4_findFollow rfl ?_
  refine RQ_n (ZY_ok P) 3 rfl trivial ?_
  refine RQ_s vJ7_fill_53178 (y_fill s 16 6 0 (by omega) (by omega) (fun _ _ => rfl)) rfl k4_93 rfl rfl rfl rfl ?_
  obtain ⟨s1, hs1⟩ : ∃ w : SX, w = (s.1, setA s.2.1 16 (fil (s.2.1 16) 0 6 0), s.2.2) := ⟨_, rfl⟩
  rw [← hs1]
  have hf1 : frX [] [16] s s1 := by rw [hs1]; exact frX.s 16 (by decide)
  have h15 : ∀ n, n < 6 → s1.2.1 16 n = 0 := fun n hn => by
    rw [hs1]
    show fil (s.2.1 16) 0 6 0 n = 0
    exact fil_in (by omega) hn
  refine RQ_n (ZY_ok P) 5 rfl trivial ?_
  refine RQ_v vX5_endBit (y_endBit (h.fr hf1 (by decide))) rfl k4_109 rfl rfl rfl (zy3 s1 rfl) rfl ?_
  refine RQ_n (ZY_ok P) 5 rfl ⟨nI_in (c := 0) (by omega) (by omega), trivial⟩ ?_
  obtain ⟨s2, hs2⟩ : ∃ w : SX, w = (s1.1, updA s1.2.1 16 (Int32.toNatClampNeg 0) (b1 (zgT G)), s1.2.2) := ⟨_, rfl⟩
  have hf2 : frX [] [16] s s2 := hf1.tr (by rw [hs2]; exact frX.a 16 (by decide))
  have h16 : s2.2.1 16 = upd (s1.2.1 16) 0 (b1 (zgT G)) := by rw [hs2]; rfl
  have key := loopD (Z := ZY P) (M := mX4_findFollow) (pc := 25) (Q := fun x u => x = none ∧ zlW G E F (u.2.1 16) ∧ frX [] [16] s u) (fun (x : Nat × Bool) => [some (.ref 14), some (.int (bI x.2)), some (.int (nI x.1)), none]) (fun m x u => m + x.1 = 300 ∧ x.1 ≤ 200 ∧ frX [] [16] s u ∧ bsub (b1 (zgT G)) (u.2.1 16 0) ∧ (∀ W', zcW G E F W' → ∀ n, n < 6 → bsub (u.2.1 16 n) (W' n)) ∧ (x.2 = true → x.1 ≤ ct6 (u.2.1 16)) ∧ (x.2 = false → zcW G E F (u.2.1 16))) ?_ 300 (0, true) s2 ⟨rfl, by decide, hf2, ?_, fun W' hW' n hn => ?_, fun _ => Nat.zero_le _, fun z => by cases z⟩
  · show RnQ (ZY P) mX4_findFollow (25, [some (.ref 14), some (.int 1), some (.int 0), none], [], (s1.1, updA s1.2.1 16 (Int32.toNatClampNeg 0) (b1 (zgT G)), s1.2.2)) _
    rw [← hs2]
    exact key
  · intro m x u hJ ih
    obtain ⟨k, more⟩ := x
    obtain ⟨hm, hk7, hf, h0, hl, ht, hc⟩ := hJ
    dsimp only at hm hk7 ht hc ⊢
    have h192 := ct6_le (u.2.1 16)
    refine RQ_n (ZY_ok P) 1 rfl trivial ?_
    refine RQ_b rfl (fun q => ?_) (fun q => ?_)
    · have q := bI_0.mp q
      exact RQ_to (Rn_vret rfl rfl) ⟨rfl, ⟨hc q, hl⟩, hf⟩
    have q := bI_t q
    have hk := ht q
    refine RQ_n (ZY_ok P) 2 rfl trivial ?_
    refine RQ_b rfl (fun q2 => ?_) (fun q2 => ?_)
    · have q2 := (zq_le (a := 1000000) (b := k) rfl rfl (by omega) (by omega)).mp q2
      omega
    refine RQ_n (ZY_ok P) 4 rfl trivial ?_
    obtain ⟨W0, hW0⟩ : ∃ W0, W0 = u.2.1 16 := ⟨_, rfl⟩
    refine loopU (zgR G) (fun r (x : Bool) => [some (.ref 14), some (.int (bI x)), some (.int (nI k)), some (.int (nI r))]) (fun r x v => frX [] [16] s v ∧ (∀ n, n < 6 → bsub (W0 n) (v.2.1 16 n)) ∧ (∀ W', zcW G E F W' → ∀ n, n < 6 → bsub (v.2.1 16 n) (W' n)) ∧ (x = true → ∃ n, n < 6 ∧ v.2.1 16 n ≠ W0 n) ∧ (x = false → v.2.1 16 = W0 ∧ ∀ r', r' < r → zgi G r' = true → ∀ i, i < zgn G r' → 8 ≤ zgt G r' i → bsub (zLB G E F r' (i + 1) (W0 (zgl G r'))) (W0 (zgt G r' i - 8)))) ?_ 0 false u (by omega) ⟨hf, fun n _ => (by rw [hW0]; exact bsub_rf), hl, fun z => (by cases z), fun _ => ⟨hW0.symm, fun r' hr' => by omega⟩⟩
    intro r x v hr hJ ih2
    obtain ⟨g1, g2, g3, g4, g5⟩ := hJ
    have hv : ZGX G v := h.fr g1 (by decide)
    have hvF : FE G E F v := hF.fr g1 (by decide) (by decide) (by decide)
    refine RQ_n (ZY_ok P) 4 rfl trivial ?_
    refine RQ_b rfl (fun q3 => ?_) (fun q3 => ?_)
    · have q3 := (zq_le hv.R rfl (by omega) (by omega)).mp q3
      have hrR : r = zgR G := by omega
      subst hrR
      refine RQ_n (ZY_ok P) 2 rfl trivial ?_
      have hb0 : bsub (b1 (zgT G)) (v.2.1 16 0) := bsub_tr (by rw [hW0]; exact h0) (g2 0 (by omega))
      cases x with
      | false =>
        obtain ⟨a1, a2⟩ := g5 rfl
        refine ih (m - 1) (k + 1, false) _ _ (by omega) ⟨rfl, rfl, nIs k, trivial⟩ ⟨by dsimp only; omega, by dsimp only; omega, g1, hb0, g3, (fun z => by cases z), fun _ => ⟨hb0, ?_⟩⟩
        rw [a1]; exact a2
      | true =>
        obtain ⟨n, hn, hne⟩ := g4 rfl
        refine ih (m - 1) (k + 1, true) _ _ (by omega) ⟨rfl, rfl, nIs k, trivial⟩ ⟨by dsimp only; omega, by dsimp only; omega, g1, hb0, g3, fun _ => ?_, (fun z => by cases z)⟩
        have := ct6_lt g2 hn (fun z => hne z.symm)
        dsimp only
        rw [hW0] at this
        omega
    have q3 := (not_congr (zq_le hv.R rfl (by omega) (by omega))).mp q3
    have hrR : r < zgR G := by omega
    have pass : ∀ (x' : Bool) (w : SX), frX [] [16] v w → (∀ n, n < 6 → bsub (W0 n) (w.2.1 16 n)) → (∀ W', zcW G E F W' → ∀ n, n < 6 → bsub (w.2.1 16 n) (W' n)) → (x' = true → ∃ n, n < 6 ∧ w.2.1 16 n ≠ W0 n) → (x' = false → x = false ∧ w.2.1 16 = W0 ∧ (zgi G r = true → ∀ i, i < zgn G r → 8 ≤ zgt G r i → bsub (zLB G E F r (i + 1) (W0 (zgl G r))) (W0 (zgt G r i - 8)))) → RnQ (ZY P) mX4_findFollow (71, [some (.ref 14), some (.int (bI x')), some (.int (nI k)), some (.int (nI r))], [], w) (fun x u => x = none ∧ zlW G E F (u.2.1 16) ∧ frX [] [16] s u) := by
      intro x' w a1 a2 a3 a4 a5
      refine RQ_n (ZY_ok P) 2 rfl trivial ?_
      refine ih2 hrR x' _ _ ⟨rfl, rfl, rfl, nIs r, trivial⟩ ⟨g1.tr a1, a2, a3, a4, fun z => ?_⟩
      obtain ⟨b1', b2, b3⟩ := a5 z
      refine ⟨b2, fun r' hr' => ?_⟩
      by_cases y : r' = r
      · subst y; exact b3
      · exact (g5 b1').2 r' (by omega)
    refine RQ_n (ZY_ok P) 3 rfl trivial ?_
    refine RQ_v vX5_isIn (y_isIn hv hrR) rfl k4_72 rfl rfl rfl (zy3 v rfl) rfl ?_
    refine RQ_b rfl (fun q4 => ?_) (fun q4 => ?_)
    · exact pass x v frX.rf g2 g3 g4 (fun z => ⟨z, (g5 z).1, fun y => by rw [bI_0.mp q4] at y; cases y⟩)
    have q4 := bI_t q4
    refine RQ_n (ZY_ok P) 2 rfl trivial ?_
    refine RQ_V vX4_addFollows (y_addFollows hv hvF h5 hrR q4 g3) rfl k4_113 rfl rfl rfl (zy14 v rfl) (fun r1 s1 h => by obtain ⟨b, -, h⟩ := h; exact h.1.n) (fun r1 w hw => ?_)
    obtain ⟨b, rfl, a1, a2, a3, a4, a5⟩ := hw
    have a6 : ∀ n, n < 6 → bsub (W0 n) (w.2.1 16 n) := fun n hn => bsub_tr (g2 n hn) (a2 n hn)
    refine RQ_b rfl (fun q5 => ?_) (fun q5 => ?_)
    · have q5 := bI_0.mp q5
      obtain ⟨c1, c2⟩ := a5 q5
      refine pass x w a1 a6 a3 ?_ (fun z => ⟨z, by rw [c1]; exact (g5 z).1, fun _ => ?_⟩)
      · rw [c1]; exact g4
      · rw [← (g5 z).1]; exact c2
    · have q5 := bI_t q5
      refine RQ_n (ZY_ok P) 2 rfl trivial ?_
      refine pass true w a1 a6 a3 (fun _ => ?_) (fun z => by cases z)
      obtain ⟨n, hn, hne⟩ := a4 q5
      refine ⟨n, hn, fun z => hne (bsub_an ?_ (a2 n hn))⟩
      rw [z]; exact g2 n hn
  · rw [h16, upd_at]; exact bsub_rf
  · rw [h16]
    by_cases z : n = 0
    · subst z; rw [upd_at]; exact hW'.1
    · rw [upd_ne z, h15 n hn]; exact bsub_0
