/-! The class: firstByOneAlone. -/
/-- the first word of a length, as digits -/
noncomputable def zf1a (G : ZGT) (M N : ZNM) (p : Int32) (L : Nat) : Int32 := match zft (zqw G M N p L) (zgT G ^ L) 0 with
  | some w => zwn (zdg (zgT G) L w) L
  | none => -1
section FrA
variable {G : ZGT} {os : Nat → Option ZAS} {u : SX} {d1 d2 : Nat} {A B : ZAS}
theorem zcan_3 {N : ZNM} {p : Int32} {L : Nat} {f : Nat → Nat} (hG : GW G) (hF : ZNF G N) (hf : ∀ i, i < L → f i ≤ zgT G ∨ f i = 99) : (zcan G N p 0 L f).1 < 3 := by
  unfold zcan rrt
  exact (zrt_end hG hF hf 301 _ ⟨rr0_W hF.1.1 zt0, (rr0_W hF.1.1 zt0).k, Nat.zero_le _⟩ (fun _ => rfl)).1
set_option maxHeartbeats 2000000 in
theorem z_firstByOneAlone (h1 : d1 < 3) (h2 : d2 < 3) (ho1 : os d1 = some A) (ho2 : os d2 = some B) (hZ : ∀ kd, kd < 3 → ZAt G kd (os kd)) (h : X3 G os u) (g1 : (swX d1 u).1 36 3 = 0) (g2 : (swX d2 u).1 36 3 = 0) {p : Int32} (hT1 : XT G (zN A) p (swX d1 u)) (hT2 : XT G (zN B) p (swX d2 u)) {L : Nat} (hL : L ≤ 4) :
    EvQ (ZY YP0) mX11_firstByOneAlone [.ref 0, .ref (zsw d1 47), .ref (zsw d2 47), .int (nI L)] u (fun x v => x = some (.int (zf1a G (zN A) (zN B) p L)) ∧ X3 G os v ∧ frZ u v ∧ frO 3 u v ∧ v.2.2.2.2.1 = u.2.2.2.2.1) := by
  have hG := h.f.1
  have hb := hG.b
  obtain ⟨T, hTT⟩ : ∃ T, T = zgT G := ⟨_, rfl⟩
  obtain ⟨a1, ha1⟩ : ∃ a, a = zsw d1 47 := ⟨_, rfl⟩
  obtain ⟨a2, ha2⟩ : ∃ a, a = zsw d2 47 := ⟨_, rfl⟩
  rw [← ha1, ← ha2]
  obtain ⟨q, hq⟩ : ∃ q, q = zqw G (zN A) (zN B) p L := ⟨_, rfl⟩
  obtain ⟨Q, hQ⟩ : ∃ Q : Option Value → SX → Prop, Q = (fun x v => x = some (.int (zf1a G (zN A) (zN B) p L)) ∧ X3 G os v ∧ frZ u v ∧ frO 3 u v ∧ v.2.2.2.2.1 = u.2.2.2.2.1) := ⟨_, rfl⟩
  rw [← hQ]
  have hTp : T ^ L ≤ 32768 := zT4 (by omega) (by omega)
  have vno : zft q (T ^ L) 0 = none → zf1a G (zN A) (zN B) p L = -1 := fun e => by
    unfold zf1a
    rw [← hq, ← hTT, e]
  refine EQ_V vX11_firstByOneAlone rfl ?_
  -- the search
  have srch : (0 < L → 0 < T) → ∀ m (x : Nat × Nat) v, (m + x.1 = T ^ L ∧ x.1 < T ^ L ∧ x.2 ≤ x.1) ∧ (X3 G os v ∧ frZ u v ∧ frO 3 u v ∧ v.2.2.2.2.1 = u.2.2.2.2.1) ∧ (v.1 87 3 = nI L ∧ ∀ i, i < L → v.2.1 88 i = nI (zdg T L x.1 i)) ∧ (∀ j, j < x.1 → q j = false) → RnQ (ZY YP0) mX11_firstByOneAlone (53, [some (.ref 0), some (.ref a1), some (.ref a2), some (.int (nI L)), some (.int 1), some (.int (nI x.2)), none], [], v) Q := by
    intro hTL
    have hT0 : ∀ i, i < L → 0 < T := fun i hi => hTL (by omega)
    refine loopD (M := mX11_firstByOneAlone) (pc := 53) (fun (x : Nat × Nat) => [some (.ref 0), some (.ref a1), some (.ref a2), some (.int (nI L)), some (.int 1), some (.int (nI x.2)), none]) (fun m (x : Nat × Nat) v => (m + x.1 = T ^ L ∧ x.1 < T ^ L ∧ x.2 ≤ x.1) ∧ (X3 G os v ∧ frZ u v ∧ frO 3 u v ∧ v.2.2.2.2.1 = u.2.2.2.2.1) ∧ (v.1 87 3 = nI L ∧ ∀ i, i < L → v.2.1 88 i = nI (zdg T L x.1 i)) ∧ (∀ j, j < x.1 → q j = false)) ?_
    intro m x v hJ ih
    obtain ⟨w, tn⟩ := x
    obtain ⟨⟨m1, m2, m3⟩, ⟨x1, x2, x3, x4⟩, ⟨i1, i2⟩, n1⟩ := hJ
    dsimp only at m1 m2 m3 i2 n1 ⊢
    have hinp : ∀ i, i < L → zdg T L w i ≤ zgT G ∨ zdg T L w i = 99 := fun i hi => Or.inl (by have := zdg_lt (L := L) (w := w) (i := i) (hT0 i hi); omega)
    have hd8 : ∀ i, i < L → zdg T L w i ≤ 8 := fun i hi => by have := zdg_lt (L := L) (w := w) (i := i) (hT0 i hi); omega
    have f1 := x3.f3 h1 (by omega) g1
    have f2 := x3.f3 h2 (by omega) g2
    have t1 := hT1.o h1 (by omega) x3
    have t2 := hT2.o h2 (by omega) x3
    obtain ⟨hF1, -⟩ := x1.vv h1 ho1 (hZ d1 h1) f1
    obtain ⟨hF2, -⟩ := x1.vv h2 ho2 (hZ d2 h2) f2
    -- what comes behind
    have p126 : ∀ v1 pl, pl ≤ L → X3 G os v1 → frZ u v1 → frO 3 u v1 → v1.2.2.2.2.1 = u.2.2.2.2.1 → v1.1 87 3 = nI L → (∀ i, i < L → v1.2.1 88 i = nI (zdg T L w i)) → (∀ j, w ≤ j → j < T ^ L → (∀ i, i < min (pl + 1) L → zdg T L j i = zdg T L w i) → q j = false ∨ L = 0) → q w = false → RnQ (ZY YP0) mX11_firstByOneAlone (126, [some (.ref 0), some (.ref a1), some (.ref a2), some (.int (nI L)), some (.int 1), some (.int (nI tn)), some (.int (nI pl))], [], v1) Q := by
      intro v1 pl hpl y1 y2 y3 y4 y5 y6 hpre hqw
      obtain ⟨n, hn⟩ : ∃ n, n = min (pl + 1) L := ⟨_, rfl⟩
      have hnL : n ≤ L := by omega
      rw [← hn] at hpre
      refine RQ_n (ZY_ok YP0) 6 rfl trivial ?_
      refine RQ_min rfl k11_403 rfl ?_
      have emin : (if nI L - 1 < nI pl then nI L - 1 else nI pl) = nI n - 1 := by
        by_cases hL0 : L = 0
        · have hp0 : pl = 0 := by omega
          have hn0 : n = 0 := by omega
          rw [hL0, hp0, hn0]; rfl
        · rw [nI_m (by omega)]
          by_cases c : L - 1 < pl
          · rw [if_pos ((zq_lt (a := L - 1) (b := pl) rfl rfl (by omega) (by omega)).mpr c), nI_m (by omega)]
            congr 1
            omega
          · rw [if_neg (fun y => c ((zq_lt (a := L - 1) (b := pl) rfl rfl (by omega) (by omega)).mp y)), nI_m (by omega)]
            congr 1
            omega
      rw [emin]
      refine RQ_V vX8_nextInput (y_nextInput y1.f.1 y5 (by omega) y6 hd8 hnL) rfl k11_408 rfl rfl rfl (zy87 _ rfl) (fun _ s1 q => by show 3 * s1.2.2.2.2.1 + 99 = 3 * v1.2.2.2.2.1 + 99; rw [q.2.2.2.2]) ?_
      rintro r2 v2 ⟨rfl, s1, s2⟩
      rw [← hTT] at s1 ⊢
      have X2 : X3 G os v2 := y1.in (s2.up (by decide) (by decide))
      have Z2 := y2.tr (s2.z (by decide) (by decide))
      have O2 := y3.tr (s2.o (by decide) (by decide))
      have N2 : v2.2.2.2.2.1 = u.2.2.2.2.1 := by rw [s2.2.2]; exact y4
      have stop : zni T n (zcut (zdg T L w) n) = none → (∀ j, w ≤ j → j < T ^ L → q j = false) → RnQ (ZY YP0) mX11_firstByOneAlone (141, [some (.ref 0), some (.ref a1), some (.ref a2), some (.int (nI L)), some (.int 1), some (.int (nI tn)), some (.int (nI pl))], [.int (bI (zni T n (zcut (zdg T L w) n)).isSome)], v2) Q := by
        intro en hall
        rw [en]
        refine RQ_n (ZY_ok YP0) 3 rfl trivial ?_
        refine RQ_n (ZY_ok YP0) 1 rfl trivial ?_
        refine RQ_b rfl (fun _ => ?_) (fun z => absurd rfl z)
        refine RQ_n (ZY_ok YP0) 1 rfl trivial ?_
        refine RQ_to (Rn_iret rfl rfl) ?_
        rw [hQ, vno (zft_none _ _ (fun j hj => ?_))]
        · exact ⟨rfl, X2, Z2, O2, N2⟩
        · rw [Nat.zero_add]
          by_cases c : j < w
          · exact n1 j c
          · exact hall j (by omega) hj
      by_cases hL0 : L = 0
      · have hn0 : n = 0 := by omega
        refine stop (by rw [hn0]; rfl) (fun j hj1 hj2 => ?_)
        rw [hL0, Nat.pow_zero] at hj2 m2
        rw [show j = w by omega]; exact hqw
      have hT1' : 0 < T := hTL (by omega)
      obtain ⟨k1, k2, k3, k4, k5⟩ := znw_ok (f := zdg T L w) hT1' hnL m2 (fun _ _ => rfl)
      have hnew : ∀ j, w ≤ j → j < znw T L n w → j < T ^ L → q j = false := fun j a b c => by
        rcases hpre j a c (k3 j a b) with y | y
        · exact y
        · exact absurd y hL0
      by_cases hlt : znw T L n w < T ^ L
      · obtain ⟨g, e1, e2⟩ := k4 hlt
        rw [e1]
        refine RQ_n (ZY_ok YP0) 3 rfl trivial ?_
        refine ih (T ^ L - znw T L n w) (znw T L n w, tn + 1) _ _ (by omega) ⟨rfl, rfl, rfl, rfl, rfl, nIs tn, trivial⟩ ⟨⟨by show T ^ L - znw T L n w + znw T L n w = T ^ L; omega, hlt, by show tn + 1 ≤ znw T L n w; omega⟩, ⟨X2, Z2, O2, N2⟩, ⟨by rw [s2.1 87 3 (by decide)]; exact y5, fun i hi => by rw [s1 g e1 i hi, e2 i hi]⟩, fun j hj => ?_⟩
        have hj : j < znw T L n w := hj
        by_cases c : j < w
        · exact n1 j c
        · exact hnew j (by omega) hj (by omega)
      · exact stop (k5 hlt) (fun j a b => hnew j a (by omega) b)
    have hqv : ∀ j, q j = (decide ((zcan G (zN A) p 0 L (zdg T L j)).1 = 1) && !decide ((zcan G (zN B) p 0 L (zdg T L j)).1 = 1)) := fun j => by rw [hq, hTT]; rfl
    refine RQ_n (ZY_ok YP0) 1 rfl trivial ?_
    refine RQ_b rfl (fun z => absurd (show (1 : Int32) = 0 from z) (by decide)) (fun _ => ?_)
    refine RQ_n (ZY_ok YP0) 2 rfl trivial ?_
    refine RQ_b rfl (fun z => ?_) (fun _ => ?_)
    · have z := (zq_le (a := 1000000) (b := tn) rfl rfl (by omega) (by omega)).mp z
      omega
    refine RQ_n (ZY_ok YP0) 4 rfl trivial ?_
    rw [ha1]
    refine RQ_V vX8_run (z_run h1 ho1 (hZ d1 h1) x1 f1 t1 i1 (by omega) i2 hinp) rfl k11_362 rfl rfl rfl (zy87 _ rfl) (fun _ s1 q => by show 3 * s1.2.2.2.2.1 + 99 = 3 * v.2.2.2.2.1 + 99; rw [q.2.2.2.2.2.2.2.2]) ?_
    rintro r1 v1 ⟨rfl, e1, e2, y1, y2, y3, y4, y5, y6⟩
    rw [← ha1]
    have hrd := zcan_rd (N := zN A) (p := p) (len := L) (inp := zdg T L w) hG.1
    have hc3 := zcan_3 (p := p) hG.1 hF1 hinp
    have hc3b := zcan_3 (p := p) hG.1 hF2 hinp
    obtain ⟨R, hR⟩ : ∃ R, R = zcan G (zN A) p 0 L (zdg T L w) := ⟨_, rfl⟩
    rw [← hR] at e1 e2 hrd hc3
    have Z1 := x2.tr y2
    have O1 := x3.tr y3
    have N1 := y6.trans x4
    have L1 := y4.trans i1
    have I1 : ∀ i, i < L → v1.2.1 88 i = nI (zdg T L w i) := fun i hi => by rw [y5]; exact i2 i hi
    refine RQ_n (ZY_ok YP0) 3 rfl trivial ?_
    rw [e2]
    refine RQ_n (ZY_ok YP0) 5 rfl trivial ?_
    rw [e1]
    by_cases c1 : R.1 = 1
    · refine RQ_b rfl (fun z => absurd (show nI R.1 = 1 by rw [c1]; rfl) z) (fun _ => ?_)
      refine RQ_n (ZY_ok YP0) 4 rfl trivial ?_
      have f2' := y3.f3 h2 (by omega) f2
      have t2' := t2.o h2 (by omega) y3
      rw [ha2]
      refine RQ_V vX8_run (z_run h2 ho2 (hZ d2 h2) y1 f2' t2' L1 (by omega) I1 hinp) rfl k11_362 rfl rfl rfl (zy87 _ rfl) (fun _ s1 q => by show 3 * s1.2.2.2.2.1 + 99 = 3 * v1.2.2.2.2.1 + 99; rw [q.2.2.2.2.2.2.2.2]) ?_
      rintro r2 v2 ⟨rfl, b1, b2, z1, z2, z3, z4, z5, z6⟩
      rw [← ha2]
      refine RQ_n (ZY_ok YP0) 4 rfl trivial ?_
      rw [b1]
      by_cases c2 : (zcan G (zN B) p 0 L (zdg T L w)).1 = 1
      · refine RQ_b rfl (fun _ => ?_) (fun z => absurd (show nI (zcan G (zN B) p 0 L (zdg T L w)).1 = 1 by rw [c2]; rfl) z)
        refine RQ_n (ZY_ok YP0) 2 rfl trivial ?_
        have qw : q w = false := by rw [hqv, decide_eq_true c2, Bool.not_true, Bool.and_false]
        refine p126 v2 L (Nat.le_refl _) z1 (Z1.tr z2) (O1.tr z3) (z6.trans N1) (z4.trans L1) (fun i hi => by rw [z5]; exact I1 i hi) (fun j j1 j2 j3 => ?_) qw
        by_cases hL0 : L = 0
        · exact Or.inr hL0
        refine Or.inl ?_
        rw [hqv]
        have ee : zcan G (zN B) p 0 L (zdg T L j) = zcan G (zN B) p 0 L (zdg T L w) := by
          have hsame : zdg T L j = zdg T L w ∨ True := Or.inr trivial
          have hj : ∀ i, i < L → zdg T L j i = zdg T L w i := fun i hi => j3 i (by omega)
          have hw' : j = w := by
            obtain ⟨k1, k2, k3, -, -⟩ := znw_ok (n := L) (f := zdg T L w) (hTL (by omega)) (Nat.le_refl L) m2 (fun _ _ => rfl)
            have hz : znw T L L w = w + 1 := by unfold znw; rw [Nat.sub_self, Nat.pow_zero, Nat.div_one, Nat.mul_one]
            exact Classical.byContradiction (fun hne => absurd (zdg_inj (hTL (by omega)) j2 m2 hj) hne)
          rw [hw']
        rw [ee, decide_eq_true c2, Bool.not_true, Bool.and_false]
      · refine RQ_b rfl (fun z => absurd ((zq_eq (a := (zcan G (zN B) p 0 L (zdg T L w)).1) (b := 1) rfl rfl (by omega) (by omega)).mp z) c2) (fun _ => ?_)
        refine RQ_n (ZY_ok YP0) 2 rfl trivial ?_
        refine RQ_v vX8_inputAsNumber (y_inputAsNumber (f := zdg T L w) (z4.trans L1) (by omega) (fun i hi => by rw [z5]; exact I1 i hi)) rfl k11_400 rfl rfl rfl (zy87 _ rfl) rfl ?_
        have qw : q w = true := by rw [hqv, ← hR, decide_eq_true c1, decide_eq_false c2]; rfl
        have ef : zft q (T ^ L) 0 = some w := by
          have e3 := zft_skip (q := q) (T ^ L - w) w 0 (fun j hj => by rw [Nat.zero_add]; exact n1 j hj)
          rw [show w + (T ^ L - w) = T ^ L by omega, Nat.zero_add] at e3
          rw [e3]
          obtain ⟨m', hm'⟩ : ∃ m', T ^ L - w = m' + 1 := ⟨T ^ L - w - 1, by omega⟩
          rw [hm']
          show (if q w = true then some w else zft q m' (w + 1)) = _
          rw [if_pos qw]
        refine RQ_to (Rn_iret rfl rfl) ?_
        rw [hQ]
        refine ⟨?_, z1, Z1.tr z2, O1.tr z3, z6.trans N1⟩
        have ev : zf1a G (zN A) (zN B) p L = zwn (zdg T L w) L := by
          unfold zf1a
          rw [← hq, ← hTT, ef]
        rw [ev]
    · refine RQ_b rfl (fun _ => ?_) (fun z => absurd ((zq_eq (a := R.1) (b := 1) rfl rfl (by omega) (by omega)).mp (Classical.not_not.mp z)) c1)
      have qno : ∀ j, (zcan G (zN A) p 0 L (zdg T L j)).1 ≠ 1 → q j = false := fun j hj => by rw [hqv, decide_eq_false hj, Bool.false_and]
      refine p126 v1 (R.2.1.1 2) hrd y1 Z1 O1 N1 L1 I1 (fun j j1 j2 j3 => ?_) (qno w (by rw [← hR]; exact c1))
      by_cases hL0 : L = 0
      · exact Or.inr hL0
      refine Or.inl (qno j ?_)
      by_cases cp : R.2.1.1 2 < L
      · have ee : zcan G (zN A) p 0 L (zdg T L j) = zcan G (zN A) p 0 L (zdg T L w) := zcan_pre (fun i hi => by
          rw [← hR] at hi
          exact ⟨by omega, (j3 i (by omega)).symm⟩)
        rw [ee, ← hR]; exact c1
      · have hw' : j = w := zdg_inj (hTL (by omega)) j2 m2 (fun i hi => j3 i (by omega))
        rw [hw', ← hR]; exact c1
  -- the first word
  have p16 : (0 < L → 0 < T) → RnQ (ZY YP0) mX11_firstByOneAlone (16, [some (.ref 0), some (.ref a1), some (.ref a2), some (.int (nI L)), none, none, none], [], u) Q := by
    intro hTL
    refine RQ_n (ZY_ok YP0) 6 rfl trivial ?_
    obtain ⟨u1, hu1⟩ : ∃ x : SX, x = (updI u.1 87 3 0, u.2) := ⟨_, rfl⟩
    show RnQ (ZY YP0) mX11_firstByOneAlone (27, _, _, ((updI u.1 87 3 0, u.2) : SX)) _
    rw [← hu1]
    have f1 : frX [(87, 3)] [88] u u1 := by rw [hu1]; exact frX.i 87 3 (by decide)
    refine loopU (M := mX11_firstByOneAlone) (pc := 27) L (fun i (_ : Unit) => [some (.ref 0), some (.ref a1), some (.ref a2), some (.int (nI L)), some (.int (nI i)), none, none]) (fun i _ w => w.1 87 3 = nI i ∧ (∀ j, j < i → w.2.1 88 j = 0) ∧ frX [(87, 3)] [88] u w) ?_ 0 () u1 (by omega) ⟨by rw [hu1]; rfl, fun j hj => absurd hj (Nat.not_lt_zero _), f1⟩
    intro i _ w hi hJ ih
    obtain ⟨w1, w2, w3⟩ := hJ
    refine RQ_n (ZY_ok YP0) 2 rfl trivial ?_
    refine RQ_b rfl (fun z => ?_) (fun z => ?_)
    · have z := (zq_le (a := L) (b := i) rfl rfl (by omega) (by omega)).mp z
      have : i = L := by omega
      subst this
      refine RQ_n (ZY_ok YP0) 4 rfl trivial ?_
      have hp : 0 < T ^ i := by
        by_cases c : i = 0
        · rw [c, Nat.pow_zero]; omega
        · exact Nat.pow_pos (hTL (by omega))
      refine srch hTL (T ^ i) (0, 0) w ⟨⟨rfl, hp, Nat.le_refl _⟩, ⟨h.in w3, w3.z (by decide) (by decide), w3.o (by decide) (by decide), by rw [w3.2.2]⟩, ⟨w1, fun j hj => ?_⟩, fun j hj => absurd hj (Nat.not_lt_zero _)⟩
      rw [w2 j hj]
      show 0 = nI (0 / T ^ (i - 1 - j) % T)
      rw [Nat.zero_div, Nat.zero_mod]; rfl
    have z := (not_congr (zq_le (a := L) (b := i) rfl rfl (by omega) (by omega))).mp z
    refine RQ_n (ZY_ok YP0) 3 rfl trivial ?_
    refine RQ_V vX8_put (y_rput w1 (show i < 24 by omega) _) rfl k11_361 rfl rfl rfl (zy87 _ rfl) (fun _ s1 q => by show 3 * s1.2.2.2.2.1 + 99 = 3 * w.2.2.2.2.1 + 99; rw [q.2.2.2.2.2]) ?_
    rintro r2 v2 ⟨rfl, p1, p2, p3⟩
    refine RQ_n (ZY_ok YP0) 2 rfl trivial ?_
    refine ih (by omega) () _ _ ⟨rfl, rfl, rfl, rfl, nIs i, trivial⟩ ⟨p1, fun j hj => ?_, w3.tr p3⟩
    rw [p2]
    by_cases y : j = i
    · rw [y, upd_at]
    · rw [upd_ne y]; exact w2 j (by omega)
  refine RQ_n (ZY_ok YP0) 1 rfl trivial ?_
  by_cases hL0 : L = 0
  · refine RQ_b rfl (fun _ => p16 (fun y => by omega)) (fun z => ?_)
    exact absurd (show nI L ≤ 0 by rw [hL0]; decide) z
  refine RQ_b rfl (fun z => ?_) (fun _ => ?_)
  · have z := (zq_le (a := L) (b := 0) rfl rfl (by omega) (by omega)).mp z
    omega
  refine RQ_n (ZY_ok YP0) 3 rfl trivial ?_
  rw [hG.2.1.2.2, ← hTT]
  by_cases hT0 : T = 0
  · refine RQ_b rfl (fun z => absurd (show nI T = 0 by rw [hT0]; rfl) z) (fun _ => ?_)
    refine RQ_n (ZY_ok YP0) 1 rfl trivial ?_
    refine RQ_to (Rn_iret rfl rfl) ?_
    rw [hQ, vno (by rw [hT0, Nat.zero_pow (by omega)]; rfl)]
    exact ⟨rfl, h, frZ.rf, frO.rf, rfl⟩
  · refine RQ_b rfl (fun _ => p16 (fun _ => by omega)) (fun z => absurd (fun y => hT0 ((nI_eq (by omega) (by omega)).mp (show nI T = nI 0 from y))) z)
end FrA
