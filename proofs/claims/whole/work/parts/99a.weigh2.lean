/-! The class: weigh. -/
theorem XW.cg {G : ZGT} {sh : Int32} {lk : Nat → Int32} {S S' : Nat → Bool} {v : SX} (h : XW G sh lk S v) (e : ∀ q, q ≤ zgR G → S q = S' q) : XW G sh lk S' v := by
  have e1 : ∀ t, zcw G sh lk S t = zcw G sh lk S' t := fun t => by
    unfold zcw
    rw [zcnt_cg (p := fun r => S r && bt (lk r) t) (p' := fun r => S' r && bt (lk r) t) _ (fun i hi => by rw [e i (by omega)])]
  obtain ⟨w1, w2, w3, w4⟩ := h
  refine ⟨fun t ht => by rw [← e1]; exact w1 t ht, fun t ht => by rw [← e1]; exact w2 t ht, by rw [← e _ (Nat.le_refl _)]; exact w3, fun t ht => ?_⟩
  rw [w4 t ht]
  exact congrArg fI (zfst_cg _ (fun i hi => by rw [e i (by omega)]))
theorem y_followOf {P : YP} {G : ZGT} {u : SX} (hG : ZGX G u) {r : Nat} (hr : r ≤ zgR G) : Ev (ZY P) mX0_followOf [.ref 47, .int (nI r)] u (some (.int (if r = zgR G then b1 (zgT G) else u.2.1 16 (zgl G r)))) u := by
  have hb := hG.b
  refine EQ_ev ?_
  refine EQ_V vX0_followOf rfl ?_
  refine RQ_n (ZY_ok P) 4 rfl trivial ?_
  rw [hG.2.1.1]
  refine RQ_b rfl (fun z => ?_) (fun z => ?_)
  · have z := (not_congr (zq_eq (a := r) (b := zgR G) rfl rfl (by omega) (by omega))).mp z
    have hl := hG.1.2.1 r (by omega)
    refine RQ_n (ZY_ok P) 7 rfl trivial ?_
    refine RQ_n (ZY_ok P) 1 rfl ⟨nI_in (by omega) (by omega), trivial⟩ ?_
    rw [nI_clamp (show r < 2 ^ 31 by omega), (hG.2.2.1 r (by omega)).1]
    refine RQ_n (ZY_ok P) 1 rfl ⟨nI_in (by omega) (by omega), trivial⟩ ?_
    rw [nI_clamp (show zgl G r < 2 ^ 31 by omega), if_neg z]
    exact RQ_to (Rn_iret rfl rfl) ⟨rfl, rfl⟩
  · have z := (zq_eq (a := r) (b := zgR G) rfl rfl (by omega) (by omega)).mp (Classical.not_not.mp z)
    refine RQ_n (ZY_ok P) 2 rfl trivial ?_
    refine RQ_v vX5_endBit (y_endBit hG) rfl k0_115 rfl rfl rfl (zy3 _ rfl) rfl ?_
    refine RQ_n (ZY_ok P) 1 rfl trivial ?_
    rw [if_pos z]
    exact RQ_to (Rn_iret rfl rfl) ⟨rfl, rfl⟩
theorem XV.fr {G : ZGT} {N : ZNM} {u w : SX} {ks : List (Nat × Nat)} {as : List Nat} (h : XV G N u) (f : frX ks as u w) (h1 : ∀ x ∈ ks, x.1 < 99 ∧ x ≠ (36, 10)) (h2 : ∀ a ∈ as, a < 99 ∧ a ∉ [39, 40, 41, 42]) : XV G N w := by
  obtain ⟨x1, sl, kc, x2, x3⟩ := h
  have n2 : ∀ c, (99 ≤ c ∨ c ∈ [39, 40, 41, 42]) → c ∉ as := fun c hc y => by
    rcases hc with hc | hc
    · have := (h2 _ y).1; omega
    · exact (h2 _ y).2 hc
  refine ⟨(f.1 36 10 (fun y => (h1 _ y).2 rfl)).trans x1, sl, kc, fun k hk => ?_, fun k hk b hb => ?_⟩
  · obtain ⟨a1, a2, a3, a4, a5, a6⟩ := x2 k hk
    have h99 : 99 ≤ kc k := a4.1
    refine ⟨a1, by rw [f.2.1 41 (n2 _ (Or.inr (by decide)))]; exact a2, by rw [f.2.2]; exact a3, by rw [f.2.2]; exact a4, a5.fr (f.1 _ _ (fun y => ?_)) (f.2.1 _ (n2 _ (Or.inl (by omega)))) (f.2.1 _ (n2 _ (Or.inl (by omega)))), ?_⟩
    · have := (h1 _ y).1; dsimp only at this; omega
    · have : yO (sl k) w = yO (sl k) u := by unfold yO; rw [f.2.1 39 (n2 _ (Or.inr (by decide)))]
      rw [this]; exact a6
  · rw [f.2.1 40 (n2 _ (Or.inr (by decide))), f.2.1 42 (n2 _ (Or.inr (by decide)))]; exact x3 k hk b hb
/-- by which looks a rule is weighed -/
def zlkf (G : ZGT) (bf : Bool) (W C : Nat → Int32) (r : Nat) : Int32 := if bf = true then (if r = zgR G then b1 (zgT G) else W (zgl G r)) else C (6 * r + zgn G r)
noncomputable def zSf (G : ZGT) (C : Nat → Int32) (q : Nat) : Bool := zcB (C (6 * q + zgn G q) ≠ 0)
set_option maxHeartbeats 2000000 in
theorem y_weigh {P : YP} {G : ZGT} {N : ZNM} {u : SX} (hG : ZGX G u) (hF : ZNF G N) (h : XV G N u) {k : Nat} (hk : k < N.1) (bf : Bool) : EvQ (ZY P) mX0_weigh [.ref 47, .int (nI k), .int (bI bf)] u (fun x v => x = none ∧ XW G (zlf (N.2.2 k) 14 &&& 255) (zlkf G bf (u.2.1 16) (zcl G (zE0 G) (zF0 G) (N.2.1 k))) (zSf G (zcl G (zE0 G) (zF0 G) (N.2.1 k))) v ∧ frX [(47, 7), (47, 8), (47, 9)] [51] u v) := by
  have hb := hG.b
  have hN := hF.1.2
  obtain ⟨C, hC⟩ : ∃ C, C = zcl G (zE0 G) (zF0 G) (N.2.1 k) := ⟨_, rfl⟩
  obtain ⟨K, hKe⟩ : ∃ K, K = N.2.1 k := ⟨_, rfl⟩
  obtain ⟨W, hWe⟩ : ∃ W, W = u.2.1 16 := ⟨_, rfl⟩
  obtain ⟨sh, hsh⟩ : ∃ sh, sh = zlf (N.2.2 k) 14 &&& 255 := ⟨_, rfl⟩
  obtain ⟨z0, zh, -, -⟩ := hF.2.1 k hk
  have hCK : ∀ q, q ≤ zgR G → 0 < zgn G q → C (6 * q + zgn G q) = K (6 * q + zgn G q) := fun q hq hn => by
    obtain ⟨-, sl, kc, h2, -⟩ := h
    obtain ⟨-, -, -, -, -, a6⟩ := h2 k hk
    have h5 := (hG.1.2.2.1 q hq).1
    rw [hC, hKe, zcl_eq (zlO_C hG.1 z0 a6) (show 6 * q + zgn G q < 102 by omega)]
    unfold zCM
    rw [if_neg (fun y => by have := y.1; omega)]
    exact bsub_eq bsub_0
  rw [← hC, ← hWe, ← hsh]
  obtain ⟨lk, hlk⟩ : ∃ lk, lk = zlkf G bf W C := ⟨_, rfl⟩
  rw [← hlk]
  refine EQ_V vX0_weigh rfl ?_
  refine RQ_n (ZY_ok P) 3 rfl trivial ?_
  refine RQ_s vJ7_fill_53178 (y_fill u 51 9 (-1) (by omega) (by omega) (fun _ _ => rfl)) rfl k0_69 rfl rfl rfl rfl ?_
  obtain ⟨v1, hv1⟩ : ∃ w : SX, w = (u.1, setA u.2.1 51 (fil (u.2.1 51) 0 9 (-1)), u.2.2) := ⟨_, rfl⟩
  rw [← hv1]
  have f1 : frX [(47, 7), (47, 8), (47, 9)] [51] u v1 := by rw [hv1]; exact frX.s 51 (by decide)
  have a51 : v1.2.1 51 = fil (u.2.1 51) 0 9 (-1) := by rw [hv1]; show setA u.2.1 51 (fil (u.2.1 51) 0 9 (-1)) 51 = _; rw [setA_at]
  refine RQ_n (ZY_ok P) 4 rfl trivial ?_
  refine RQ_v vX1_lettersFrom (y_lettersFrom hN (h.fr f1 (by decide) (by decide)) hk) rfl k0_75 rfl rfl rfl (zy36 _ rfl) rfl ?_
  refine RQ_n (ZY_ok P) 3 rfl trivial ?_
  refine RQ_n (ZY_ok P) 6 rfl trivial ?_
  obtain ⟨v2, hv2⟩ : ∃ w : SX, w = (updI (updI (updI v1.1 47 7 (zlf (N.2.2 k) 14 &&& 255)) 47 8 0) 47 9 0, v1.2) := ⟨_, rfl⟩
  show RnQ (ZY P) mX0_weigh (34, _, _, ((updI (updI (updI v1.1 47 7 (zlf (N.2.2 k) 14 &&& 255)) 47 8 0) 47 9 0, v1.2) : SX)) _
  rw [← hv2]
  have f2 : frX [(47, 7), (47, 8), (47, 9)] [51] u v2 := f1.tr (by
    rw [hv2]
    exact ((frX.i 47 7 (by decide)).tr (frX.i (s := (updI v1.1 47 7 (zlf (N.2.2 k) 14 &&& 255), v1.2)) 47 8 (by decide))).tr (frX.i (s := (updI (updI v1.1 47 7 (zlf (N.2.2 k) 14 &&& 255)) 47 8 0, v1.2)) 47 9 (by decide)))
  have W0 : XW G sh lk (fun _ => false) v2 := by
    have e0 : ∀ t, zcw G sh lk (fun _ => false) t = if bt sh t = true then 1 else 0 := fun t => by
      unfold zcw
      have : ∀ n, zcnt (fun r => false && bt (lk r) t) n = 0 := fun n => by
        induction n with
        | zero => rfl
        | succ n ih => rw [zcnt, ih]; rfl
      rw [this, Nat.add_zero]
    refine ⟨fun t ht => ?_, fun t ht => ?_, ?_, fun t ht => ?_⟩
    · have : v2.1 47 7 = sh := by rw [hv2, hsh]; rfl
      rw [this, e0]
      cases bt sh t <;> rfl
    · have : v2.1 47 8 = 0 := by rw [hv2]; rfl
      rw [this, e0, b_0]
      cases bt sh t <;> rfl
    · have : v2.1 47 9 = 0 := by rw [hv2]; rfl
      rw [this]; rfl
    · have : v2.2.1 51 = v1.2.1 51 := by rw [hv2]
      rw [this, a51, fil_in (by omega) (by omega)]
      have e : zfst (fun r => (fun _ => false) r && bt (lk r) t) (zgR G) = none := zfst_n.mpr (fun b _ => rfl)
      rw [e]
      rfl
  refine RQ_n (ZY_ok P) 3 rfl trivial ?_
  have V2 : XV G N v2 := h.fr f2 (by decide) (by decide)
  obtain ⟨c, hcE, hcc, hKX⟩ := y_kernelOf (P := P) hN V2 hk
  rw [← hKe] at hKX z0 zh
  obtain ⟨m, it, hz, hm81, hsz, hit⟩ := hKX
  have hc99 : 99 ≤ c := hcc.1
  have hlt := isK_lt hcc.2
  have hri : ∀ a, a < m → it a / 6 ≤ zgR G := fun a ha => by
    obtain ⟨h1, h2⟩ := hz.2.1 a ha
    have : ¬ 6 * (zgR G + 1) ≤ it a := fun y => h2 (zh _ h1 y)
    omega
  refine RQ_v vX1_kernelOf hcE rfl k0_84 rfl rfl rfl (zy36 _ rfl) rfl ?_
  refine RQ_n (ZY_ok P) 3 rfl trivial ?_
  -- rules with nothing on the right
  have second : ∀ (w0 : SX), XW G sh lk (fun q => zcB (∃ b, b < m ∧ it b = 6 * q + zgn G q)) w0 → frX [(47, 7), (47, 8), (47, 9)] [51] u w0 → RnQ (ZY P) mX0_weigh (122, [some (.ref 47), some (.int (nI k)), some (.int (bI bf)), none, none, none], [], w0) (fun x v => x = none ∧ XW G sh lk (zSf G C) v ∧ frX [(47, 7), (47, 8), (47, 9)] [51] u v) := by
    intro w0 hW0 fw0
    have hS1 : ∀ q, q < zgR G → zgn G q = 0 → ¬ ∃ b, b < m ∧ it b = 6 * q + zgn G q := fun q hq hn ⟨b, hb1, hb2⟩ => by
      have := (hz.2.1 b hb1).2
      rw [hb2, hn] at this
      exact this (z0 q hq)
    refine RQ_n (ZY_ok P) 2 rfl trivial ?_
    refine loopU (zgR G) (fun r (_ : Unit) => [some (.ref 47), some (.int (nI k)), some (.int (bI bf)), none, some (.int (nI r)), none]) (fun r _ w => XW G sh lk (fun q => zcB ((∃ b, b < m ∧ it b = 6 * q + zgn G q) ∨ (q < r ∧ zgn G q = 0 ∧ C (6 * q) ≠ 0))) w ∧ frX [(47, 7), (47, 8), (47, 9)] [51] u w) ?_ 0 () w0 (by omega) ⟨hW0.cg (fun q _ => zcB_cg ⟨fun y => Or.inl y, fun y => y.elim id (fun y => absurd y.1 (Nat.not_lt_zero _))⟩), fw0⟩
    intro r _ w hr hJ ih
    obtain ⟨g1, g2⟩ := hJ
    have Gw : ZGX G w := hG.fr g2 rfl
    refine RQ_n (ZY_ok P) 4 rfl trivial ?_
    rw [Gw.2.1.1]
    refine RQ_b rfl (fun z => ?_) (fun z => ?_)
    · have z := (zq_le (a := zgR G) (b := r) rfl rfl (by omega) (by omega)).mp z
      have : r = zgR G := by omega
      subst this
      refine RQ_to (Rn_vret rfl rfl) ⟨rfl, g1.cg (fun q hq => ?_), g2⟩
      unfold zSf
      refine zcB_cg ⟨fun y => ?_, fun y => ?_⟩
      · rcases y with ⟨b, hb1, hb2⟩ | ⟨y1, y2, y3⟩
        · have hne := (hz.2.1 b hb1).2
          rw [hb2] at hne
          rw [hCK q hq ?_]
          · exact hne
          · rcases Nat.eq_zero_or_pos (zgn G q) with y | y
            · by_cases x : q = zgR G
              · rw [x, hG.1.2.2.2.1] at y; omega
              · exact absurd ⟨b, hb1, hb2⟩ (hS1 q (by omega) y)
            · exact y
        · rw [y2]; exact y3
      · rcases Nat.eq_zero_or_pos (zgn G q) with x | x
        · refine Or.inr ⟨?_, x, by rw [x] at y; exact y⟩
          refine Nat.lt_of_le_of_ne hq (fun e => ?_)
          rw [e, hG.1.2.2.2.1] at x; omega
        · have h5 := (hG.1.2.2.1 q hq).1
          rw [hCK q hq x] at y
          exact Or.inl (hz.2.2 _ (by omega) y)
    have z := (not_congr (zq_le (a := zgR G) (b := r) rfl rfl (by omega) (by omega))).mp z
    have hrR : r < zgR G := by omega
    have skip : ¬ (zgn G r = 0 ∧ C (6 * r) ≠ 0) → ∀ y : Option Value, RnQ (ZY P) mX0_weigh (188, [some (.ref 47), some (.int (nI k)), some (.int (bI bf)), none, some (.int (nI r)), y], [], w) (fun x v => x = none ∧ XW G sh lk (zSf G C) v ∧ frX [(47, 7), (47, 8), (47, 9)] [51] u v) := by
      intro hn y
      refine RQ_n (ZY_ok P) 2 rfl trivial ?_
      refine ih hrR () _ _ ⟨rfl, rfl, rfl, nIs r, trivial⟩ ⟨g1.cg (fun q _ => zcB_cg ⟨fun y => y.elim Or.inl (fun y => Or.inr ⟨by have := y.1; omega, y.2⟩), fun y => y.elim Or.inl (fun y => Or.inr ⟨?_, y.2⟩)⟩), g2⟩
      refine Nat.lt_of_le_of_ne (by have := y.1; omega) (fun e => hn ?_)
      rw [← e]; exact y.2
    have hol := y_openLook (P := P) Gw hF (h.fr g2 (by decide) (by decide)) hk (show r ≤ zgR G by omega)
    rw [if_pos hrR, ← hC] at hol
    refine RQ_n (ZY_ok P) 4 rfl trivial ?_
    refine RQ_v vX1_openLook hol rfl k0_112 rfl rfl rfl (zy36 _ rfl) rfl ?_
    refine RQ_n (ZY_ok P) 2 rfl trivial ?_
    refine RQ_b rfl (fun y => skip (fun q => q.2 y) _) (fun y => ?_)
    refine RQ_n (ZY_ok P) 4 rfl trivial ?_
    refine RQ_n (ZY_ok P) 1 rfl ⟨nI_in (by omega) (by omega), trivial⟩ ?_
    rw [nI_clamp (show r < 2 ^ 31 by omega), (Gw.2.2.2 r (by omega)).1]
    have h5 := (hG.1.2.2.1 r (by omega)).1
    refine RQ_b rfl (fun x => ?_) (fun x => ?_)
    · have x := (not_congr (zq_eq (a := zgn G r) (b := 0) rfl rfl (by omega) (by omega))).mp x
      exact skip (fun q => x q.1) _
    have x := (zq_eq (a := zgn G r) (b := 0) rfl rfl (by omega) (by omega)).mp (Classical.not_not.mp x)
    have fin : ∀ (y5 : Option Value), RnQ (ZY P) mX0_weigh (185, [some (.ref 47), some (.int (nI k)), some (.int (bI bf)), none, some (.int (nI r)), y5], [.int (lk r), .int (nI r), .ref 47], w) (fun x v => x = none ∧ XW G sh lk (zSf G C) v ∧ frX [(47, 7), (47, 8), (47, 9)] [51] u v) := by
      intro y5
      refine RQ_V vX0_weighRule (y_weighRule Gw g1 (show r ≤ zgR G by omega) (zcB_f (fun q => q.elim (hS1 r hrR x) (fun q => Nat.lt_irrefl _ q.1)))) rfl k0_105 rfl rfl rfl (zy47 _ rfl) (fun _ s1 q => by show 3 * s1.2.2.2.2.1 + 99 = 3 * w.2.2.2.2.1 + 99; rw [q.2.2.2.2]) ?_
      rintro r4 w4 ⟨rfl, g4, f4⟩
      refine RQ_n (ZY_ok P) 2 rfl trivial ?_
      refine ih hrR () _ _ ⟨rfl, rfl, rfl, nIs r, trivial⟩ ⟨g4.cg (fun q _ => ?_), g2.tr f4⟩
      by_cases e : q = r
      · rw [decide_eq_true e, Bool.or_true]
        exact (zcB_t (Or.inr ⟨by omega, by rw [e]; exact x, by rw [e]; exact y⟩)).symm
      · rw [decide_eq_false e, Bool.or_false]
        exact zcB_cg ⟨fun y => y.elim Or.inl (fun y => Or.inr ⟨by have := y.1; omega, y.2⟩), fun y => y.elim Or.inl (fun y => Or.inr ⟨by have := y.1; omega, y.2⟩)⟩
    refine RQ_n (ZY_ok P) 3 rfl trivial ?_
    have elk : lk r = if bf = true then W (zgl G r) else C (6 * r) := by
      rw [hlk]
      unfold zlkf
      rw [if_neg (show ¬ r = zgR G by omega), x]
      rfl
    refine RQ_b rfl (fun b => ?_) (fun b => ?_)
    · have b := bI_0.mp b
      rw [b, if_neg (by decide)] at elk
      refine RQ_n (ZY_ok P) 1 rfl trivial ?_
      have := fin (some (.int (C (6 * r))))
      rw [elk] at this
      exact this
    · have b := bI_t b
      rw [b, if_pos rfl] at elk
      refine RQ_n (ZY_ok P) 2 rfl trivial ?_
      have hfo := y_followOf (P := P) Gw (show r ≤ zgR G by omega)
      rw [if_neg (show ¬ r = zgR G by omega), g2.2.1 16 (by decide), ← hWe, ← elk] at hfo
      refine RQ_v vX0_followOf hfo rfl k0_99 rfl rfl rfl (zy47 _ rfl) rfl ?_
      refine RQ_n (ZY_ok P) 1 rfl trivial ?_
      exact fin _
  refine loopU m (fun a (_ : Unit) => [some (.ref 47), some (.int (nI k)), some (.int (bI bf)), some (.ref c), some (.int (nI a)), none]) (fun a _ w => XW G sh lk (fun q => zcB (∃ b, b < a ∧ it b = 6 * q + zgn G q)) w ∧ frX [(47, 7), (47, 8), (47, 9)] [51] v2 w) ?_ 0 () v2 (by omega) ⟨W0.cg (fun q _ => (zcB_f (fun ⟨b, y, _⟩ => absurd y (Nat.not_lt_zero _))).symm), frX.rf⟩
  intro a _ w ha hJ ih
  obtain ⟨g1, g2⟩ := hJ
  have Uw : frX [(47, 7), (47, 8), (47, 9)] [51] u w := f2.tr g2
  have Gw : ZGX G w := hG.fr Uw rfl
  have hn : w.2.2.2.2.1 = v2.2.2.2.2.1 := by rw [g2.2.2]
  have hcv : isKc c w.2.2.2.2.1 := by rw [hn]; exact hcc.2
  obtain ⟨l0, l1, l2⟩ := isK_cell (P := P) (s := w) hcv
  have hlv : c + 2 < 3 * w.2.2.2.2.1 + 99 := by rw [hn]; exact hlt
  have hl0 : c < (ZY P).2.1 w := by show c < 3 * w.2.2.2.2.1 + 99; omega
  have hl1 : c + 1 < (ZY P).2.1 w := by show c + 1 < 3 * w.2.2.2.2.1 + 99; omega
  have hl2 : c + 2 < (ZY P).2.1 w := by show c + 2 < 3 * w.2.2.2.2.1 + 99; omega
  have esz : w.1 c 0 = nI m := by
    rw [g2.1 c 0 (by simp only [List.mem_cons, List.not_mem_nil, or_false, Prod.mk.injEq]; omega)]; exact hsz
  have ea1 : w.2.1 (c + 1) = v2.2.1 (c + 1) := g2.2.1 _ (by simp only [List.mem_cons, List.not_mem_nil, or_false]; omega)
  have ea2 : w.2.1 (c + 2) = v2.2.1 (c + 2) := g2.2.1 _ (by simp only [List.mem_cons, List.not_mem_nil, or_false]; omega)
  refine RQ_n (ZY_ok P) 2 rfl trivial ?_
  refine RQ_gf (ZY_ok P) rfl rfl l0 hl0 rfl ?_
  refine RQ_b rfl (fun z => ?_) (fun z => ?_)
  · have z := (zq_le esz rfl (by omega) (by omega)).mp z
    have : a = m := by omega
    subst this
    exact RQ_le (l' := [some (.ref 47), some (.int (nI k)), some (.int (bI bf)), none, none, none]) ⟨rfl, rfl, rfl, trivial⟩ (second w g1 Uw)
  have z := (not_congr (zq_le esz rfl (by omega) (by omega))).mp z
  have ham : a < m := by omega
  obtain ⟨t1, t2⟩ := hit a ham
  obtain ⟨s1, s2⟩ := hz.2.1 a ham
  have hra := hri a ham
  have hain : vp_in (nI a) 81 := nI_in (by omega) (by omega)
  have hac : (nI a).toNatClampNeg = a := nI_clamp (by omega)
  have e1 : w.2.1 (c + 1) (nI a).toNatClampNeg = nI (it a) := by rw [hac, ea1]; exact t1
  have e2 : w.2.1 (c + 2) (nI a).toNatClampNeg = K (it a) := by rw [hac, ea2]; exact t2
  have ed : nI (it a) / 6 = nI (it a / 6) := pk_div (d := 6) (by omega) (by omega) (by omega)
  have em : nI (it a) - nI (it a) / 6 * 6 = nI (it a % 6) := nI_rem (d := 6) (by omega) (by omega) (by omega)
  have h5 := (hG.1.2.2.1 _ hra).1
  have hun : ∀ q, q ≤ zgR G → it a = 6 * q + zgn G q → q = it a / 6 := fun q hq e => by have := (hG.1.2.2.1 q hq).1; omega
  refine RQ_n (ZY_ok P) 1 rfl trivial ?_
  refine RQ_gf (ZY_ok P) rfl rfl l0 hl0 rfl ?_
  refine RQ_n (ZY_ok P) 1 rfl trivial ?_
  refine RQ_ia (ZY_ok P) rfl l1 hl1 hain ?_
  rw [e1]
  refine RQ_n (ZY_ok P) 4 rfl ⟨by decide, trivial⟩ ?_
  rw [ed]
  refine RQ_gf (ZY_ok P) rfl rfl l0 hl0 rfl ?_
  refine RQ_n (ZY_ok P) 1 rfl trivial ?_
  refine RQ_ia (ZY_ok P) rfl l1 hl1 hain ?_
  rw [e1]
  refine RQ_n (ZY_ok P) 6 rfl ⟨by decide, trivial⟩ ?_
  rw [em]
  refine RQ_n (ZY_ok P) 1 rfl ⟨nI_in (by omega) (by omega), trivial⟩ ?_
  rw [nI_clamp (show it a / 6 < 2 ^ 31 by omega), (Gw.2.2.2 _ hra).1]
  refine RQ_b rfl (fun y => ?_) (fun y => ?_)
  · have y := (not_congr (zq_eq (a := it a % 6) (b := zgn G (it a / 6)) rfl rfl (by omega) (by omega))).mp y
    refine RQ_n (ZY_ok P) 2 rfl trivial ?_
    refine ih ham () _ _ ⟨rfl, rfl, rfl, rfl, nIs a, trivial⟩ ⟨g1.cg (fun q hq => zcB_cg ⟨fun ⟨b, x1, x2⟩ => ⟨b, by omega, x2⟩, fun ⟨b, x1, x2⟩ => ⟨b, ?_, x2⟩⟩), g2⟩
    refine Nat.lt_of_le_of_ne (by omega) (fun e => y ?_)
    rw [e] at x2
    have := hun q hq x2
    rw [← this]
    have := (hG.1.2.2.1 q hq).1
    omega
  have y := (zq_eq (a := it a % 6) (b := zgn G (it a / 6)) rfl rfl (by omega) (by omega)).mp (Classical.not_not.mp y)
  obtain ⟨q0, hq0⟩ : ∃ q0, q0 = it a / 6 := ⟨_, rfl⟩
  rw [← hq0] at y hra h5 hun ⊢
  have eit : it a = 6 * q0 + zgn G q0 := by omega
  have hn0 : 0 < zgn G q0 := by
    rcases Nat.eq_zero_or_pos (zgn G q0) with x | x
    · exfalso
      by_cases e : q0 = zgR G
      · rw [e, hG.1.2.2.2.1] at x; omega
      · rw [eit, x] at s2
        exact s2 (z0 q0 (by omega))
    · exact x
  have fin : ∀ (y5 : Option Value), RnQ (ZY P) mX0_weigh (113, [some (.ref 47), some (.int (nI k)), some (.int (bI bf)), some (.ref c), some (.int (nI a)), y5], [.int (lk q0), .int (nI q0), .ref 47], w) (fun x v => x = none ∧ XW G sh lk (zSf G C) v ∧ frX [(47, 7), (47, 8), (47, 9)] [51] u v) := by
    intro y5
    refine RQ_V vX0_weighRule (y_weighRule Gw g1 hra (zcB_f (fun ⟨b, x1, x2⟩ => ?_))) rfl k0_105 rfl rfl rfl (zy47 _ rfl) (fun _ s1 q => by show 3 * s1.2.2.2.2.1 + 99 = 3 * w.2.2.2.2.1 + 99; rw [q.2.2.2.2]) ?_
    · have := hz.1 b a x1 ham
      omega
    rintro r4 w4 ⟨rfl, g4, f4⟩
    refine RQ_n (ZY_ok P) 2 rfl trivial ?_
    refine ih ham () _ _ ⟨rfl, rfl, rfl, rfl, nIs a, trivial⟩ ⟨g4.cg (fun q hq => ?_), g2.tr f4⟩
    by_cases e : q = q0
    · rw [decide_eq_true e, Bool.or_true]
      exact (zcB_t ⟨a, by omega, by rw [e]; exact eit⟩).symm
    · rw [decide_eq_false e, Bool.or_false]
      refine zcB_cg ⟨fun ⟨b, x1, x2⟩ => ⟨b, by omega, x2⟩, fun ⟨b, x1, x2⟩ => ⟨b, ?_, x2⟩⟩
      refine Nat.lt_of_le_of_ne (by omega) (fun e2 => e ?_)
      rw [e2] at x2
      exact hun q hq x2
  refine RQ_n (ZY_ok P) 3 rfl trivial ?_
  have elk : lk q0 = if bf = true then (if q0 = zgR G then b1 (zgT G) else W (zgl G q0)) else K (it a) := by
    rw [hlk]
    unfold zlkf
    rw [hCK q0 hra hn0, eit]
  refine RQ_b rfl (fun b => ?_) (fun b => ?_)
  · have b := bI_0.mp b
    rw [b, if_neg (by decide)] at elk
    refine RQ_n (ZY_ok P) 1 rfl trivial ?_
    refine RQ_gf (ZY_ok P) rfl rfl l0 hl0 rfl ?_
    refine RQ_n (ZY_ok P) 1 rfl trivial ?_
    refine RQ_ia (ZY_ok P) rfl l2 hl2 hain ?_
    rw [e2, ← elk]
    exact fin _
  · have b := bI_t b
    rw [b, if_pos rfl] at elk
    refine RQ_n (ZY_ok P) 2 rfl trivial ?_
    have hfo := y_followOf (P := P) Gw hra
    rw [Uw.2.1 16 (by decide), ← hWe, ← elk] at hfo
    refine RQ_v vX0_followOf hfo rfl k0_99 rfl rfl rfl (zy47 _ rfl) rfl ?_
    refine RQ_n (ZY_ok P) 1 rfl trivial ?_
    exact fin _
