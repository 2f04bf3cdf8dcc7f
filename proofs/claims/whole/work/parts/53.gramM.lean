/-! readGrammar of the reference: the same automaton, and what it notes. -/
/-- rules told so far: how many, their left bytes, how many letters, the letters -/
abbrev pD : Type := Nat × (Nat → Int32) × (Nat → Nat) × (Nat → Nat → Int32)
def pR (x : Int32) (D : pD) : pD := (D.1 + 1, fun j => if j = D.1 then x else D.2.1 j, fun j => if j = D.1 then 0 else D.2.2.1 j, D.2.2.2)
def pT (x : Int32) (D : pD) : pD := (D.1, D.2.1, fun j => if j + 1 = D.1 then D.2.2.1 j + 1 else D.2.2.1 j, fun j k => if j + 1 = D.1 ∧ k = D.2.2.1 j then x else D.2.2.2 j k)
def pr (f : Nat → Int32) : Nat → Nat → Bool → pD → pD
  | 0, _, _, D => D
  | d + 1, i, rt, D => if f i = 61 then pr f d (i + 1) true D else if f i = 59 then pr f d (i + 1) false D else if isSg (f i) = true then pr f d (i + 1) rt (pT (f i) D)
    else if isNm (f i) = true ∧ rt = true then pr f d (i + 1) rt (pT (f i) D) else if isNm (f i) = true then pr f d (i + 1) rt (pR (f i) D) else pr f d (i + 1) rt D
def so (f : Nat → Int32) : Nat → Nat → Int32 → Int32
  | 0, _, a => a
  | d + 1, i, a => so f d (i + 1) (if isSg (f i) = true then a ||| sB (f i) else a)
theorem isNm_ne {x : Int32} (h : isNm x = true) : x ≠ 32 ∧ x ≠ 61 ∧ x ≠ 59 ∧ x ≠ -1 ∧ isSg x = false := by
  unfold isNm at h
  rw [Bool.and_eq_true, decide_eq_true_eq, decide_eq_true_eq, Int32.le_iff_toInt_le, Int32.le_iff_toInt_le] at h
  have h1 : (65 : Int) ≤ x.toInt := h.1
  have h2 : x.toInt ≤ 90 := h.2
  refine ⟨fun z => ?_, fun z => ?_, fun z => ?_, fun z => ?_, ?_⟩
  · subst z; exact absurd h1 (by decide)
  · subst z; exact absurd h1 (by decide)
  · subst z; exact absurd h1 (by decide)
  · subst z; exact absurd h1 (by decide)
  · unfold isSg
    rw [decide_eq_false (p := (97 : Int32) ≤ x) (fun z => by
      have z : (97 : Int) ≤ x.toInt := Int32.le_iff_toInt_le.mp z
      omega), Bool.false_and]
theorem isSg_ne {x : Int32} (h : isSg x = true) : x ≠ 32 ∧ x ≠ 61 ∧ x ≠ 59 ∧ x ≠ -1 ∧ isNm x = false := by
  unfold isSg at h
  rw [Bool.and_eq_true, decide_eq_true_eq, decide_eq_true_eq, Int32.le_iff_toInt_le, Int32.le_iff_toInt_le] at h
  have h1 : (97 : Int) ≤ x.toInt := h.1
  have h2 : x.toInt ≤ 122 := h.2
  refine ⟨fun z => ?_, fun z => ?_, fun z => ?_, fun z => ?_, ?_⟩
  · subst z; exact absurd h1 (by decide)
  · subst z; exact absurd h1 (by decide)
  · subst z; exact absurd h1 (by decide)
  · subst z; exact absurd h1 (by decide)
  · unfold isNm
    rw [decide_eq_false (p := x ≤ 90) (fun z => by
      have z : x.toInt ≤ 90 := Int32.le_iff_toInt_le.mp z
      omega), Bool.and_false]
def gA (D : pD) (u : SM) : Prop := u.1 8 = nI D.1 ∧ ∀ j, j < D.1 → u.2.1 5 j = D.2.1 j ∧ u.2.1 6 j = nI (D.2.2.1 j) ∧ D.2.2.1 j ≤ 5 ∧ ∀ k, k < D.2.2.1 j → u.2.1 7 (5 * j + k) = D.2.2.2 j k
def gU (s : SM) (f : Nat → Int32) (n i : Nat) (nm lf sg : Int32) (D : pD) (u : SM) : Prop :=
  (u.1 2 = nI n ∧ u.1 3 = nI i ∧ u.1 4 = -1 ∧ u.1 9 = nm ∧ u.1 10 = lf ∧ u.1 11 = sg ∧ u.2.1 1 = f) ∧ gA D u ∧ frM [3, 4, 8, 9, 10, 11] [5, 6, 7] s u
def gW (s : SM) (p : Nat) (u : SM) : Prop := u.1 4 = nI p ∧ frM [3, 4, 8, 9, 10, 11] [5, 6, 7] s u
theorem gU_at {s : SM} {f : Nat → Int32} {n i j : Nat} {nm lf sg : Int32} {D : pD} {u : SM} (h : gU s f n i nm lf sg D u) : gU s f n j nm lf sg D (atS u j) :=
  ⟨⟨h.1.1, rfl, h.1.2.2⟩, h.2.1, h.2.2.tr (frM.i 3 (by decide))⟩
theorem gU_bad {s : SM} {f : Nat → Int32} {n i : Nat} {nm lf sg : Int32} {D : pD} {u : SM} (h : gU s f n i nm lf sg D u) : gW s i (updS u.1 4 (u.1 3), u.2) :=
  ⟨by show u.1 3 = nI i; exact h.1.2.1, h.2.2.tr (frM.i 4 (by decide))⟩
/-- ahead, from a place on -/
theorem g_ahead {s : SM} {f : Nat → Int32} {n i : Nat} {nm lf sg : Int32} {D : pD} {u : SM} (h : gU s f n i nm lf sg D u) (h2 : n ≤ 240) (hi : i ≤ n) : Ev ZR mX12_ahead [.ref 0] u (some (.int (aht f n (skp f (n - i) i)))) (atS u (skp f (n - i) i)) := by
  have := m_ahead u n i h.1.1 h2 h.1.2.1 hi
  rw [h.1.2.2.2.2.2.2] at this
  exact this
theorem skp_st {f : Nat → Int32} {d i : Nat} (h : f i ≠ 32) : skp f d i = i := by
  cases d with
  | zero => rfl
  | succ d => rw [skp, if_neg h]
theorem g_ahead0 {s : SM} {f : Nat → Int32} {n i : Nat} {nm lf sg : Int32} {D : pD} {u : SM} (h : gU s f n i nm lf sg D u) (h2 : n ≤ 240) (hi : i ≤ n) (hne : i < n → f i ≠ 32) : Ev ZR mX12_ahead [.ref 0] u (some (.int (aht f n i))) u := by
  have hs : skp f (n - i) i = i := by
    by_cases q : i < n
    · exact skp_st (hne q)
    · rw [show n - i = 0 by omega, skp]
  have := g_ahead h h2 hi
  rw [hs, atS_self h.1.2.1] at this
  exact this
theorem gF_skp (f : Nat → Int32) (st r l : Nat) (nm lf sg : Int32) (hl : l ≤ 5) (hm : mny nm sg = false) : ∀ d i, gF f d i (st, r, l, nm, lf, sg) = gF f (i + d - skp f d i) (skp f d i) (st, r, l, nm, lf, sg)
  | 0, i => by unfold skp; rw [Nat.add_zero, Nat.sub_self]
  | d + 1, i => by
    by_cases q : f i = 32
    · have hg : gnx (f i) (st, r, l, nm, lf, sg) = some (st, r, l, nm, lf, sg) := by
        rw [q, gnx, if_neg (fun z => absurd z.1 (by decide)), if_neg (fun z => absurd z.1 (by decide)), if_neg (fun z => absurd z.1 (by decide)), if_neg (fun z => absurd z.1 (by decide)), if_neg (fun z => absurd z.1 (by decide)), if_pos rfl, gck, if_neg (by dsimp only; omega), if_neg (by dsimp only; rw [hm]; decide)]
      rw [show skp f (d + 1) i = skp f d (i + 1) by rw [skp, if_pos q], gF_s, hg]
      show gF f d (i + 1) _ = _
      rw [gF_skp f st r l nm lf sg hl hm d (i + 1), show i + 1 + d = i + (d + 1) by omega]
    · rw [show skp f (d + 1) i = i by rw [skp, if_neg q], Nat.add_sub_cancel_left]
theorem pr_bl {f : Nat → Int32} {d i : Nat} {rt : Bool} {D : pD} (q : f i = 32) : pr f (d + 1) i rt D = pr f d (i + 1) rt D := by
  rw [pr, q, if_neg (by decide), if_neg (by decide), if_neg (by decide), if_neg (fun z => absurd z.1 (by decide)), if_neg (by decide)]
theorem pr_skp (f : Nat → Int32) (rt : Bool) (D : pD) : ∀ d i, pr f d i rt D = pr f (i + d - skp f d i) (skp f d i) rt D
  | 0, i => by unfold skp; rw [Nat.add_zero, Nat.sub_self]
  | d + 1, i => by
    by_cases q : f i = 32
    · rw [show skp f (d + 1) i = skp f d (i + 1) by rw [skp, if_pos q], pr_bl q, pr_skp f rt D d (i + 1), show i + 1 + d = i + (d + 1) by omega]
    · rw [show skp f (d + 1) i = i by rw [skp, if_neg q], Nat.add_sub_cancel_left]
theorem so_skp (f : Nat → Int32) (a : Int32) : ∀ d i, so f d i a = so f (i + d - skp f d i) (skp f d i) a
  | 0, i => by unfold skp; rw [Nat.add_zero, Nat.sub_self]
  | d + 1, i => by
    by_cases q : f i = 32
    · rw [show skp f (d + 1) i = skp f d (i + 1) by rw [skp, if_pos q], so, q, if_neg (by decide), so_skp f a d (i + 1), show i + 1 + d = i + (d + 1) by omega]
    · rw [show skp f (d + 1) i = i by rw [skp, if_neg q], Nat.add_sub_cancel_left]
def nm1 (x nm : Int32) : Int32 := if isNm x = true then nm ||| nB x else nm
def sg1 (x sg : Int32) : Int32 := if isSg x = true then sg ||| sB x else sg
theorem gnx_let {x : Int32} (h : isNm x = true ∨ isSg x = true) (r l : Nat) (nm lf sg : Int32) : gnx x (2, r, l, nm, lf, sg) = gck (2, r, l + 1, nm1 x nm, lf, sg1 x sg) := by
  rcases h with h | h
  · have a := isNm_ne h
    rw [gnx, if_neg (fun z => absurd z.2 (by decide)), if_neg (fun z => absurd z.2 (by decide)), if_neg (fun z => a.2.2.1 z.1), if_pos ⟨h, rfl⟩, nm1, if_pos h, sg1, if_neg (by rw [a.2.2.2.2]; decide)]
  · have a := isSg_ne h
    rw [gnx, if_neg (fun z => absurd z.2 (by decide)), if_neg (fun z => absurd z.2 (by decide)), if_neg (fun z => a.2.2.1 z.1), if_neg (fun z => by rw [a.2.2.2.2] at z; exact absurd z.1 (by decide)), if_pos ⟨h, rfl⟩, nm1, if_neg (by rw [a.2.2.2.2]; decide), sg1, if_pos h]
theorem pr_let {f : Nat → Int32} {d i : Nat} {D : pD} (h : isNm (f i) = true ∨ isSg (f i) = true) : pr f (d + 1) i true D = pr f d (i + 1) true (pT (f i) D) := by
  rcases h with h | h
  · have a := isNm_ne h
    rw [pr, if_neg a.2.1, if_neg a.2.2.1, if_neg (by rw [a.2.2.2.2]; decide), if_pos ⟨h, rfl⟩]
  · have a := isSg_ne h
    rw [pr, if_neg a.2.1, if_neg a.2.2.1, if_pos h]
set_option maxHeartbeats 4000000 in
theorem m_takeLetter {s u : SM} {f : Nat → Int32} {n i R : Nat} {nm lf sg : Int32} {D : pD} (h : gU s f n i nm lf sg D u) (h2 : n ≤ 240) (hi : i < n) (hD : D.1 = R + 1) (hR : R < 16) (hl : isNm (f i) = true ∨ isSg (f i) = true) :
    EvQ ZR mX12_takeLetter [.ref 0, .int (nI R)] u (fun r u' => r = none ∧ (((D.2.2.1 R = 5 ∨ mny (nm1 (f i) nm) (sg1 (f i) sg) = true) ∧ gW s i u') ∨ ((D.2.2.1 R < 5 ∧ mny (nm1 (f i) nm) (sg1 (f i) sg) = false) ∧ gU s f n (i + 1) (nm1 (f i) nm) lf (sg1 (f i) sg) (pT (f i) D) u'))) := by
  have hne : f i ≠ 32 := by rcases hl with z | z; exact (isNm_ne z).1; exact (isSg_ne z).1
  have hah : aht f n i = f i := by unfold aht; rw [if_pos hi]
  have ev := g_ahead0 h h2 (by omega) (fun _ => hne)
  rw [hah] at ev
  obtain ⟨hA1, hA2⟩ := h.2.1
  obtain ⟨g5, g6, g7, g8⟩ := hA2 R (by omega)
  have hRc : (nI R).toNatClampNeg = R := nI_clamp (by omega)
  have hRin : vp_in (nI R) 16 := nI_in (by omega) (by omega)
  have g6' : u.2.1 6 (nI R).toNatClampNeg = nI (D.2.2.1 R) := by rw [hRc]; exact g6
  generalize hx : f i = x at *
  refine EQ_V vX12_takeLetter rfl ?_
  refine RQ_n ZR_ok 1 rfl trivial ?_
  refine RQ_v vX12_ahead ev rfl k12_180 rfl rfl rfl rfl rfl ?_
  refine RQ_n ZR_ok 2 rfl trivial ?_
  refine RQ_s vX12_isName (e_isName u x) rfl k12_184 rfl rfl rfl rfl ?_
  have c30 : RnQ ZR mX12_takeLetter (30, [some (.ref 0), some (.int (nI R)), some (.int x), none, none], [.int (nm1 x nm)], u) (fun r u' => r = none ∧ (((D.2.2.1 R = 5 ∨ mny (nm1 x nm) (sg1 x sg) = true) ∧ gW s i u') ∨ ((D.2.2.1 R < 5 ∧ mny (nm1 x nm) (sg1 x sg) = false) ∧ gU s f n (i + 1) (nm1 x nm) lf (sg1 x sg) (pT x D) u'))) := by
    refine RQ_n ZR_ok 2 rfl trivial ?_
    refine RQ_s vX12_isSign (e_isSign u x) rfl k12_191 rfl rfl rfl rfl ?_
    have c56 : RnQ ZR mX12_takeLetter (56, [some (.ref 0), some (.int (nI R)), some (.int x), some (.int (nm1 x nm)), none], [.int (sg1 x sg)], u) (fun r u' => r = none ∧ (((D.2.2.1 R = 5 ∨ mny (nm1 x nm) (sg1 x sg) = true) ∧ gW s i u') ∨ ((D.2.2.1 R < 5 ∧ mny (nm1 x nm) (sg1 x sg) = false) ∧ gU s f n (i + 1) (nm1 x nm) lf (sg1 x sg) (pT x D) u'))) := by
      have c87 : (D.2.2.1 R = 5 ∨ mny (nm1 x nm) (sg1 x sg) = true) → RnQ ZR mX12_takeLetter (87, [some (.ref 0), some (.int (nI R)), some (.int x), some (.int (nm1 x nm)), some (.int (sg1 x sg))], [], u) (fun r u' => r = none ∧ (((D.2.2.1 R = 5 ∨ mny (nm1 x nm) (sg1 x sg) = true) ∧ gW s i u') ∨ ((D.2.2.1 R < 5 ∧ mny (nm1 x nm) (sg1 x sg) = false) ∧ gU s f n (i + 1) (nm1 x nm) lf (sg1 x sg) (pT x D) u'))) := by
        intro z
        refine RQ_n ZR_ok 1 rfl trivial ?_
        refine RQ_v vX12_bad (m_bad u h.1.2.2.1) rfl k12_203 rfl rfl rfl rfl rfl ?_
        exact RQ_to (Rn_vret rfl rfl) ⟨rfl, Or.inl ⟨z, gU_bad h⟩⟩
      refine RQ_n ZR_ok 6 rfl ⟨hRin, trivial⟩ ?_
      refine RQ_b rfl (fun q => ?_) (fun q => ?_)
      · have q : u.2.1 6 (nI R).toNatClampNeg = 5 := q
        rw [g6'] at q
        exact c87 (Or.inl ((nI_eq (b := 5) (by omega) (by omega)).mp q))
      · have q : ¬ u.2.1 6 (nI R).toNatClampNeg = 5 := q
        have q5 : D.2.2.1 R < 5 := by
          rw [g6'] at q
          have : D.2.2.1 R ≠ 5 := fun z => q (by rw [z]; rfl)
          omega
        refine RQ_n ZR_ok 1 rfl trivial ?_
        refine RQ_s vJ6_bitCount_0f7a4 (e_bitCount ZR_ok u (nm1 x nm)) rfl k12_197 rfl rfl rfl rfl ?_
        refine RQ_n ZR_ok 1 rfl trivial ?_
        refine RQ_b rfl (fun q2 => c87 (Or.inr (by rw [mny, decide_eq_true (show 6 < bitC (nm1 x nm) from q2), Bool.true_or]))) (fun q2 => ?_)
        have q2 : ¬ 6 < bitC (nm1 x nm) := q2
        refine RQ_n ZR_ok 1 rfl trivial ?_
        refine RQ_s vJ6_bitCount_0f7a4 (e_bitCount ZR_ok u (sg1 x sg)) rfl k12_197 rfl rfl rfl rfl ?_
        refine RQ_n ZR_ok 1 rfl trivial ?_
        refine RQ_b rfl (fun q3 => ?_) (fun q3 => c87 (Or.inr (by rw [mny, decide_eq_true (show 8 < bitC (sg1 x sg) from Int32.not_le.mp q3), Bool.or_true])))
        have q3 : ¬ 8 < bitC (sg1 x sg) := Int32.not_lt.mpr q3
        have hmn : mny (nm1 x nm) (sg1 x sg) = false := by rw [mny, decide_eq_false q2, decide_eq_false q3]; rfl
        have hix : 5 * nI R + u.2.1 6 (nI R).toNatClampNeg = nI (5 * R + D.2.2.1 R) := by rw [g6', nI_mul5, nI_add]
        have hic : (nI (5 * R + D.2.2.1 R)).toNatClampNeg = 5 * R + D.2.2.1 R := nI_clamp (by omega)
        refine RQ_n ZR_ok 32 rfl ⟨hRin, by show vp_in (5 * nI R + u.2.1 6 (nI R).toNatClampNeg) 80; rw [hix]; exact nI_in (by omega) (by omega), hRin, hRin, trivial⟩ ?_
        refine RQ_to (Rn_vret rfl rfl) ⟨rfl, Or.inr ⟨⟨q5, hmn⟩, ⟨⟨h.1.1, ?_, h.1.2.2.1, rfl, h.1.2.2.2.2.1, rfl, h.1.2.2.2.2.2.2⟩, ⟨?_, ?_⟩, ?_⟩⟩⟩
        · show u.1 3 + 1 = nI (i + 1)
          rw [h.1.2.1, nI_1]
        · show u.1 8 = nI (pT x D).1
          exact hA1
        · intro j hj
          have hj : j < D.1 := hj
          obtain ⟨e5, e6, e7, e8⟩ := hA2 j hj
          refine ⟨e5, ?_, ?_, ?_⟩
          · show upd (u.2.1 6) (nI R).toNatClampNeg (u.2.1 6 (nI R).toNatClampNeg + 1) j = nI (if j + 1 = D.1 then D.2.2.1 j + 1 else D.2.2.1 j)
            rw [g6', hRc]
            by_cases z : j = R
            · subst z
              rw [upd_at, if_pos hD.symm, nI_1]
            · rw [upd_ne z, if_neg (by omega)]
              exact e6
          · show (if j + 1 = D.1 then D.2.2.1 j + 1 else D.2.2.1 j) ≤ 5
            by_cases z : j = R
            · subst z
              rw [if_pos hD.symm]; omega
            · rw [if_neg (by omega)]
              exact e7
          · intro k hk
            show upd (u.2.1 7) (5 * nI R + u.2.1 6 (nI R).toNatClampNeg).toNatClampNeg x (5 * j + k) = (if j + 1 = D.1 ∧ k = D.2.2.1 j then x else D.2.2.2 j k)
            rw [hix, hic]
            have hk : k < (if j + 1 = D.1 then D.2.2.1 j + 1 else D.2.2.1 j) := hk
            by_cases z : j = R
            · subst z
              rw [if_pos hD.symm] at hk
              by_cases w : k = D.2.2.1 j
              · rw [w, upd_at, if_pos ⟨hD.symm, rfl⟩]
              · rw [upd_ne (by omega), if_neg (fun y => w y.2)]
                exact e8 k (by omega)
            · rw [if_neg (by omega)] at hk
              rw [upd_ne (by omega), if_neg (by omega)]
              exact e8 k hk
        · exact ((((h.2.2.tr (frM.i 9 (by decide))).tr (frM.i 11 (by decide))).tr (frM.a 7 (by decide))).tr (frM.a 6 (by decide))).tr (frM.i 3 (by decide))
    refine RQ_b rfl (fun q => ?_) (fun q => ?_)
    · have q := bI_0.mp q
      refine RQ_n ZR_ok 2 rfl trivial ?_
      rw [show sg1 x sg = u.1 11 by rw [sg1, if_neg (by rw [q]; decide)]; exact h.1.2.2.2.2.2.1.symm] at c56 ⊢
      exact c56
    · have q := bI_t q
      refine RQ_n ZR_ok 9 rfl trivial ?_
      rw [show sg1 x sg = u.1 11 ||| sB x by rw [sg1, if_pos q, h.1.2.2.2.2.2.1]] at c56 ⊢
      exact c56
  refine RQ_b rfl (fun q => ?_) (fun q => ?_)
  · have q := bI_0.mp q
    refine RQ_n ZR_ok 2 rfl trivial ?_
    rw [show nm1 x nm = u.1 9 by rw [nm1, if_neg (by rw [q]; decide)]; exact h.1.2.2.2.1.symm] at c30 ⊢
    exact c30
  · have q := bI_t q
    refine RQ_n ZR_ok 9 rfl trivial ?_
    rw [show nm1 x nm = u.1 9 ||| nB x by rw [nm1, if_pos q, h.1.2.2.2.1]] at c30 ⊢
    exact c30
