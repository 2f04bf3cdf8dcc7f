/-! load of the class. -/
/-- a letter's number, by the rows of names' and signs' numbers -/
def lA (A8 A10 : Nat → Int32) (x : Int32) : Int32 := if isSg x = true then A10 (x - 97).toNatClampNeg else 8 + A8 (x - 65).toNatClampNeg
def ldI (s : SX) (f : Nat → Int32) (n : Nat) (A8 A10 : Nat → Int32) (D : pD) (u : SX) : Prop :=
  (u.1 1 1 = nI n ∧ u.2.1 2 = f ∧ u.1 3 0 = nI D.1 ∧ u.2.1 8 = A8 ∧ u.2.1 10 = A10) ∧
  (∀ j, j < D.1 → u.2.1 4 j = A8 (D.2.1 j - 65).toNatClampNeg ∧ u.2.1 5 j = nI (D.2.2.1 j) ∧ ∀ k, k < D.2.2.1 j → u.2.1 6 (5 * j + k) = lA A8 A10 (D.2.2.2 j k)) ∧ frX [(3, 0)] [4, 5, 6] s u
theorem ldI_R {s u u' : SX} {f : Nat → Int32} {n : Nat} {A8 A10 : Nat → Int32} {D : pD} {x : Int32} (h : ldI s f n A8 A10 D u) (h0 : u'.1 3 0 = nI (D.1 + 1)) (h4 : u'.2.1 4 = upd (u.2.1 4) D.1 (A8 (x - 65).toNatClampNeg)) (h5 : u'.2.1 5 = upd (u.2.1 5) D.1 0) (hf : frX [(3, 0)] [4, 5] u u') : ldI s f n A8 A10 (pR x D) u' := by
  refine ⟨⟨by rw [hf.1 1 1 (by decide)]; exact h.1.1, by rw [hf.2.1 2 (by decide)]; exact h.1.2.1, h0, by rw [hf.2.1 8 (by decide)]; exact h.1.2.2.2.1, by rw [hf.2.1 10 (by decide)]; exact h.1.2.2.2.2⟩, fun j hj => ?_, h.2.2.tr (hf.up (by decide) (by decide))⟩
  have hj : j < D.1 + 1 := hj
  rw [h4, h5, hf.2.1 6 (by decide)]
  show upd (u.2.1 4) D.1 (A8 (x - 65).toNatClampNeg) j = A8 ((if j = D.1 then x else D.2.1 j) - 65).toNatClampNeg ∧ upd (u.2.1 5) D.1 0 j = nI (if j = D.1 then 0 else D.2.2.1 j) ∧ ∀ k, k < (if j = D.1 then 0 else D.2.2.1 j) → u.2.1 6 (5 * j + k) = lA A8 A10 (D.2.2.2 j k)
  by_cases z : j = D.1
  · subst z
    rw [upd_at, upd_at, if_pos rfl, if_pos rfl]
    exact ⟨rfl, rfl, fun k hk => absurd hk (Nat.not_lt_zero _)⟩
  · rw [upd_ne z, upd_ne z, if_neg z, if_neg z]
    exact h.2.1 j (by omega)
theorem ldI_T {s u u' : SX} {f : Nat → Int32} {n m c : Nat} {A8 A10 : Nat → Int32} {D : pD} {x : Int32} (h : ldI s f n A8 A10 D u) (hm : D.1 = m + 1) (hc : D.2.2.1 m = c) (hN : ∀ j, j < D.1 → D.2.2.1 j ≤ 5) (h5 : c < 5) (e5 : u'.2.1 5 = upd (u.2.1 5) m (nI (c + 1))) (e6 : u'.2.1 6 = upd (u.2.1 6) (5 * m + c) (lA A8 A10 x)) (hf : frX [] [5, 6] u u') : ldI s f n A8 A10 (pT x D) u' := by
  refine ⟨⟨by rw [hf.1 1 1 (by decide)]; exact h.1.1, by rw [hf.2.1 2 (by decide)]; exact h.1.2.1, by rw [hf.1 3 0 (by decide)]; exact h.1.2.2.1, by rw [hf.2.1 8 (by decide)]; exact h.1.2.2.2.1, by rw [hf.2.1 10 (by decide)]; exact h.1.2.2.2.2⟩, fun j hj => ?_, h.2.2.tr (hf.up (by decide) (by decide))⟩
  have hj : j < D.1 := hj
  obtain ⟨a4, a5, a6⟩ := h.2.1 j hj
  have a7 := hN j hj
  rw [e5, e6, hf.2.1 4 (by decide)]
  refine ⟨a4, ?_, fun k hk => ?_⟩
  · show upd (u.2.1 5) m (nI (c + 1)) j = nI (if j + 1 = D.1 then D.2.2.1 j + 1 else D.2.2.1 j)
    by_cases z : j = m
    · subst z
      rw [upd_at, if_pos hm.symm, hc]
    · rw [upd_ne z, if_neg (by omega)]
      exact a5
  · have hk : k < (if j + 1 = D.1 then D.2.2.1 j + 1 else D.2.2.1 j) := hk
    show upd (u.2.1 6) (5 * m + c) (lA A8 A10 x) (5 * j + k) = lA A8 A10 (if j + 1 = D.1 ∧ k = D.2.2.1 j then x else D.2.2.2 j k)
    by_cases z : j = m
    · subst z
      rw [if_pos hm.symm, hc] at hk
      by_cases w : k = c
      · rw [w, upd_at, if_pos ⟨hm.symm, hc.symm⟩]
      · rw [upd_ne (by omega), if_neg (fun y => w (by rw [y.2, hc]))]
        exact a6 k (by omega)
    · rw [if_neg (by omega)] at hk
      rw [upd_ne (by omega), if_neg (by omega)]
      exact a6 k hk
set_option maxHeartbeats 4000000 in
/-- the loop of load -/
theorem x_loadLoop {s : SX} {f : Nat → Int32} {n : Nat} {A8 A10 : Nat → Int32} (h2 : n ≤ 240) {Q : Option Value → SX → Prop} : ∀ d i q D u, i + d = n → gC q D → gF f d i q = none → ldI s f n A8 A10 D u →
    (∀ u', ldI s f n A8 A10 (pr f d i (decide (q.1 = 2)) D) u' → RnQ ZX mX5_load (144, [some (.ref 3), some (.ref 1), none, none, none], [], u') Q) →
    RnQ ZX mX5_load (19, [some (.ref 3), some (.ref 1), some (.int (bI (decide (q.1 = 2)))), some (.int (nI i)), none], [], u) Q := by
  intro d
  induction d with
  | zero =>
    intro i q D u hd hC hF h k
    have hin : i = n := by omega
    subst hin
    refine RQ_n ZX_ok 3 rfl trivial ?_
    refine RQ_b rfl (fun _ => ?_) (fun q => absurd (by show u.1 1 1 ≤ nI i; rw [h.1.1]; exact Int32.le_refl _) q)
    exact RQ_le (zle_s (zle_s (zle_n (zle_n (zle_n zle_0))))) (k u h)
  | succ d ih =>
    intro i q D u hd hC hF h k
    obtain ⟨q', hq', hF'⟩ := gF_some hF
    have hge : ¬ (u.1 1 1 ≤ nI i) := by rw [h.1.1]; exact nI_ge (by omega) (by omega)
    have hin : vp_in (nI i) 240 := nI_in (by omega) (by omega)
    have hcl : (nI i).toNatClampNeg = i := nI_clamp (by omega)
    have hN : ∀ j, j < D.1 → D.2.2.1 j ≤ 5 := fun j hj => (hC.2.2.1 j hj).2.1
    refine RQ_n ZX_ok 3 rfl trivial ?_
    refine RQ_b rfl (fun q => absurd q hge) (fun _ => ?_)
    refine RQ_n ZX_ok 7 rfl ⟨hin, trivial⟩ ?_
    obtain ⟨x, hx⟩ : ∃ x, x = f i := ⟨_, rfl⟩
    have hx2 : u.2.1 2 (nI i).toNatClampNeg = x := by rw [hcl, h.1.2.1, hx]
    obtain ⟨rt, hrt⟩ : ∃ rt, rt = decide (q.1 = 2) := ⟨_, rfl⟩
    rw [pr_s, ← hx, ← hrt] at k
    rw [← hx] at hq'
    have hst := gC_step hC hq'
    rw [← hrt] at hst ⊢
    show RnQ ZX mX5_load (39, [some (.ref 3), some (.ref 1), some (.int (bI rt)), some (.int (nI i)), some (.int (u.2.1 2 (nI i).toNatClampNeg))], [.int 61, .int (u.2.1 2 (nI i).toNatClampNeg)], u) _
    rw [hx2]
    have turn : ∀ rt' D' u', pst x rt D = (rt', D') → ldI s f n A8 A10 D' u' → RnQ ZX mX5_load (138, [some (.ref 3), some (.ref 1), some (.int (bI rt')), some (.int (nI i)), some (.int x)], [], u') Q := by
      intro rt' D' u' e h'
      rw [e] at hst k
      dsimp only at hst k
      refine RQ_n ZX_ok 2 rfl trivial ?_
      have h0 := ih (i + 1) q' D' u' (by omega) hst.1 hF' h' (by rw [← hst.2]; exact k)
      rw [nI_succ, ← hst.2] at h0
      exact RQ_le (zle_s (zle_s (zle_s (zle_s (zle_n zle_0))))) h0
    refine RQ_b rfl (fun c1 => ?_) (fun c1 => ?_)
    · have c1 : ¬ x = 61 := c1
      refine RQ_n ZX_ok 2 rfl trivial ?_
      refine RQ_b rfl (fun c2 => ?_) (fun c2 => ?_)
      · have c2 : ¬ x = 59 := c2
        refine RQ_n ZX_ok 1 rfl trivial ?_
        refine RQ_s vX10_isSignByte (x_isSignByte u x) rfl k5_60 rfl rfl rfl rfl ?_
        have letter : pst x rt D = (rt, pT x D) → q.1 = 2 → ∀ v, v = lA A8 A10 x → ∃ m, D.1 = m + 1 ∧ m < 16 ∧ u.1 3 0 = nI (m + 1) ∧ u.2.1 5 m = nI (D.2.2.1 m) ∧ D.2.2.1 m < 5 ∧ ∀ u1 : SX, u1.2.1 5 = upd (u.2.1 5) m (nI (D.2.2.1 m + 1)) → u1.2.1 6 = upd (u.2.1 6) (5 * m + D.2.2.1 m) v → frX [] [5, 6] u u1 → ldI s f n A8 A10 (pT x D) u1 := by
          intro e h2q v hv
          have h1 := (hC.1.2.2.2.2.2.1 h2q).1
          obtain ⟨m, hm⟩ : ∃ m, D.1 = m + 1 := ⟨D.1 - 1, by omega⟩
          have h16 := hC.1.2.2.2.1
          have hlt : D.2.2.1 m < 5 := by
            have h9 := hst.1
            rw [e] at h9
            have := (h9.2.2.1 m (by show m < D.1; omega)).2.1
            have : (if m + 1 = D.1 then D.2.2.1 m + 1 else D.2.2.1 m) ≤ 5 := this
            rw [if_pos hm.symm] at this
            omega
          exact ⟨m, hm, by omega, by rw [h.1.2.2.1, hm], (h.2.1 m (by omega)).2.1, hlt, fun u1 a1 a2 a3 => ldI_T h hm rfl hN hlt a1 (by rw [← hv]; exact a2) a3⟩
        refine RQ_b rfl (fun c3 => ?_) (fun c3 => ?_)
        · have c3 : ¬ isSg x = true := by rw [bI_0.mp c3]; decide
          refine RQ_n ZX_ok 1 rfl trivial ?_
          refine RQ_s vX10_isNameByte (x_isNameByte u x) rfl k5_68 rfl rfl rfl rfl ?_
          -- 116: a left name, or nothing
          have c116 : ¬ (isNm x = true ∧ rt = true) → RnQ ZX mX5_load (116, [some (.ref 3), some (.ref 1), some (.int (bI rt)), some (.int (nI i)), some (.int x)], [], u) Q := by
            intro hno
            refine RQ_n ZX_ok 1 rfl trivial ?_
            refine RQ_s vX10_isNameByte (x_isNameByte u x) rfl k5_68 rfl rfl rfl rfl ?_
            refine RQ_b rfl (fun q4 => ?_) (fun q4 => ?_)
            · have c4 : ¬ isNm x = true := by rw [bI_0.mp q4]; decide
              exact turn rt D u (by rw [pst, if_neg c1, if_neg c2, if_neg c3, if_neg hno, if_neg c4]) h
            · have c4 : isNm x = true := bI_t q4
              obtain ⟨y, hy, hxy, -⟩ := isNm_ix c4
              have hix : x - 65 = nI y := by rw [hxy, show (65 : Int32) = nI 65 from rfl, nI_sub (by omega), show 65 + y - 65 = y by omega]
              have e : pst x rt D = (rt, pR x D) := by rw [pst, if_neg c1, if_neg c2, if_neg c3, if_neg hno, if_pos c4]
              have hlt : D.1 < 16 := by
                have h9 := hst.1
                rw [e] at h9
                have : D.1 + 1 ≤ 16 := h9.1.2.2.2.1
                omega
              refine RQ_n ZX_ok 7 rfl ⟨by rw [hix]; exact nI_in (by omega) (by omega), trivial⟩ ?_
              refine RQ_V vX5_addRule (x_addRule u D.1 (u.2.1 8 (x - 65).toNatClampNeg) h.1.2.2.1 hlt) rfl k5_71 rfl rfl rfl (zx3 u rfl) (fun r1 s1 h => h.2.2.2.2.n) (fun r1 u1 h1 => ?_)
              obtain ⟨rfl, a1, a2, a3, a4⟩ := h1
              rw [h.1.2.2.2.1] at a2
              exact turn rt (pR x D) u1 e (ldI_R h a1 a2 a3 a4)
          refine RQ_b rfl (fun q4 => c116 (fun z => by rw [z.1] at q4; exact absurd q4 (by show ¬ ((1 : Int32) = 0); decide))) (fun q4 => ?_)
          have c4 : isNm x = true := bI_t q4
          refine RQ_n ZX_ok 1 rfl trivial ?_
          refine RQ_b rfl (fun q5 => c116 (fun z => by rw [z.2] at q5; exact absurd q5 (by show ¬ ((1 : Int32) = 0); decide))) (fun q5 => ?_)
          have c5 : rt = true := bI_t q5
          obtain ⟨y, hy, hxy, -⟩ := isNm_ix c4
          have hix : x - 65 = nI y := by rw [hxy, show (65 : Int32) = nI 65 from rfl, nI_sub (by omega), show 65 + y - 65 = y by omega]
          have e : pst x rt D = (rt, pT x D) := by rw [pst, if_neg c1, if_neg c2, if_neg c3, if_pos ⟨c4, c5⟩]
          obtain ⟨m, hm, hm16, hm0, hm5, hlt, hl⟩ := letter e (of_decide_eq_true (hrt.symm.trans c5)) (8 + A8 (x - 65).toNatClampNeg) (by rw [lA, if_neg c3])
          refine RQ_n ZX_ok 9 rfl ⟨by rw [hix]; exact nI_in (by omega) (by omega), trivial⟩ ?_
          refine RQ_V vX5_addLetter (x_addLetter u m (D.2.2.1 m) (8 + u.2.1 8 (x - 65).toNatClampNeg) hm0 hm16 hm5 hlt) rfl k5_64 rfl rfl rfl (zx3 u rfl) (fun r1 s1 h => h.2.2.2.n) (fun r1 u1 h1 => ?_)
          obtain ⟨rfl, a1, a2, a3⟩ := h1
          rw [h.1.2.2.2.1] at a2
          refine RQ_n ZX_ok 1 rfl trivial ?_
          exact turn rt (pT x D) u1 e (hl u1 a1 a2 a3)
        · have c3 : isSg x = true := bI_t c3
          obtain ⟨y, hy, hxy, -⟩ := isSg_ix c3
          have hix : x - 97 = nI y := by rw [hxy, show (97 : Int32) = nI 97 from rfl, nI_sub (by omega), show 97 + y - 97 = y by omega]
          have e : pst x rt D = (rt, pT x D) := by rw [pst, if_neg c1, if_neg c2, if_pos c3]
          obtain ⟨m, hm, hm16, hm0, hm5, hlt, hl⟩ := letter e (gnx_sg c3 hq') (A10 (x - 97).toNatClampNeg) (by rw [lA, if_pos c3])
          refine RQ_n ZX_ok 7 rfl ⟨by rw [hix]; exact nI_in (by omega) (by omega), trivial⟩ ?_
          refine RQ_V vX5_addLetter (x_addLetter u m (D.2.2.1 m) (u.2.1 10 (x - 97).toNatClampNeg) hm0 hm16 hm5 hlt) rfl k5_64 rfl rfl rfl (zx3 u rfl) (fun r1 s1 h => h.2.2.2.n) (fun r1 u1 h1 => ?_)
          obtain ⟨rfl, a1, a2, a3⟩ := h1
          rw [h.1.2.2.2.2] at a2
          refine RQ_n ZX_ok 1 rfl trivial ?_
          exact turn rt (pT x D) u1 e (hl u1 a1 a2 a3)
      · have c2 : x = 59 := Classical.not_not.mp c2
        refine RQ_n ZX_ok 3 rfl trivial ?_
        exact turn false D u (by rw [pst, if_neg c1, if_pos c2]) h
    · have c1 : x = 61 := Classical.not_not.mp c1
      refine RQ_n ZX_ok 3 rfl trivial ?_
      exact turn true D u (by rw [pst, if_pos c1]) h
/-- the class's grammar behind load -/
def ldQ (s : SX) (f : Nat → Int32) (n : Nat) (u : SX) : Prop :=
  ((u.1 3 0 = nI (pr f n 0 false gD0).1 ∧ u.1 3 1 = nI (nms (pr f n 0 false gD0).2.1 (pr f n 0 false gD0).1).1 ∧ u.1 3 2 = nI (sgs (so f n 0 0) 26).1 ∧ u.1 3 3 = (1 : Int32) <<< (nI (pr f n 0 false gD0).1 &&& 31) - 1 ∧ u.1 3 4 = 0) ∧
  (∀ k, k < (nms (pr f n 0 false gD0).2.1 (pr f n 0 false gD0).1).1 → u.2.1 7 k = (nms (pr f n 0 false gD0).2.1 (pr f n 0 false gD0).1).2 k) ∧ (∀ y, y < 26 → u.2.1 8 y = fI (fnd (nms (pr f n 0 false gD0).2.1 (pr f n 0 false gD0).1).2 (nI (65 + y)) (nms (pr f n 0 false gD0).2.1 (pr f n 0 false gD0).1).1)) ∧
  (∀ k, k < (sgs (so f n 0 0) 26).1 → u.2.1 9 k = nI ((sgs (so f n 0 0) 26).2 k)) ∧ (∀ j, j < 26 → u.2.1 10 j = if bt (so f n 0 0) j = true then nI (sgs (so f n 0 0) j).1 else 99)) ∧
  (∀ j, j < (pr f n 0 false gD0).1 → u.2.1 4 j = u.2.1 8 ((pr f n 0 false gD0).2.1 j - 65).toNatClampNeg ∧ u.2.1 5 j = nI ((pr f n 0 false gD0).2.2.1 j) ∧ ∀ k, k < (pr f n 0 false gD0).2.2.1 j → u.2.1 6 (5 * j + k) = lA (u.2.1 8) (u.2.1 10) ((pr f n 0 false gD0).2.2.2 j k)) ∧
  (u.2.1 4 (pr f n 0 false gD0).1 = -1 ∧ u.2.1 5 (pr f n 0 false gD0).1 = 1 ∧ u.2.1 6 (5 * (pr f n 0 false gD0).1) = 8) ∧ frX [(3, 0), (3, 1), (3, 2), (3, 3), (3, 4)] [4, 5, 6, 7, 8, 9, 10] s u
set_option maxHeartbeats 4000000 in
theorem x_load (s : SX) (n : Nat) (hn : s.1 1 1 = nI n) (h2 : n ≤ 240) (hF : gF (s.2.1 2) n 0 gq0 = none) (h6 : (nms (pr (s.2.1 2) n 0 false gD0).2.1 (pr (s.2.1 2) n 0 false gD0).1).1 ≤ 6) (h8 : ctI (so (s.2.1 2) n 0 0) 26 ≤ 8) (h16 : (pr (s.2.1 2) n 0 false gD0).1 ≤ 16) (hN : ∀ j, j < (pr (s.2.1 2) n 0 false gD0).1 → (pr (s.2.1 2) n 0 false gD0).2.2.1 j ≤ 5) :
    EvQ ZX mX5_load [.ref 3, .ref 1] s (fun r u => r = none ∧ ldQ s (s.2.1 2) n u) := by
  refine EQ_V vX5_load rfl ?_
  refine RQ_n ZX_ok 2 rfl trivial ?_
  refine RQ_V vX5_numberNames (x_numberNames s n hn h2 h6) rfl k5_43 rfl rfl rfl (zx3 s rfl) (fun r1 s1 h => h.2.2.2.2.n) (fun r1 u1 h => ?_)
  obtain ⟨rfl, a1, a2, a3, a4⟩ := h
  refine RQ_n ZX_ok 2 rfl trivial ?_
  have e2 : u1.2.1 2 = s.2.1 2 := a1.2.1
  refine RQ_V vX5_numberSigns (x_numberSigns u1 n a1.1 h2 (by rw [e2]; exact h8)) rfl k5_47 rfl rfl rfl (zx3 u1 rfl) (fun r1 s1 h => h.2.2.2.2.n) (fun r1 u2 h => ?_)
  obtain ⟨rfl, b1, b2, b3, b4⟩ := h
  rw [e2] at b1 b2 b3
  refine RQ_n ZX_ok 7 rfl trivial ?_
  refine RQ_le (l' := [some (.ref 3), some (.ref 1), some (.int (bI (decide (gq0.1 = 2)))), some (.int (nI 0)), none]) (zle_s (zle_s (zle_s (zle_s (zle_n zle_0))))) ?_
  refine x_loadLoop (s := (updI u2.1 3 0 0, u2.2)) (f := s.2.1 2) (n := n) (A8 := u2.2.1 8) (A10 := u2.2.1 10) h2 n 0 gq0 gD0 _ (by omega) gC_0 hF ⟨⟨?_, ?_, rfl, rfl, rfl⟩, fun j hj => absurd hj (Nat.not_lt_zero _), frX.rf⟩ (fun u3 h3 => ?_)
  · show u2.1 1 1 = _
    rw [b4.1 1 1 (by decide)]; exact a1.1
  · show u2.2.1 2 = _
    rw [b4.2.1 2 (by decide)]; exact e2
  · obtain ⟨D, hD⟩ : ∃ D, D = pr (s.2.1 2) n 0 false gD0 := ⟨_, rfl⟩
    have h3 : ldI (updI u2.1 3 0 0, u2.2) (s.2.1 2) n (u2.2.1 8) (u2.2.1 10) D u3 := by rw [hD]; exact h3
    rw [← hD] at h16 hN a2 a3 a1
    unfold ldQ
    rw [← hD]
    have h30 : u3.1 3 0 = nI D.1 := h3.1.2.2.1
    have hfr := h3.2.2
    refine RQ_n ZX_ok 12 rfl trivial ?_
    obtain ⟨u4, hu4⟩ : ∃ u4 : SX, u4 = (updI (updI u3.1 3 3 ((1 : Int32) <<< (u3.1 3 0 &&& 31) - 1)) 3 4 0, u3.2) := ⟨_, rfl⟩
    show RnQ ZX mX5_load (162, _, [.ref 3], (updI (updI u3.1 3 3 ((1 : Int32) <<< (u3.1 3 0 &&& 31) - 1)) 3 4 0, u3.2)) _
    rw [← hu4]
    have f4 : frX [(3, 3), (3, 4)] [] u3 u4 := by
      rw [hu4]
      exact (frX.i 3 3 (by decide)).tr (frX.i 3 4 (by decide))
    have h40 : u4.1 3 0 = nI D.1 := by rw [f4.1 3 0 (by decide)]; exact h30
    refine RQ_V vX5_addOuterRule (x_addOuterRule u4 D.1 h40 h16) rfl k5_74 rfl rfl rfl (zx3 u4 rfl) (fun r1 s1 h => h.2.2.2.2.n) (fun r1 u5 h5 => ?_)
    obtain ⟨rfl, c1, c2, c3, f5⟩ := h5
    refine RQ_to (Rn_vret rfl rfl) ⟨rfl, ⟨⟨?_, ?_, ?_, ?_, ?_⟩, fun k hk => ?_, fun y hy => ?_, fun k hk => ?_, fun j hj => ?_⟩, fun j hj => ?_, ⟨?_, ?_, ?_⟩, ?_⟩
    · rw [f5.1 3 0 (by decide)]; exact h40
    · rw [f5.1 3 1 (by decide), f4.1 3 1 (by decide), hfr.1 3 1 (by decide)]
      show u2.1 3 1 = _
      rw [b4.1 3 1 (by decide)]
      exact a1.2.2
    · rw [f5.1 3 2 (by decide), f4.1 3 2 (by decide), hfr.1 3 2 (by decide)]
      exact b1
    · rw [f5.1 3 3 (by decide), hu4, ← h30]
      rfl
    · rw [f5.1 3 4 (by decide), hu4]
      rfl
    · rw [f5.2.1 7 (by decide), f4.2.1 7 (by decide), hfr.2.1 7 (by decide)]
      show u2.2.1 7 k = _
      rw [b4.2.1 7 (by decide)]
      exact a2 k hk
    · rw [f5.2.1 8 (by decide), f4.2.1 8 (by decide), h3.1.2.2.2.1, b4.2.1 8 (by decide)]
      exact a3 y hy
    · rw [f5.2.1 9 (by decide), f4.2.1 9 (by decide), hfr.2.1 9 (by decide)]
      exact b2 k hk
    · rw [f5.2.1 10 (by decide), f4.2.1 10 (by decide), h3.1.2.2.2.2, b3 j hj]
      by_cases z : bt (so (s.2.1 2) n 0 0) j = true
      · rw [if_pos ⟨hj, z⟩, if_pos z]
      · rw [if_neg (fun y => z y.2), if_neg z]
    · obtain ⟨d4, d5, d6⟩ := h3.2.1 j hj
      rw [c1, c2, c3, upd_ne (by omega), upd_ne (by omega), f5.2.1 8 (by decide), f5.2.1 10 (by decide), f4.2.1 4 (by decide), f4.2.1 5 (by decide), f4.2.1 6 (by decide), f4.2.1 8 (by decide), f4.2.1 10 (by decide), h3.1.2.2.2.1, h3.1.2.2.2.2]
      refine ⟨d4, d5, fun k hk => ?_⟩
      have := hN j hj
      rw [upd_ne (by omega)]
      exact d6 k hk
    · rw [c1, upd_at]
    · rw [c2, upd_at]
    · rw [c3, upd_at]
    · refine frX.tr (s1 := u2) ?_ ?_
      · exact (a4.up (by decide) (by decide)).tr (b4.up (by decide) (by decide))
      · refine frX.tr (s1 := (updI u2.1 3 0 0, u2.2)) (frX.i 3 0 (by decide)) ?_
        exact ((hfr.up (by decide) (by decide)).tr (f4.up (by decide) (by decide))).tr (f5.up (by decide) (by decide))
