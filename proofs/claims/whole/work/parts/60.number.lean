/-! numberNames and numberSigns of the class. -/
theorem fnd_new {B : Nat → Int32} {x : Int32} {c : Nat} (h : fnd B x c = none) (z : Int32) : fnd (fun k => if k = c then x else B k) z (c + 1) = if z = x then some c else fnd B z c := by
  have e : fnd (fun k => if k = c then x else B k) z c = fnd B z c := fnd_cong (fun k hk => if_neg (by omega))
  cases hz : fnd B z c with
  | some k =>
    rw [hz] at e
    rw [(fnd_s _ _ _).1 k e, if_neg (fun y => by rw [y, h] at hz; cases hz)]
  | none =>
    rw [hz] at e
    rw [(fnd_s _ _ _).2 e, show (if c = c then x else B c) = x from if_pos rfl]
    by_cases w : z = x
    · rw [if_pos w, if_pos w.symm]
    · rw [if_neg w, if_neg (fun y => w y.symm)]
theorem pr_mono (f : Nat → Int32) : ∀ d i rt D, (nms D.2.1 D.1).1 ≤ (nms (pr f d i rt D).2.1 (pr f d i rt D).1).1
  | 0, _, _, _ => Nat.le_refl _
  | d + 1, i, rt, D => by
    have hT : (nms (pT (f i) D).2.1 (pT (f i) D).1) = nms D.2.1 D.1 := rfl
    have hR : (nms D.2.1 D.1).1 ≤ (nms (pR (f i) D).2.1 (pR (f i) D).1).1 := by
      have e : nms D.2.1 D.1 = nms (pR (f i) D).2.1 D.1 := nms_cong (fun k hk => by show D.2.1 k = if k = D.1 then f i else D.2.1 k; rw [if_neg (by omega)])
      rw [e]
      exact nms_mono D.1 1
    rw [pr]
    by_cases c1 : f i = 61
    · rw [if_pos c1]; exact pr_mono f d _ _ _
    rw [if_neg c1]
    by_cases c2 : f i = 59
    · rw [if_pos c2]; exact pr_mono f d _ _ _
    rw [if_neg c2]
    by_cases c3 : isSg (f i) = true
    · rw [if_pos c3, ← hT]; exact pr_mono f d _ _ _
    rw [if_neg c3]
    by_cases c4 : isNm (f i) = true ∧ rt = true
    · rw [if_pos c4, ← hT]; exact pr_mono f d _ _ _
    rw [if_neg c4]
    by_cases c5 : isNm (f i) = true
    · rw [if_pos c5]; exact Nat.le_trans hR (pr_mono f d _ _ _)
    rw [if_neg c5]; exact pr_mono f d _ _ _
/-- the class's names: how many, their bytes, the numbers by letters -/
def nmI (s : SX) (f : Nat → Int32) (n : Nat) (q : NBt) (u : SX) : Prop :=
  (u.1 1 1 = nI n ∧ u.2.1 2 = f ∧ u.1 3 1 = nI q.1) ∧ (∀ k, k < q.1 → u.2.1 7 k = q.2 k) ∧ (∀ y, y < 26 → u.2.1 8 y = fI (fnd q.2 (nI (65 + y)) q.1)) ∧ frX [(3, 1)] [7, 8] s u
theorem fI_m1 {o : Option Nat} (h : ∀ k, o = some k → k < 2 ^ 31) : fI o = -1 ↔ o = none := by
  cases o with
  | none => exact ⟨fun _ => rfl, fun _ => rfl⟩
  | some k => exact ⟨fun z => absurd z (nI_m1 (h k rfl)), fun z => by cases z⟩
set_option maxHeartbeats 4000000 in
theorem x_numberNames (s : SX) (n : Nat) (hn : s.1 1 1 = nI n) (h2 : n ≤ 240) (h6 : (nms (pr (s.2.1 2) n 0 false gD0).2.1 (pr (s.2.1 2) n 0 false gD0).1).1 ≤ 6) :
    EvQ ZX mX5_numberNames [.ref 3, .ref 1] s (fun r u => r = none ∧ nmI s (s.2.1 2) n (nms (pr (s.2.1 2) n 0 false gD0).2.1 (pr (s.2.1 2) n 0 false gD0).1) u) := by
  obtain ⟨f, hf⟩ : ∃ f, f = s.2.1 2 := ⟨_, rfl⟩
  rw [← hf] at h6 ⊢
  refine EQ_V vX5_numberNames rfl ?_
  have key : ∀ d i rt D u, i + d = n → (nms (pr f d i rt D).2.1 (pr f d i rt D).1).1 ≤ 6 → nmI s f n (nms D.2.1 D.1) u →
      RnQ ZX mX5_numberNames (17, [some (.ref 3), some (.ref 1), some (.int (bI rt)), some (.int (nI i)), none], [], u) (fun r u => r = none ∧ nmI s f n (nms (pr f d i rt D).2.1 (pr f d i rt D).1) u) := by
    intro d
    induction d with
    | zero =>
      intro i rt D u hd h6 h
      have hin : i = n := by omega
      subst hin
      refine RQ_n ZX_ok 3 rfl trivial ?_
      refine RQ_b rfl (fun _ => ?_) (fun q => absurd (by show u.1 1 1 ≤ nI i; rw [h.1.1]; exact Int32.le_refl _) q)
      exact RQ_to (Rn_vret rfl rfl) ⟨rfl, h⟩
    | succ d ih =>
      intro i rt D u hd h6 h
      have hge : ¬ (u.1 1 1 ≤ nI i) := by rw [h.1.1]; exact nI_ge (by omega) (by omega)
      have hin : vp_in (nI i) 240 := nI_in (by omega) (by omega)
      have hcl : (nI i).toNatClampNeg = i := nI_clamp (by omega)
      refine RQ_n ZX_ok 3 rfl trivial ?_
      refine RQ_b rfl (fun q => absurd q hge) (fun _ => ?_)
      refine RQ_n ZX_ok 7 rfl ⟨hin, trivial⟩ ?_
      obtain ⟨x, hx⟩ : ∃ x, x = f i := ⟨_, rfl⟩
      have hx2 : u.2.1 2 (nI i).toNatClampNeg = x := by rw [hcl, h.1.2.1, hx]
      show RnQ ZX mX5_numberNames (37, [some (.ref 3), some (.ref 1), some (.int (bI rt)), some (.int (nI i)), some (.int (u.2.1 2 (nI i).toNatClampNeg))], [.int 61, .int (u.2.1 2 (nI i).toNatClampNeg)], u) _
      rw [hx2]
      -- the end of a turn
      have turn : ∀ rt' D' u', pr f (d + 1) i rt D = pr f d (i + 1) rt' D' → nmI s f n (nms D'.2.1 D'.1) u' → RnQ ZX mX5_numberNames (133, [some (.ref 3), some (.ref 1), some (.int (bI rt')), some (.int (nI i)), some (.int x)], [], u') (fun r u => r = none ∧ nmI s f n (nms (pr f (d + 1) i rt D).2.1 (pr f (d + 1) i rt D).1) u) := by
        intro rt' D' u' e h'
        rw [e] at h6 ⊢
        refine RQ_n ZX_ok 2 rfl trivial ?_
        have h0 := ih (i + 1) rt' D' u' (by omega) h6 h'
        rw [nI_succ] at h0
        exact RQ_le (zle_s (zle_s (zle_s (zle_s (zle_n zle_0))))) h0
      refine RQ_b rfl (fun q => ?_) (fun q => ?_)
      · have q : x = 61 := q
        refine RQ_n ZX_ok 2 rfl trivial ?_
        refine RQ_b rfl (fun z => absurd q z) (fun _ => ?_)
        refine RQ_n ZX_ok 4 rfl trivial ?_
        exact turn true D u (by rw [pr, ← hx, if_pos q]) h
      · have q : ¬ x = 61 := q
        refine RQ_n ZX_ok 2 rfl trivial ?_
        refine RQ_b rfl (fun q2 => ?_) (fun q2 => ?_)
        · have q2 : ¬ x = 59 := q2
          refine RQ_n ZX_ok 1 rfl trivial ?_
          refine RQ_b rfl (fun q3 => ?_) (fun q3 => ?_)
          · have q3 : rt = true := bI_t q3
            by_cases c3 : isSg x = true
            · exact turn rt (pT x D) u (by rw [pr, ← hx, if_neg q, if_neg q2, if_pos c3]) h
            by_cases c4 : isNm x = true
            · exact turn rt (pT x D) u (by rw [pr, ← hx, if_neg q, if_neg q2, if_neg c3, if_pos ⟨c4, q3⟩]) h
            · exact turn rt D u (by rw [pr, ← hx, if_neg q, if_neg q2, if_neg c3, if_neg (fun y => c4 y.1), if_neg c4]) h
          · have q3 : rt = false := bI_0.mp (Classical.not_not.mp q3)
            refine RQ_n ZX_ok 1 rfl trivial ?_
            refine RQ_s vX10_isNameByte (x_isNameByte u x) rfl k5_68 rfl rfl rfl rfl ?_
            refine RQ_b rfl (fun q4 => ?_) (fun q4 => ?_)
            · have c4 : ¬ isNm x = true := by rw [bI_0.mp q4]; decide
              by_cases c3 : isSg x = true
              · exact turn rt (pT x D) u (by rw [pr, ← hx, if_neg q, if_neg q2, if_pos c3]) h
              · exact turn rt D u (by rw [pr, ← hx, if_neg q, if_neg q2, if_neg c3, if_neg (fun y => c4 y.1), if_neg c4]) h
            · have c4 : isNm x = true := bI_t q4
              have a := isNm_ne c4
              obtain ⟨y, hy, hxy, -⟩ := isNm_ix c4
              have hix : x - 65 = nI y := by rw [hxy, show (65 : Int32) = nI 65 from rfl, nI_sub (by omega), show 65 + y - 65 = y by omega]
              have hyc : (nI y).toNatClampNeg = y := nI_clamp (by omega)
              have hyin : vp_in (x - 65) 26 := by rw [hix]; exact nI_in (by omega) (by omega)
              have e : pr f (d + 1) i rt D = pr f d (i + 1) rt (pR x D) := by
                rw [pr, ← hx, if_neg q, if_neg q2, if_neg (by rw [a.2.2.2.2]; decide), if_neg (fun z => by rw [q3] at z; exact absurd z.2 (by decide)), if_pos c4]
              have eL : nms (pR x D).2.1 (pR x D).1 = nmS x (nms D.2.1 D.1) := by
                show nmS (if D.1 = D.1 then x else D.2.1 D.1) (nms (pR x D).2.1 D.1) = _
                rw [if_pos rfl]
                congr 1
                exact nms_cong (fun k hk => by show (if k = D.1 then x else D.2.1 k) = D.2.1 k; rw [if_neg (by omega)])
              have h8 : u.2.1 8 (x - 65).toNatClampNeg = fI (fnd (nms D.2.1 D.1).2 x (nms D.2.1 D.1).1) := by rw [hix, hyc, h.2.2.1 y hy, ← hxy]
              have hq6 : (nms D.2.1 D.1).1 ≤ 6 := Nat.le_trans (pr_mono f (d + 1) i rt D) h6
              refine RQ_n ZX_ok 7 rfl ⟨hyin, trivial⟩ ?_
              refine RQ_b rfl (fun q5 => ?_) (fun q5 => ?_)
              · have q5 : ¬ u.2.1 8 (x - 65).toNatClampNeg = -1 := q5
                rw [h8] at q5
                refine turn rt (pR x D) u e ?_
                cases hfn : fnd (nms D.2.1 D.1).2 x (nms D.2.1 D.1).1 with
                | none => rw [hfn] at q5; exact absurd rfl q5
                | some k => rw [eL, nmS_some hfn]; exact h
              · have q5 : u.2.1 8 (x - 65).toNatClampNeg = -1 := Classical.not_not.mp q5
                rw [h8] at q5
                have hfn : fnd (nms D.2.1 D.1).2 x (nms D.2.1 D.1).1 = none := (fI_m1 (fun k hk => by have := fnd_lt hk; omega)).mp q5
                have eL2 := eL
                rw [nmS_none hfn] at eL2
                have hlt : (nms D.2.1 D.1).1 < 6 := by
                  have m1 := pr_mono f d (i + 1) rt (pR x D)
                  rw [eL2, ← e] at m1
                  dsimp only at m1
                  omega
                have h31 : u.1 3 1 = nI (nms D.2.1 D.1).1 := h.1.2.2
                have hcc : (nI (nms D.2.1 D.1).1).toNatClampNeg = (nms D.2.1 D.1).1 := nI_clamp (by omega)
                refine RQ_n ZX_ok 3 rfl trivial ?_
                refine RQ_b rfl (fun z => absurd (show (6 : Int32) ≤ u.1 3 1 from z) (by rw [h31]; exact nI_ge (b := 6) hlt (by omega))) (fun _ => ?_)
                refine RQ_n ZX_ok 20 rfl ⟨hyin, by show vp_in (u.1 3 1) 6; rw [h31]; exact nI_in (by omega) (by omega), trivial⟩ ?_
                refine turn rt (pR x D) _ e ?_
                rw [eL2]
                refine ⟨⟨h.1.1, h.1.2.1, ?_⟩, fun k hk => ?_, fun y' hy' => ?_, ?_⟩
                · show u.1 3 1 + 1 = nI ((nms D.2.1 D.1).1 + 1)
                  rw [h31, nI_1]
                · show upd (u.2.1 7) (u.1 3 1).toNatClampNeg x k = (if k = (nms D.2.1 D.1).1 then x else (nms D.2.1 D.1).2 k)
                  rw [h31, hcc]
                  by_cases z : k = (nms D.2.1 D.1).1
                  · rw [z, upd_at, if_pos rfl]
                  · rw [upd_ne z, if_neg z]
                    have hk : k < (nms D.2.1 D.1).1 + 1 := hk
                    exact h.2.1 k (by omega)
                · show upd (u.2.1 8) (x - 65).toNatClampNeg (u.1 3 1) y' = _
                  rw [hix, hyc, fnd_new hfn]
                  by_cases z : y' = y
                  · rw [z, upd_at, if_pos hxy.symm, h31]; rfl
                  · rw [upd_ne z, if_neg (fun w => z ?_), h.2.2.1 y' hy']
                    rw [hxy] at w
                    have := (nI_eq (a := 65 + y') (b := 65 + y) (by omega) (by omega)).mp w
                    omega
                · exact ((h.2.2.2.tr (frX.a 8 (by decide))).tr (frX.a 7 (by decide))).tr (frX.i 3 1 (by decide))
        · have q2 : x = 59 := Classical.not_not.mp q2
          refine RQ_n ZX_ok 2 rfl trivial ?_
          refine RQ_b rfl (fun _ => ?_) (fun z => absurd q z)
          refine RQ_n ZX_ok 3 rfl trivial ?_
          exact turn false D u (by rw [pr, ← hx, if_neg q, if_pos q2]) h
  refine RQ_n ZX_ok 6 rfl trivial ?_
  refine RQ_S vJ7_fill_53178 (x_fill_8 _ (-1)) rfl k5_80 rfl rfl rfl (fun r1 s1 h => h.2.1.n) (fun r1 u1 h => ?_)
  obtain ⟨rfl, a1, a2⟩ := h
  refine RQ_n ZX_ok 4 rfl trivial ?_
  refine RQ_le (l' := [some (.ref 3), some (.ref 1), some (.int (bI false)), some (.int (nI 0)), none]) (zle_s (zle_s (zle_s (zle_s (zle_n zle_0))))) ?_
  refine key n 0 false gD0 u1 (by omega) h6 ⟨⟨?_, ?_, ?_⟩, fun k hk => absurd hk (Nat.not_lt_zero _), fun y hy => ?_, ?_⟩
  · rw [a1.1 1 1 (by decide)]; exact hn
  · rw [a1.2.1 2 (by decide)]; exact hf.symm
  · rw [a1.1 3 1 (by decide)]; rfl
  · rw [a2 y hy]; rfl
  · exact (frX.i 3 1 (by decide)).tr (a1.up (by decide) (by decide))
