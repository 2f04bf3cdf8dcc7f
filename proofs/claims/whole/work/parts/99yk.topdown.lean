/-! rulesAreSelected and isTopDown. -/
/-- what selects a rule -/
noncomputable def zS0 (G : ZGT) (r : Nat) : Int32 := zLB G (zE0 G) (zF0 G) r 0 (zW0 G (zgl G r))
def zrs (G : ZGT) (S : Nat → Int32) : Nat → Nat → Int32
  | 0, _ => 0
  | r + 1, n => if zgi G r = true ∧ zgl G r = n then zrs G S r n ||| S r else zrs G S r n
def ztd (G : ZGT) (S : Nat → Int32) : Nat → Bool
  | 0 => true
  | r + 1 => ztd G S r && (!zgi G r || decide (zrs G S r (zgl G r) &&& S r = 0))
section ZTd
variable {G : ZGT} {S : Nat → Int32}
theorem zand_or (a b x : Int32) : (a ||| b) &&& x = a &&& x ||| b &&& x := b_ext (fun i _ => by rw [b_and, b_or, b_or, b_and, b_and, Bool.and_or_distrib_right])
theorem zrs_and {n : Nat} {x : Int32} : ∀ r, zrs G S r n &&& x = 0 ↔ ∀ j, j < r → zgi G j = true → zgl G j = n → S j &&& x = 0
  | 0 => ⟨fun _ j hj => by omega, fun _ => Int32.zero_and⟩
  | r + 1 => by
    rw [zrs]
    by_cases y : zgi G r = true ∧ zgl G r = n
    · rw [if_pos y, zand_or, Int32.or_eq_zero_iff, zrs_and r]
      refine ⟨fun h j hj h1 h2 => ?_, fun h => ⟨fun j hj h1 h2 => h j (by omega) h1 h2, h r (by omega) y.1 y.2⟩⟩
      by_cases z : j = r
      · rw [z]; exact h.2
      · exact h.1 j (by omega) h1 h2
    · rw [if_neg y, zrs_and r]
      refine ⟨fun h j hj h1 h2 => ?_, fun h j hj h1 h2 => h j (by omega) h1 h2⟩
      by_cases z : j = r
      · subst z; exact absurd ⟨h1, h2⟩ y
      · exact h j (by omega) h1 h2
theorem ztd_iff : ∀ r, ztd G S r = true ↔ ∀ a, a < r → ∀ b, b < a → zgi G a = true → zgi G b = true → zgl G a = zgl G b → S a &&& S b = 0
  | 0 => ⟨fun _ a ha => by omega, fun _ => rfl⟩
  | r + 1 => by
    rw [ztd, Bool.and_eq_true, ztd_iff r]
    constructor
    · intro h a ha b hb h1 h2 h3
      by_cases z : a = r
      · subst z
        have h4 := h.2
        rw [h1, Bool.not_true, Bool.false_or, decide_eq_true_eq, zrs_and] at h4
        rw [Int32.and_comm]
        exact h4 b hb h2 h3.symm
      · exact h.1 a (by omega) b hb h1 h2 h3
    · intro h
      refine ⟨fun a ha b hb h1 h2 h3 => h a (by omega) b hb h1 h2 h3, ?_⟩
      cases e : zgi G r with
      | false => rfl
      | true =>
        rw [Bool.not_true, Bool.false_or, decide_eq_true_eq, zrs_and]
        intro j hj h1 h2
        rw [Int32.and_comm]
        exact h r (by omega) j hj e h1 h2.symm
theorem ztd_no {r : Nat} (h : ztd G S (r + 1) = false) {R : Nat} (hR : r < R) : ztd G S R = false := by
  cases e : ztd G S R with
  | false => rfl
  | true =>
    rw [ztd_iff] at e
    have : ztd G S (r + 1) = true := (ztd_iff _).mpr (fun a ha => e a (by omega))
    rw [this] at h; cases h
end ZTd
section XTd
variable {P : YP} {G : ZGT} {u : SX} {s : SM}
theorem ZFX.w {G : ZGT} {u : SX} (h : ZFX G u) : ∀ n, n < 6 → u.2.1 16 n = zW0 G n := by
  obtain ⟨c1, c2, c3, c4⟩ := h.c
  have h5 := h.2.2.2.2.1
  have h2 := h.2.2.1
  rw [c3] at h5 h2
  exact zW0_eq h.1.1 h2 h5
set_option maxHeartbeats 1000000 in
theorem y_rulesAreSelected (h : ZFX G u) : EvQ (ZY P) mX4_rulesAreSelected [.ref 14] u (fun x v => x = some (.int (bI (ztd G (zS0 G) (zgR G)))) ∧ frX [] [19] u v) := by
  have hb := h.1.b
  obtain ⟨c1, c2, c3, c4⟩ := h.c
  have hW := h.w
  obtain ⟨S, hS⟩ : ∃ S, S = zS0 G := ⟨_, rfl⟩
  rw [← hS]
  refine EQ_V vX4_rulesAreSelected rfl ?_
  refine RQ_n (ZY_ok P) 3 rfl trivial ?_
  refine RQ_s vJ7_fill_53178 (y_fill u 19 6 0 (by omega) (by omega) (fun _ _ => rfl)) rfl k4_93 rfl rfl rfl rfl ?_
  obtain ⟨s1, hs1⟩ : ∃ w : SX, w = (u.1, setA u.2.1 19 (fil (u.2.1 19) 0 6 0), u.2.2) := ⟨_, rfl⟩
  rw [← hs1]
  have hf1 : frX [] [19] u s1 := by rw [hs1]; exact frX.s 19 (by decide)
  have h19 : ∀ n, n < 6 → s1.2.1 19 n = 0 := fun n hn => by
    rw [hs1]
    show fil (u.2.1 19) 0 6 0 n = 0
    exact fil_in (by omega) hn
  refine RQ_n (ZY_ok P) 2 rfl trivial ?_
  refine loopU (zgR G) (fun i (_ : Unit) => [some (.ref 14), some (.int (nI i)), none, none]) (fun i _ w => ztd G S i = true ∧ (∀ n, n < 6 → w.2.1 19 n = zrs G S i n) ∧ frX [] [19] u w) ?_ 0 () s1 (by omega) ⟨rfl, h19, hf1⟩
  intro i _ w hi hJ ih
  obtain ⟨g1, g2, g3⟩ := hJ
  have Gw := h.1.fr g3 rfl
  refine RQ_n (ZY_ok P) 4 rfl trivial ?_
  rw [Gw.R]
  refine RQ_b rfl (fun z => ?_) (fun z => ?_)
  · have z := (zq_le (a := zgR G) (b := i) rfl rfl (by omega) (by omega)).mp z
    have hie : i = zgR G := by omega
    refine RQ_n (ZY_ok P) 1 rfl trivial ?_
    refine RQ_to (Rn_zret rfl rfl (Or.inr rfl)) ⟨?_, g3⟩
    rw [hie] at g1
    rw [g1]; rfl
  have z := (not_congr (zq_le (a := zgR G) (b := i) rfl rfl (by omega) (by omega))).mp z
  have hl6 : zgl G i < 6 := by have := h.1.1.2.1 i (by omega); omega
  refine RQ_n (ZY_ok P) 3 rfl trivial ?_
  refine RQ_v vX5_isIn (y_isIn Gw (show i < zgR G by omega)) rfl k4_72 rfl rfl rfl (zyr (ci := 5) rfl rfl (by omega)) rfl ?_
  cases ein : zgi G i with
  | false =>
    refine RQ_b rfl (fun _ => ?_) (fun q => absurd rfl q)
    refine RQ_n (ZY_ok P) 2 rfl trivial ?_
    refine ih (by omega) () _ _ ⟨rfl, nIs i, trivial⟩ ⟨by rw [ztd, g1, ein]; rfl, fun n hn => ?_, g3⟩
    rw [zrs, if_neg (fun q => by rw [ein] at q; cases q.1)]; exact g2 n hn
  | true =>
    refine RQ_b rfl (fun q => absurd (show (1 : Int32) = 0 from q) (by decide)) (fun _ => ?_)
    refine RQ_n (ZY_ok P) 4 rfl trivial ?_
    refine RQ_n (ZY_ok P) 1 rfl ⟨nI_in (by omega) (by omega), trivial⟩ ?_
    rw [nI_clamp (show i < 2 ^ 31 by omega), Gw.l (show i < zgR G by omega)]
    have hin : vp_in (nI (zgl G i)) 6 := nI_in (by omega) (by omega)
    have hic : (nI (zgl G i)).toNatClampNeg = zgl G i := nI_clamp (by omega)
    refine RQ_n (ZY_ok P) 7 rfl trivial ?_
    refine RQ_n (ZY_ok P) 1 rfl ⟨hin, trivial⟩ ?_
    rw [hic, g3.2.1 16 (by decide), hW _ hl6]
    have Rw : RSX G w := by
      have := h.2.2.2.1
      unfold RSX at this ⊢
      rw [g3.1 14 1 (by decide), g3.2.1 15 (by decide), g3.2.1 18 (by decide)]
      exact this
    have hlb := y_looksBehind (P := P) Gw Rw (by rw [g3.2.1 15 (by decide)]; exact h.f5) (r := i) (i := 0) (by omega) (by omega) (zW0 G (zgl G i))
    rw [g3.1 14 1 (by decide), g3.2.1 15 (by decide), c3, zLB_F h.1.1 (show i ≤ zgR G by omega) c4, show zLB G (zE0 G) (zF0 G) i 0 (zW0 G (zgl G i)) = S i by rw [hS]; rfl] at hlb
    refine RQ_v vX4_looksBehind hlb rfl k4_116 rfl rfl rfl (zyr (ci := 4) rfl rfl (by omega)) rfl ?_
    refine RQ_n (ZY_ok P) 4 rfl trivial ?_
    refine RQ_n (ZY_ok P) 1 rfl ⟨hin, trivial⟩ ?_
    rw [hic, g2 _ hl6]
    refine RQ_n (ZY_ok P) 2 rfl trivial ?_
    by_cases y : zrs G S i (zgl G i) &&& S i = 0
    · refine RQ_b rfl (fun _ => ?_) (fun q => absurd y q)
      refine RQ_n (ZY_ok P) 4 rfl trivial ?_
      refine RQ_n (ZY_ok P) 1 rfl ⟨hin, trivial⟩ ?_
      rw [hic, g2 _ hl6]
      refine RQ_n (ZY_ok P) 2 rfl trivial ?_
      refine RQ_n (ZY_ok P) 1 rfl ⟨hin, trivial⟩ ?_
      rw [hic]
      obtain ⟨w2, hw2⟩ : ∃ x : SX, x = (w.1, updA w.2.1 19 (zgl G i) (zrs G S i (zgl G i) ||| S i), w.2.2) := ⟨_, rfl⟩
      rw [← hw2]
      have f2 : frX [] [19] w w2 := by rw [hw2]; exact frX.a 19 (by decide)
      have h19' : w2.2.1 19 = upd (w.2.1 19) (zgl G i) (zrs G S i (zgl G i) ||| S i) := by rw [hw2]; rfl
      refine RQ_n (ZY_ok P) 2 rfl trivial ?_
      refine ih (by omega) () _ _ ⟨rfl, nIs i, trivial⟩ ⟨by rw [ztd, g1, ein, decide_eq_true y]; rfl, fun n hn => ?_, g3.tr f2⟩
      rw [h19', zrs]
      by_cases q : n = zgl G i
      · rw [q, upd_at, if_pos ⟨ein, rfl⟩]
      · rw [upd_ne q, if_neg (fun r => q r.2.symm)]; exact g2 n hn
    · refine RQ_b rfl (fun q => absurd q y) (fun _ => ?_)
      refine RQ_n (ZY_ok P) 1 rfl trivial ?_
      refine RQ_to (Rn_zret rfl rfl (Or.inl rfl)) ⟨?_, g3⟩
      rw [ztd_no (r := i) (by rw [ztd, g1, ein, decide_eq_false y]; rfl) (by omega)]; rfl
end XTd
