/-! Reading all, as a value; two readings that are alike go alike. -/
section ZRun
variable {G : ZGT} {N : ZNM} {p : Int32} {X Y : ZRS} {md t : Nat}
theorem ZRW.ao (hG : GW G) (hF : ZNF G N) (hW : ZRW N X) (ht : t ≤ zgT G ∨ t = 99) : ZRW N (zao G N p md t X).2 ∧ (3 ≤ (zao G N p md t X).1 → (zao G N p md t X).2.1 1 = X.1 1 + 1) := by
  have hN := hF.1.2
  rcases zao_cases (p := p) (md := md) hG hF hW ht rfl with ⟨-, e⟩ | ⟨-, -, e⟩ | ⟨h3, -, e⟩ | ⟨s, b, h3, c2, c3, c4, -, e⟩ | ⟨r, h3, c2, c3, c4, e⟩
  · rw [e]; exact ⟨hW, fun y => absurd y (show ¬ (3 : Nat) ≤ 0 by decide)⟩
  · rw [e]; exact ⟨hW, fun y => absurd y (show ¬ (3 : Nat) ≤ 2 by decide)⟩
  · rw [e]; exact ⟨(hW.st h3).1, fun y => absurd y (show ¬ (3 : Nat) ≤ 1 by decide)⟩
  · rw [e]
    have hd := hW.1.2
    by_cases y : X.1 0 = 100
    · rw [if_pos y]; exact ⟨(hW.st h3).1, fun y => absurd y (show ¬ (3 : Nat) ≤ 2 by decide)⟩
    · rw [if_neg y]
      exact ⟨(hW.st h3).1.ph (show X.1 0 < 100 by omega) hN c2 c3 c4, fun _ => rfl⟩
  · obtain ⟨s1, s2⟩ := hW.st h3
    obtain ⟨-, q2, g, q3, q4⟩ := zLR hG hF hW c2 c3
    have hl := hG.2.1 r c2
    have hN6 := hG.1.2.2.2.1
    obtain ⟨g', b', z1, z2, z3, z4⟩ := zgoo_ok (p := p) (md := md) (t := t) hG hF q2 (show zgl G r < 6 by omega) q4
    have hpo : ZRW N (zpo G (updN X.1 1 (X.1 1 + 1), X.2) r) := s1.po c4 (show X.1 3 < X.1 1 + 1 from s2)
    rw [e]
    unfold zre
    by_cases y : X.1 0 - zgn G r = 100
    · have y' : ((updN X.1 1 (X.1 1 + 1), X.2) : ZRS).1 0 - zgn G r = 100 := y
      rw [if_pos y']; exact ⟨hpo, fun y => absurd y (show ¬ (3 : Nat) ≤ 2 by decide)⟩
    · have y' : ¬ ((updN X.1 1 (X.1 1 + 1), X.2) : ZRS).1 0 - zgn G r = 100 := y
      have hd := hW.1.2
      rw [if_neg y', show zgoo G N p md t (zrw (updN X.1 1 (X.1 1 + 1), X.2) (((updN X.1 1 (X.1 1 + 1), X.2) : ZRS).1 0 - zgn G r - 1)) (zgl G r) = some g' from z1]
      exact ⟨hpo.ph (show X.1 0 - zgn G r < 100 by omega) hN z2 z3 z4, fun _ => rfl⟩
theorem zps_cg {a b : Nat → Int32} {d : Nat} : ∀ c, (∀ i, d - c ≤ i → i < d → a i = b i) → c ≤ d → zps a d c = zps b d c
  | 0, _, _ => rfl
  | c + 1, h, hc => by rw [zps, zps, zps_cg c (fun i h1 h2 => h i (by omega) h2) (by omega), h _ (by omega) (by omega)]
theorem zpm_cg {a b : Nat → Int32} {d : Nat} : ∀ c, (∀ i, d - c ≤ i → i < d → a i = b i) → c ≤ d → zpm a d c = zpm b d c
  | 0, _, _ => rfl
  | c + 1, h, hc => by rw [zpm, zpm, zpm_cg c (fun i h1 h2 => h i (by omega) h2) (by omega), h _ (by omega) (by omega)]
theorem zps_s (a : Nat → Int32) (d : Nat) : ∀ c, zps a (d + 1) (c + 1) = a d + zps a d c
  | 0 => by rw [zps, zps, zps, Int32.zero_add, Int32.add_zero, show d + 1 - (0 + 1) = d by omega]
  | c + 1 => by rw [zps, zps_s a d c, zps, Int32.add_assoc, show d + 1 - (c + 1 + 1) = d - (c + 1) by omega]
theorem zps_add (a : Nat → Int32) (d c : Nat) : ∀ k, zps a d (c + k) = zps a d c + zps a (d - c) k
  | 0 => by rw [zps, Int32.add_zero]; rfl
  | k + 1 => by rw [show c + (k + 1) = (c + k) + 1 from rfl, zps, zps_add a d c k, zps, Int32.add_assoc, Nat.sub_sub, Nat.add_assoc]
/-- the class's reading and the reference's are alike -/
def EqA (X Y : ZRS) : Prop := (∀ c, c < 4 → X.1 c = Y.1 c) ∧ (∀ i, i < X.1 0 → X.2 0 i = Y.2 0 i) ∧ (∀ i, 1 ≤ i → i < X.1 0 → X.2 1 i = Y.2 1 i ∧ X.2 3 i = Y.2 3 i) ∧ ∀ i, i < X.1 3 → X.2 4 i = Y.2 4 i ∧ X.2 5 i = Y.2 5 i ∧ X.2 6 i = Y.2 7 i ∧ X.2 8 i = Y.2 8 i
/-- where what stands in the row began -/
def SRI (Y : ZRS) : Prop := ∀ i, 1 ≤ i → i < Y.1 0 → Y.2 2 i = nI (Y.1 2) - zps (Y.2 1) (Y.1 0) (Y.1 0 - i)
theorem zsbb {a b c : Int32} : a - (b + c) = a - c - b := by
  simp only [Int32.sub_eq_add_neg, Int32.neg_add]
  rw [Int32.add_assoc a (-c) (-b), Int32.add_comm (-b)]
theorem EqA.po (h : EqA X Y) (hS : SRI Y) {r : Nat} (hc : zgn G r < X.1 0) : EqA (zpo G X r) (zpo G Y r) ∧ zps (X.2 1) (X.1 0) (zgn G r) = zps (Y.2 1) (Y.1 0) (zgn G r) ∧ zpm (X.2 3) (X.1 0) (zgn G r) = zpm (Y.2 3) (Y.1 0) (zgn G r) ∧ zpf (Y.2 2) (Y.1 0) (nI (Y.1 2)) (zgn G r) = nI (Y.1 2) - zps (Y.2 1) (Y.1 0) (zgn G r) := by
  obtain ⟨e1, e2, e3, e4⟩ := h
  have d0 := e1 0 (by omega)
  have d2 := e1 2 (by omega)
  have d3 := e1 3 (by omega)
  have hsz : zps (X.2 1) (X.1 0) (zgn G r) = zps (Y.2 1) (Y.1 0) (zgn G r) := by rw [← d0]; exact zps_cg _ (fun i h1 h2 => (e3 i (by omega) h2).1) (by omega)
  have hhh : zpm (X.2 3) (X.1 0) (zgn G r) = zpm (Y.2 3) (Y.1 0) (zgn G r) := by rw [← d0]; exact zpm_cg _ (fun i h1 h2 => (e3 i (by omega) h2).2) (by omega)
  have hfr : zpf (Y.2 2) (Y.1 0) (nI (Y.1 2)) (zgn G r) = nI (Y.1 2) - zps (Y.2 1) (Y.1 0) (zgn G r) := by
    cases hn : zgn G r with
    | zero => show nI (Y.1 2) = nI (Y.1 2) - 0; rw [Int32.sub_zero]
    | succ c =>
      show Y.2 2 (Y.1 0 - (c + 1)) = _
      rw [hS _ (by omega) (by omega), show Y.1 0 - (Y.1 0 - (c + 1)) = c + 1 by omega]
  refine ⟨⟨fun c hcc => ?_, fun i hi => ?_, fun i h1 hi => ?_, fun i hi => ?_⟩, hsz, hhh, hfr⟩
  · show updN (updN X.1 0 (X.1 0 - zgn G r)) 3 (X.1 3 + 1) c = updN (updN Y.1 0 (Y.1 0 - zgn G r)) 3 (Y.1 3 + 1) c
    by_cases y : c = 3
    · rw [y, updN_at, updN_at, d3]
    · rw [updN_ne y, updN_ne y]
      by_cases z : c = 0
      · rw [z, updN_at, updN_at, d0]
      · rw [updN_ne z, updN_ne z]; exact e1 c hcc
  · have hi : i < X.1 0 - zgn G r := hi
    exact e2 i (by omega)
  · have hi : i < X.1 0 - zgn G r := hi
    exact e3 i h1 (by omega)
  · have hi : i < X.1 3 + 1 := hi
    show upd (X.2 4) (X.1 3) (nI r) i = upd (Y.2 4) (Y.1 3) (nI r) i ∧ upd (X.2 5) (X.1 3) (zps (X.2 1) (X.1 0) (zgn G r)) i = upd (Y.2 5) (Y.1 3) (zps (Y.2 1) (Y.1 0) (zgn G r)) i ∧ upd (X.2 6) (X.1 3) (nI (X.1 2) - zps (X.2 1) (X.1 0) (zgn G r)) i = upd (Y.2 7) (Y.1 3) (zpf (Y.2 2) (Y.1 0) (nI (Y.1 2)) (zgn G r)) i ∧ upd (X.2 8) (X.1 3) (zpm (X.2 3) (X.1 0) (zgn G r) + 1) i = upd (Y.2 8) (Y.1 3) (zpm (Y.2 3) (Y.1 0) (zgn G r) + 1) i
    rw [← d3, hfr, hsz, hhh, d2]
    by_cases y : i = X.1 3
    · rw [y, upd_at, upd_at, upd_at, upd_at, upd_at, upd_at, upd_at, upd_at]; exact ⟨rfl, rfl, rfl, rfl⟩
    · rw [upd_ne y, upd_ne y, upd_ne y, upd_ne y, upd_ne y, upd_ne y, upd_ne y, upd_ne y]; exact e4 i (by omega)
theorem EqA.ph (h : EqA X Y) (s : Nat) (b f f' g : Int32) : EqA (zph X s b f g) (zph Y s b f' g) := by
  obtain ⟨e1, e2, e3, e4⟩ := h
  have d0 := e1 0 (by omega)
  refine ⟨fun c hc => ?_, fun i hi => ?_, fun i h1 hi => ?_, e4⟩
  · show updN X.1 0 (X.1 0 + 1) c = updN Y.1 0 (Y.1 0 + 1) c
    by_cases z : c = 0
    · rw [z, updN_at, updN_at, d0]
    · rw [updN_ne z, updN_ne z]; exact e1 c hc
  · have hi : i < X.1 0 + 1 := hi
    show upd (X.2 0) (X.1 0) (nI s) i = upd (Y.2 0) (Y.1 0) (nI s) i
    rw [← d0]
    by_cases y : i = X.1 0
    · rw [y, upd_at, upd_at]
    · rw [upd_ne y, upd_ne y]; exact e2 i (by omega)
  · have hi : i < X.1 0 + 1 := hi
    show upd (X.2 1) (X.1 0) b i = upd (Y.2 1) (Y.1 0) b i ∧ upd (X.2 3) (X.1 0) g i = upd (Y.2 3) (Y.1 0) g i
    rw [← d0]
    by_cases y : i = X.1 0
    · rw [y, upd_at, upd_at, upd_at, upd_at]; exact ⟨rfl, rfl⟩
    · rw [upd_ne y, upd_ne y, upd_ne y, upd_ne y]; exact e3 i h1 (by omega)
theorem EqA.st (h : EqA X Y) : EqA (updN X.1 1 (X.1 1 + 1), X.2) (updN Y.1 1 (Y.1 1 + 1), Y.2) := by
  obtain ⟨e1, e2, e3, e4⟩ := h
  refine ⟨fun c hc => ?_, e2, e3, e4⟩
  show updN X.1 1 (X.1 1 + 1) c = updN Y.1 1 (Y.1 1 + 1) c
  by_cases z : c = 1
  · rw [z, updN_at, updN_at, e1 1 (by omega)]
  · rw [updN_ne z, updN_ne z]; exact e1 c hc
theorem EqA.r1 {e : Nat} (h : EqA X Y) : EqA (zr1 (e, X)).2 (zr1 (e, Y)).2 := by
  unfold zr1
  by_cases y : e = 4
  · subst y
    rw [if_pos rfl, if_pos rfl]
    obtain ⟨e1, e2, e3, e4⟩ := h
    refine ⟨fun c hc => ?_, e2, e3, e4⟩
    show updN X.1 2 (X.1 2 + 1) c = updN Y.1 2 (Y.1 2 + 1) c
    by_cases z : c = 2
    · rw [z, updN_at, updN_at, e1 2 (by omega)]
    · rw [updN_ne z, updN_ne z]; exact e1 c hc
  · have y' : ¬ ((e, X) : Nat × ZRS).1 = 4 := y
    have y'' : ¬ ((e, Y) : Nat × ZRS).1 = 4 := y
    rw [if_neg y', if_neg y'']; exact h
theorem zrw_eq (h : EqA X Y) {i : Nat} (hi : i < X.1 0) : zrw X i = zrw Y i := by unfold zrw; rw [h.2.1 i hi]
theorem zr1_1 (Z : Nat × ZRS) : (zr1 Z).1 = Z.1 := by unfold zr1; split <;> simp_all
/-- one action on both -/
theorem EqA.ao (hG : GW G) (hF : ZNF G N) (hW : ZRW N X) (hW2 : ZRW N Y) (ht : t ≤ zgT G ∨ t = 99) (h : EqA X Y) (hS : SRI Y) : (zao G N p md t X).1 = (zao G N p md t Y).1 ∧ EqA (zr1 (zao G N p md t X)).2 (zr1 (zao G N p md t Y)).2 ∧ (3 ≤ (zao G N p md t Y).1 → SRI (zr1 (zao G N p md t Y)).2) := by
  have d0 := h.1 0 (by omega)
  have d1 := h.1 1 (by omega)
  have d2 := h.1 2 (by omega)
  have hd := hW.1
  have hk : zrw X (X.1 0 - 1) = zrw Y (Y.1 0 - 1) := by rw [← d0]; exact zrw_eq h (by omega)
  obtain ⟨a, ha⟩ : ∃ a, a = ztl G (zcl G (zE0 G) (zF0 G) (N.2.1 (zrw Y (Y.1 0 - 1)))) (N.2.2 (zrw Y (Y.1 0 - 1))) p t (decide (md = 1)) := ⟨_, rfl⟩
  have ha2 : a = ztl G (zcl G (zE0 G) (zF0 G) (N.2.1 (zrw X (X.1 0 - 1)))) (N.2.2 (zrw X (X.1 0 - 1))) p t (decide (md = 1)) := by rw [hk]; exact ha
  unfold zao
  dsimp only
  rw [← ha, ← ha2, ← d1]
  by_cases y : a = -1
  · rw [if_pos y, if_pos y]; exact ⟨rfl, h.r1, fun q => absurd q (show ¬ (3 : Nat) ≤ 0 by decide)⟩
  rw [if_neg y, if_neg y]
  by_cases z : X.1 1 = 300
  · rw [if_pos z, if_pos z]; exact ⟨rfl, h.r1, fun q => absurd q (show ¬ (3 : Nat) ≤ 2 by decide)⟩
  rw [if_neg z, if_neg z]
  have hst := h.st
  rw [← d1] at hst
  by_cases w : a = 999
  · rw [if_pos w, if_pos w]; exact ⟨rfl, hst.r1, fun q => absurd q (show ¬ (3 : Nat) ≤ 1 by decide)⟩
  rw [if_neg w, if_neg w]
  cases hz : zix a (zgR G) with
  | none =>
    dsimp only
    rw [← d0]
    by_cases q : X.1 0 = 100
    · rw [if_pos q, if_pos q]; exact ⟨rfl, hst.r1, fun q => absurd q (show ¬ (3 : Nat) ≤ 2 by decide)⟩
    rw [if_neg q, if_neg q]
    refine ⟨rfl, (hst.ph _ _ _ _ _).r1, fun _ => ?_⟩
    show SRI (updN (updN (updN Y.1 1 (X.1 1 + 1)) 0 (Y.1 0 + 1)) 2 (Y.1 2 + 1), updA (updA (updA (updA Y.2 0 (Y.1 0) (nI (a - 1000).toNatClampNeg)) 1 (Y.1 0) 1) 2 (Y.1 0) (nI (Y.1 2))) 3 (Y.1 0) 0)
    intro i h1 hi
    have hi : i < Y.1 0 + 1 := hi
    show upd (Y.2 2) (Y.1 0) (nI (Y.1 2)) i = nI (Y.1 2 + 1) - zps (upd (Y.2 1) (Y.1 0) 1) (Y.1 0 + 1) (Y.1 0 + 1 - i)
    rw [show Y.1 0 + 1 - i = (Y.1 0 - i) + 1 by omega, zps_s, upd_at]
    have ecg : zps (upd (Y.2 1) (Y.1 0) 1) (Y.1 0) (Y.1 0 - i) = zps (Y.2 1) (Y.1 0) (Y.1 0 - i) := zps_cg _ (fun j _ hj => upd_ne (by omega)) (by omega)
    rw [ecg, zsbb]
    have e1 : ∀ S : Int32, nI (Y.1 2 + 1) - S - 1 = nI (Y.1 2) - S := fun S => by
      rw [← nI_add, show nI 1 = (1 : Int32) from rfl, Int32.sub_eq_add_neg, Int32.sub_eq_add_neg, Int32.sub_eq_add_neg, Int32.add_assoc, Int32.add_assoc, Int32.add_comm (-S), ← Int32.add_assoc 1, show (1 : Int32) + -1 = 0 by decide, Int32.zero_add]
    rw [e1]
    by_cases x : i = Y.1 0
    · rw [x, upd_at, Nat.sub_self]
      show nI (Y.1 2) = nI (Y.1 2) - 0
      rw [Int32.sub_zero]
    · rw [upd_ne x]; exact hS i h1 (by omega)
  | some r =>
    dsimp only
    obtain ⟨r1, r2⟩ := zix_s hz
    obtain ⟨l1, -, -⟩ := zLR hG hF hW r1 (ha2.symm.trans r2)
    obtain ⟨p1, p2, p3, p4⟩ := EqA.po (G := G) (r := r) hst (fun i h1 hi => hS i h1 hi) l1
    unfold zre
    have c0 : ((updN Y.1 1 (X.1 1 + 1), Y.2) : ZRS).1 0 = Y.1 0 := rfl
    have c1 : ((updN X.1 1 (X.1 1 + 1), X.2) : ZRS).1 0 = X.1 0 := rfl
    rw [c0, c1, ← d0]
    by_cases q : X.1 0 - zgn G r = 100
    · rw [if_pos q, if_pos q]; exact ⟨rfl, p1.r1, fun q => absurd q (show ¬ (3 : Nat) ≤ 2 by decide)⟩
    rw [if_neg q, if_neg q]
    have hk2 : zrw (updN X.1 1 (X.1 1 + 1), X.2) (X.1 0 - zgn G r - 1) = zrw (updN Y.1 1 (X.1 1 + 1), Y.2) (X.1 0 - zgn G r - 1) := zrw_eq h (by omega)
    rw [hk2]
    cases hg : zgoo G N p md t (zrw (updN Y.1 1 (X.1 1 + 1), Y.2) (X.1 0 - zgn G r - 1)) (zgl G r) with
    | none => exact ⟨rfl, p1.r1, fun q => absurd q (show ¬ (3 : Nat) ≤ 2 by decide)⟩
    | some g =>
      dsimp only
      rw [c0] at p2 p3 p4
      rw [c1] at p2 p3
      rw [← d0] at p2 p3
      refine ⟨rfl, ?_, fun _ => ?_⟩
      · have := (p1.ph g (zps (X.2 1) (X.1 0) (zgn G r)) (zpf (X.2 2) (X.1 0) (nI (X.1 2)) (zgn G r)) (zpf (Y.2 2) (X.1 0) (nI (Y.1 2)) (zgn G r)) (zpm (X.2 3) (X.1 0) (zgn G r) + 1)).r1 (e := 3)
        rw [show zr1 ((3, zph (zpo G (updN Y.1 1 (X.1 1 + 1), Y.2) r) g (zps (X.2 1) (X.1 0) (zgn G r)) (zpf (Y.2 2) (X.1 0) (nI (Y.1 2)) (zgn G r)) (zpm (X.2 3) (X.1 0) (zgn G r) + 1)) : Nat × ZRS) = zr1 ((3, zph (zpo G (updN Y.1 1 (X.1 1 + 1), Y.2) r) g (zps (Y.2 1) (X.1 0) (zgn G r)) (zpf (Y.2 2) (X.1 0) (nI (Y.1 2)) (zgn G r)) (zpm (Y.2 3) (X.1 0) (zgn G r) + 1)) : Nat × ZRS) by rw [p2, p3]] at this
        exact this
      · have e3 : zr1 ((3, zph (zpo G (updN Y.1 1 (X.1 1 + 1), Y.2) r) g (zps (Y.2 1) (X.1 0) (zgn G r)) (zpf (Y.2 2) (X.1 0) (nI (Y.1 2)) (zgn G r)) (zpm (Y.2 3) (X.1 0) (zgn G r) + 1)) : Nat × ZRS) = ((3, zph (zpo G (updN Y.1 1 (X.1 1 + 1), Y.2) r) g (zps (Y.2 1) (X.1 0) (zgn G r)) (zpf (Y.2 2) (X.1 0) (nI (Y.1 2)) (zgn G r)) (zpm (Y.2 3) (X.1 0) (zgn G r) + 1)) : Nat × ZRS) := rfl
        rw [show updN Y.1 1 (X.1 1 + 1) 2 = Y.1 2 from rfl, e3]
        intro i h1 hi
        have hi : i < Y.1 0 - zgn G r + 1 := hi
        show upd (Y.2 2) (Y.1 0 - zgn G r) (zpf (Y.2 2) (X.1 0) (nI (Y.1 2)) (zgn G r)) i = nI (Y.1 2) - zps (upd (Y.2 1) (Y.1 0 - zgn G r) (zps (Y.2 1) (X.1 0) (zgn G r))) (Y.1 0 - zgn G r + 1) (Y.1 0 - zgn G r + 1 - i)
        rw [show Y.1 0 - zgn G r + 1 - i = (Y.1 0 - zgn G r - i) + 1 by omega, zps_s, upd_at]
        have ecg : zps (upd (Y.2 1) (Y.1 0 - zgn G r) (zps (Y.2 1) (X.1 0) (zgn G r))) (Y.1 0 - zgn G r) (Y.1 0 - zgn G r - i) = zps (Y.2 1) (Y.1 0 - zgn G r) (Y.1 0 - zgn G r - i) := zps_cg _ (fun j _ hj => upd_ne (by omega)) (by omega)
        rw [ecg, d0, ← zps_add, show zgn G r + (Y.1 0 - zgn G r - i) = Y.1 0 - i by omega]
        by_cases x : i = Y.1 0 - zgn G r
        · rw [x, upd_at, show Y.1 0 - (Y.1 0 - zgn G r) = zgn G r by omega]
          exact p4
        · rw [upd_ne x]; exact hS i h1 (by omega)
end ZRun
