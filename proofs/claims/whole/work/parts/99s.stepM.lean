/-! The reference: push, reduceBy, actOnce. -/
def RRd (X : ZRS) (v : SM) : Prop := (v.1 62 = nI (X.1 0) ∧ v.1 63 = nI (X.1 1) ∧ v.1 64 = nI (X.1 2) ∧ v.1 65 = nI (X.1 3)) ∧ v.2.1 58 = X.2 0 ∧ v.2.1 59 = X.2 1 ∧ v.2.1 60 = X.2 2 ∧ v.2.1 61 = X.2 3 ∧ v.2.1 66 = X.2 4 ∧ v.2.1 67 = X.2 5 ∧ v.2.1 68 = X.2 7 ∧ v.2.1 69 = X.2 8
section MRe
variable {G : ZGT} {N : ZNM} {p : Int32} {X : ZRS} {u : SM} {md t r kd : Nat}
theorem m_push (h : RRd X u) (hd : X.1 0 ≤ 100) (s : Nat) (b f g : Int32) : EvQ ZR mX12_push [.ref 0, .int (nI s), .int b, .int f, .int g] u (fun x v => x = some (.int (bI (decide (X.1 0 ≠ 100)))) ∧ RRd (if X.1 0 = 100 then X else zph X s b f g) v ∧ frM [62] [58, 59, 60, 61] u v) := by
  obtain ⟨⟨i1, i2, i3, i4⟩, a0, a1, a2, a3, a4, a5, a7, a8⟩ := id h
  refine EQ_V vX12_push rfl ?_
  refine RQ_n ZR_ok 3 rfl trivial ?_
  rw [i1]
  by_cases y : X.1 0 = 100
  · rw [if_pos y, decide_eq_false (fun q => q y)]
    refine RQ_b rfl (fun q => absurd ((zq_eq (a := X.1 0) (b := 100) rfl rfl (by omega) (by omega)).mpr y) q) (fun _ => ?_)
    refine RQ_n ZR_ok 1 rfl trivial ?_
    exact RQ_to (Rn_zret rfl rfl (Or.inl rfl)) ⟨rfl, h, frM.rf⟩
  rw [if_neg y, decide_eq_true y]
  refine RQ_b rfl (fun _ => ?_) (fun q => absurd ((zq_eq (a := X.1 0) (b := 100) rfl rfl (by omega) (by omega)).mp (Classical.not_not.mp q)) y)
  have hin : vp_in (nI (X.1 0)) 101 := nI_in (by omega) (by omega)
  have hic : (nI (X.1 0)).toNatClampNeg = X.1 0 := nI_clamp (by omega)
  refine RQ_n ZR_ok 5 rfl trivial ?_
  rw [i1]
  refine RQ_n ZR_ok 1 rfl ⟨hin, trivial⟩ ?_
  rw [hic]
  obtain ⟨v1, hv1⟩ : ∃ w : SM, w = (u.1, updA u.2.1 58 (X.1 0) (nI s), u.2.2) := ⟨_, rfl⟩
  rw [← hv1]
  refine RQ_n ZR_ok 5 rfl trivial ?_
  rw [show v1.1 62 = nI (X.1 0) by rw [hv1]; exact i1]
  refine RQ_n ZR_ok 1 rfl ⟨hin, trivial⟩ ?_
  rw [hic]
  obtain ⟨v2, hv2⟩ : ∃ w : SM, w = (v1.1, updA v1.2.1 59 (X.1 0) b, v1.2.2) := ⟨_, rfl⟩
  rw [← hv2]
  refine RQ_n ZR_ok 5 rfl trivial ?_
  rw [show v2.1 62 = nI (X.1 0) by rw [hv2, hv1]; exact i1]
  refine RQ_n ZR_ok 1 rfl ⟨hin, trivial⟩ ?_
  rw [hic]
  obtain ⟨v3, hv3⟩ : ∃ w : SM, w = (v2.1, updA v2.2.1 60 (X.1 0) f, v2.2.2) := ⟨_, rfl⟩
  rw [← hv3]
  refine RQ_n ZR_ok 5 rfl trivial ?_
  rw [show v3.1 62 = nI (X.1 0) by rw [hv3, hv2, hv1]; exact i1]
  refine RQ_n ZR_ok 1 rfl ⟨hin, trivial⟩ ?_
  rw [hic]
  obtain ⟨v4, hv4⟩ : ∃ w : SM, w = (v3.1, updA v3.2.1 61 (X.1 0) g, v3.2.2) := ⟨_, rfl⟩
  rw [← hv4]
  have f4 : frM [62] [58, 59, 60, 61] u v4 := by
    rw [hv4]; refine (frM.tr ?_ (frM.a 61 (by decide)))
    rw [hv3]; refine (frM.tr ?_ (frM.a 60 (by decide)))
    rw [hv2]; refine (frM.tr ?_ (frM.a 59 (by decide)))
    rw [hv1]; exact frM.a 58 (by decide)
  have b58 : v4.2.1 58 = upd (X.2 0) (X.1 0) (nI s) := by rw [hv4, hv3, hv2, hv1, ← a0]; rfl
  have b59 : v4.2.1 59 = upd (X.2 1) (X.1 0) b := by rw [hv4, hv3, hv2, hv1, ← a1]; rfl
  have b60 : v4.2.1 60 = upd (X.2 2) (X.1 0) f := by rw [hv4, hv3, hv2, hv1, ← a2]; rfl
  have b61 : v4.2.1 61 = upd (X.2 3) (X.1 0) g := by rw [hv4, hv3, hv2, hv1, ← a3]; rfl
  refine RQ_n ZR_ok 6 rfl trivial ?_
  rw [show v4.1 62 = nI (X.1 0) by rw [hv4, hv3, hv2, hv1]; exact i1, show nI (X.1 0) + 1 = nI (X.1 0 + 1) from nI_add _ 1]
  obtain ⟨v5, hv5⟩ : ∃ w : SM, w = (updS v4.1 62 (nI (X.1 0 + 1)), v4.2) := ⟨_, rfl⟩
  show RnQ ZR mX12_push (_, _, _, ((updS v4.1 62 (nI (X.1 0 + 1)), v4.2) : SM)) _
  rw [← hv5]
  have f5 : frM [62] [] v4 v5 := by rw [hv5]; exact frM.i 62 (by decide)
  have F := f4.tr (f5.up (by decide) (by decide))
  refine RQ_n ZR_ok 1 rfl trivial ?_
  refine RQ_to (Rn_zret rfl rfl (Or.inr rfl)) ⟨rfl, ⟨⟨?_, ?_, ?_, ?_⟩, ?_, ?_, ?_, ?_, ?_, ?_, ?_, ?_⟩, F⟩
  · rw [hv5]; rfl
  · exact (F.1 63 (by decide)).trans i2
  · exact (F.1 64 (by decide)).trans i3
  · exact (F.1 65 (by decide)).trans i4
  · exact (f5.2.1 58 (by decide)).trans b58
  · exact (f5.2.1 59 (by decide)).trans b59
  · exact (f5.2.1 60 (by decide)).trans b60
  · exact (f5.2.1 61 (by decide)).trans b61
  · exact (F.2.1 66 (by decide)).trans a4
  · exact (F.2.1 67 (by decide)).trans a5
  · exact (F.2.1 68 (by decide)).trans a7
  · exact (F.2.1 69 (by decide)).trans a8
set_option maxHeartbeats 1000000 in
theorem m_reduceBy (hG : ZGM G u) (hF : ZNF G N) (hk3 : kd < 3) (hA : RAu G (zE0 G) (zF0 G) kd p N u) (hmd3 : md < 3) (h : RRd X u) (hW : ZRW N X) (ht : t ≤ zgT G ∨ t = 99) (hr : r < zgR G) (hc : zgn G r < X.1 0) (hd3 : X.1 3 < 300) (hgo : ∃ g, zgoo G N p md t (zrw X (X.1 0 - zgn G r - 1)) (zgl G r) = some g) :
    EvQ ZR mX12_reduceBy [.ref 0, .int (nI kd), .int (nI md), .int (nI r), .int (nI t)] u (fun x v => x = some (.int (nI (zre G N p md t r X).1)) ∧ RRd (zre G N p md t r X).2 v ∧ frM [62, 65] [58, 59, 60, 61, 66, 67, 68, 69] u v) := by
  have hb := hG.b
  have hN := hF.1.2
  have h5 := (hG.1.2.2.1 r (by omega)).1
  have hl := hG.1.2.1 r hr
  obtain ⟨⟨wd1, wd2⟩, -, w1, -⟩ := hW
  obtain ⟨⟨i1, i2, i3, i4⟩, a0, a1, a2, a3, a4, a5, a7, a8⟩ := id h
  refine EQ_V vX12_reduceBy rfl ?_
  refine RQ_n ZR_ok 9 rfl trivial ?_
  rw [i3]
  refine loopU (zgn G r) (fun c (_ : Unit) => [some (.ref 0), some (.int (nI kd)), some (.int (nI md)), some (.int (nI r)), some (.int (nI t)), some (.int (zps (X.2 1) (X.1 0) c)), some (.int (zpm (X.2 3) (X.1 0) c)), some (.int (zpf (X.2 2) (X.1 0) (nI (X.1 2)) c)), some (.int (nI c)), none]) (fun c _ w => w.1 62 = nI (X.1 0 - c) ∧ frM [62] [] u w) ?_ 0 () u (by omega) ⟨i1, frM.rf⟩
  intro c _ w hcn hJ ih
  obtain ⟨g1, g2⟩ := hJ
  have Gw : ZGM G w := hG.fr g2 rfl
  have w59 : w.2.1 59 = X.2 1 := (g2.2.1 59 (by decide)).trans a1
  have w60 : w.2.1 60 = X.2 2 := (g2.2.1 60 (by decide)).trans a2
  have w61 : w.2.1 61 = X.2 3 := (g2.2.1 61 (by decide)).trans a3
  refine RQ_n ZR_ok 4 rfl trivial ?_
  refine RQ_n ZR_ok 1 rfl ⟨nI_in (by omega) (by omega), trivial⟩ ?_
  rw [nI_clamp (show r < 2 ^ 31 by omega), Gw.n (by omega)]
  refine RQ_b rfl (fun z => ?_) (fun z => ?_)
  rotate_left
  · have z := (not_congr (zq_le (a := zgn G r) (b := c) rfl rfl (by omega) (by omega))).mp z
    refine RQ_n ZR_ok 6 rfl trivial ?_
    rw [g1, show nI (X.1 0 - c) - 1 = nI (X.1 0 - (c + 1)) by rw [show (1 : Int32) = nI 1 from rfl, nI_sub (by omega), Nat.sub_sub]]
    obtain ⟨w2, hw2⟩ : ∃ x : SM, x = (updS w.1 62 (nI (X.1 0 - (c + 1))), w.2) := ⟨_, rfl⟩
    show RnQ ZR mX12_reduceBy (36, _, _, ((updS w.1 62 (nI (X.1 0 - (c + 1))), w.2) : SM)) _
    rw [← hw2]
    have f2 : frM [62] [] w w2 := by rw [hw2]; exact frM.i 62 (by decide)
    have e5 : w2.1 62 = nI (X.1 0 - (c + 1)) := by rw [hw2]; rfl
    have hin : vp_in (nI (X.1 0 - (c + 1))) 101 := nI_in (by omega) (by omega)
    have hic : (nI (X.1 0 - (c + 1))).toNatClampNeg = X.1 0 - (c + 1) := nI_clamp (by omega)
    refine RQ_n ZR_ok 5 rfl trivial ?_
    rw [e5]
    refine RQ_n ZR_ok 1 rfl ⟨hin, trivial⟩ ?_
    rw [hic, (f2.2.1 59 (by decide)).trans w59]
    refine RQ_n ZR_ok 6 rfl trivial ?_
    rw [e5]
    refine RQ_n ZR_ok 1 rfl ⟨hin, trivial⟩ ?_
    rw [hic, (f2.2.1 60 (by decide)).trans w60]
    refine RQ_n ZR_ok 6 rfl trivial ?_
    rw [e5]
    refine RQ_n ZR_ok 1 rfl ⟨hin, trivial⟩ ?_
    rw [hic, (f2.2.1 61 (by decide)).trans w61]
    refine RQ_max rfl k12_458 rfl ?_
    refine RQ_n ZR_ok 3 rfl trivial ?_
    exact ih (by omega) () _ _ ⟨rfl, rfl, rfl, rfl, rfl, rfl, rfl, rfl, nIs c, trivial⟩ ⟨e5, g2.tr f2⟩
  have z := (zq_le (a := zgn G r) (b := c) rfl rfl (by omega) (by omega)).mp z
  have hce : c = zgn G r := by omega
  subst hce
  clear ih
  obtain ⟨sz, hsz⟩ : ∃ x, x = zps (X.2 1) (X.1 0) (zgn G r) := ⟨_, rfl⟩
  obtain ⟨hh, hhh⟩ : ∃ x, x = zpm (X.2 3) (X.1 0) (zgn G r) := ⟨_, rfl⟩
  obtain ⟨fr, hfr⟩ : ∃ x, x = zpf (X.2 2) (X.1 0) (nI (X.1 2)) (zgn G r) := ⟨_, rfl⟩
  rw [← hsz, ← hhh, ← hfr]
  have hin : vp_in (nI (X.1 3)) 301 := nI_in (by omega) (by omega)
  have hic : (nI (X.1 3)).toNatClampNeg = X.1 3 := nI_clamp (by omega)
  have j4 : w.1 65 = nI (X.1 3) := (g2.1 65 (by decide)).trans i4
  refine RQ_n ZR_ok 5 rfl trivial ?_
  rw [j4]
  refine RQ_n ZR_ok 1 rfl ⟨hin, trivial⟩ ?_
  rw [hic]
  obtain ⟨v1, hv1⟩ : ∃ x : SM, x = (w.1, updA w.2.1 66 (X.1 3) (nI r), w.2.2) := ⟨_, rfl⟩
  rw [← hv1]
  refine RQ_n ZR_ok 5 rfl trivial ?_
  rw [show v1.1 65 = nI (X.1 3) by rw [hv1]; exact j4]
  refine RQ_n ZR_ok 1 rfl ⟨hin, trivial⟩ ?_
  rw [hic]
  obtain ⟨v2, hv2⟩ : ∃ x : SM, x = (v1.1, updA v1.2.1 67 (X.1 3) sz, v1.2.2) := ⟨_, rfl⟩
  rw [← hv2]
  refine RQ_n ZR_ok 5 rfl trivial ?_
  rw [show v2.1 65 = nI (X.1 3) by rw [hv2, hv1]; exact j4]
  refine RQ_n ZR_ok 1 rfl ⟨hin, trivial⟩ ?_
  rw [hic]
  obtain ⟨v3, hv3⟩ : ∃ x : SM, x = (v2.1, updA v2.2.1 68 (X.1 3) fr, v2.2.2) := ⟨_, rfl⟩
  rw [← hv3]
  refine RQ_n ZR_ok 7 rfl trivial ?_
  rw [show v3.1 65 = nI (X.1 3) by rw [hv3, hv2, hv1]; exact j4]
  refine RQ_n ZR_ok 1 rfl ⟨hin, trivial⟩ ?_
  rw [hic]
  obtain ⟨v4, hv4⟩ : ∃ x : SM, x = (v3.1, updA v3.2.1 69 (X.1 3) (hh + 1), v3.2.2) := ⟨_, rfl⟩
  rw [← hv4]
  have f4 : frM [62, 65] [58, 59, 60, 61, 66, 67, 68, 69] u v4 := by
    rw [hv4]; refine (frM.tr ?_ (frM.a 69 (by decide)))
    rw [hv3]; refine (frM.tr ?_ (frM.a 68 (by decide)))
    rw [hv2]; refine (frM.tr ?_ (frM.a 67 (by decide)))
    rw [hv1]; exact (g2.up (by decide) (by decide)).tr (frM.a 66 (by decide))
  have b66 : v4.2.1 66 = upd (X.2 4) (X.1 3) (nI r) := by rw [hv4, hv3, hv2, hv1, ← a4, ← g2.2.1 66 (by decide)]; rfl
  have b67 : v4.2.1 67 = upd (X.2 5) (X.1 3) sz := by rw [hv4, hv3, hv2, hv1, ← a5, ← g2.2.1 67 (by decide)]; rfl
  have b68 : v4.2.1 68 = upd (X.2 7) (X.1 3) fr := by rw [hv4, hv3, hv2, hv1, ← a7, ← g2.2.1 68 (by decide)]; rfl
  have b69 : v4.2.1 69 = upd (X.2 8) (X.1 3) (hh + 1) := by rw [hv4, hv3, hv2, hv1, ← a8, ← g2.2.1 69 (by decide)]; rfl
  have b58 : v4.2.1 58 = X.2 0 := by rw [hv4, hv3, hv2, hv1]; exact (g2.2.1 58 (by decide)).trans a0
  have b59 : v4.2.1 59 = X.2 1 := by rw [hv4, hv3, hv2, hv1]; exact w59
  have b60 : v4.2.1 60 = X.2 2 := by rw [hv4, hv3, hv2, hv1]; exact w60
  have b61 : v4.2.1 61 = X.2 3 := by rw [hv4, hv3, hv2, hv1]; exact w61
  have c62 : v4.1 62 = nI (X.1 0 - zgn G r) := by rw [hv4, hv3, hv2, hv1]; exact g1
  refine RQ_n ZR_ok 6 rfl trivial ?_
  rw [show v4.1 65 = nI (X.1 3) by rw [hv4, hv3, hv2, hv1]; exact j4, show nI (X.1 3) + 1 = nI (X.1 3 + 1) from nI_add _ 1]
  obtain ⟨v5, hv5⟩ : ∃ x : SM, x = (updS v4.1 65 (nI (X.1 3 + 1)), v4.2) := ⟨_, rfl⟩
  show RnQ ZR mX12_reduceBy (138, _, _, ((updS v4.1 65 (nI (X.1 3 + 1)), v4.2) : SM)) _
  rw [← hv5]
  have f5 : frM [65] [] v4 v5 := by rw [hv5]; exact frM.i 65 (by decide)
  have F5 : frM [62, 65] [58, 59, 60, 61, 66, 67, 68, 69] u v5 := f4.tr (f5.up (by decide) (by decide))
  have R5 : RRd (zpo G X r) v5 := by
    unfold zpo
    rw [← hsz, ← hhh, ← hfr]
    refine ⟨⟨(f5.1 62 (by decide)).trans c62, (F5.1 63 (by decide)).trans i2, (F5.1 64 (by decide)).trans i3, by rw [hv5]; rfl⟩, (f5.2.1 58 (by decide)).trans b58, (f5.2.1 59 (by decide)).trans b59, (f5.2.1 60 (by decide)).trans b60, (f5.2.1 61 (by decide)).trans b61, (f5.2.1 66 (by decide)).trans b66, (f5.2.1 67 (by decide)).trans b67, (f5.2.1 68 (by decide)).trans b68, (f5.2.1 69 (by decide)).trans b69⟩
  have G5 : ZGM G v5 := hG.fr F5 rfl
  have A5 : RAu G (zE0 G) (zF0 G) kd p N v5 := by
    unfold RAu RMn RSt mK mC at hA ⊢
    rw [F5.2.1 38 (by decide), F5.2.1 39 (by decide), F5.2.1 40 (by decide), F5.2.1 41 (by decide), F5.2.1 42 (by decide), F5.2.1 43 (by decide), F5.2.1 44 (by decide)]
    exact hA
  obtain ⟨g, hg⟩ := hgo
  obtain ⟨k1, k2⟩ := w1 (X.1 0 - zgn G r - 1) (by omega)
  obtain ⟨k, hk⟩ : ∃ k, k = zrw X (X.1 0 - zgn G r - 1) := ⟨_, rfl⟩
  have hgk := hg
  rw [← hk] at k1 k2 hg
  have hg200 : g < 200 := by
    cases hz : N.2.2 k (8 + zgl G r) with
    | some g0 =>
      obtain ⟨s, b, q1, q2, -, -⟩ := zgoo_ok (p := p) (md := md) (t := t) hG.1 hF k2 (show zgl G r < 6 by omega) hz
      rw [hg] at q1
      have := Option.some.inj q1
      omega
    | none =>
      exfalso
      unfold zgoo at hg
      rw [hz] at hg
      split at hg
      · cases hg
      · cases hg
  refine RQ_n ZR_ok 6 rfl trivial ?_
  rw [R5.1.1, show nI ((zpo G X r).1 0) - 1 = nI (X.1 0 - zgn G r - 1) by show nI (X.1 0 - zgn G r) - 1 = _; rw [show (1 : Int32) = nI 1 from rfl, nI_sub (by omega)]]
  refine RQ_n ZR_ok 1 rfl ⟨nI_in (by omega) (by omega), trivial⟩ ?_
  rw [nI_clamp (show X.1 0 - zgn G r - 1 < 2 ^ 31 by omega), show v5.2.1 58 (X.1 0 - zgn G r - 1) = nI k by rw [R5.2.1]; exact k1]
  refine RQ_n ZR_ok 3 rfl trivial ?_
  have p190 : ∀ (l9 : Option Value), RnQ ZR mX12_reduceBy (190, [some (.ref 0), some (.int (nI kd)), some (.int (nI md)), some (.int (nI r)), some (.int (nI t)), some (.int sz), some (.int hh), some (.int fr), some (.int (nI k)), l9], [.int (nI g)], v5) (fun x v => x = some (.int (nI (zre G N p md t r X).1)) ∧ RRd (zre G N p md t r X).2 v ∧ frM [62, 65] [58, 59, 60, 61, 66, 67, 68, 69] u v) := by
    intro l9
    refine RQ_n ZR_ok 3 rfl trivial ?_
    refine RQ_b rfl (fun q => absurd q (nI_m1 (a := g) (by omega))) (fun _ => ?_)
    refine RQ_n ZR_ok 7 rfl trivial ?_
    refine RQ_V vX12_push (m_push R5 (show (zpo G X r).1 0 ≤ 100 by show X.1 0 - zgn G r ≤ 100; omega) g sz fr (hh + 1)) rfl k12_482 rfl rfl rfl rfl (fun _ _ _ => rfl) (fun r6 v6 h6 => ?_)
    obtain ⟨rfl, R6, f6⟩ := h6
    have F6 : frM [62, 65] [58, 59, 60, 61, 66, 67, 68, 69] u v6 := F5.tr (f6.up (by decide) (by decide))
    unfold zre
    by_cases y : X.1 0 - zgn G r = 100
    · have y' : (zpo G X r).1 0 = 100 := y
      rw [if_pos y'] at R6
      rw [decide_eq_false (fun q => q y'), if_pos y]
      refine RQ_b rfl (fun _ => ?_) (fun q => absurd rfl q)
      refine RQ_n ZR_ok 1 rfl trivial ?_
      exact RQ_to (Rn_iret rfl rfl) ⟨rfl, R6, F6⟩
    · have y' : ¬ (zpo G X r).1 0 = 100 := y
      rw [if_neg y', hsz, hhh, hfr] at R6
      rw [decide_eq_true y', if_neg y, hgk]
      refine RQ_b rfl (fun q => absurd (show (1 : Int32) = 0 from q) (by decide)) (fun _ => ?_)
      refine RQ_n ZR_ok 2 rfl trivial ?_
      exact RQ_to (Rn_iret rfl rfl) ⟨rfl, R6, F6⟩
  refine RQ_b rfl (fun q => ?_) (fun q => ?_)
  · have q := (not_congr (zq_eq (a := md) (b := 2) rfl rfl (by omega) (by omega))).mp q
    have hg2 : N.2.2 k (8 + zgl G r) = some g := by unfold zgoo at hg; rw [if_neg q] at hg; exact hg
    refine RQ_n ZR_ok 7 rfl trivial ?_
    refine RQ_n ZR_ok 1 rfl ⟨nI_in (by omega) (by omega), trivial⟩ ?_
    rw [nI_clamp (show r < 2 ^ 31 by omega), G5.l hr]
    refine RQ_n ZR_ok 1 rfl trivial ?_
    rw [show (8 : Int32) + nI (zgl G r) = nI (8 + zgl G r) from nI_add 8 _]
    have hgb := m_goesBy v5 hk3 (show k < 200 by omega) (show 8 + zgl G r < 14 by omega)
    rw [A5.1.2.2 k k2 _ (by omega), hg2] at hgb
    refine RQ_v vX12_goesBy hgb rfl k12_386 rfl rfl rfl rfl rfl ?_
    exact p190 _
  · have q := (zq_eq (a := md) (b := 2) rfl rfl (by omega) (by omega)).mp (Classical.not_not.mp q)
    have hg2 : zaxs G N p k t 6 (N.2.2 k (8 + zgl G r)) = some g := by unfold zgoo at hg; rw [if_pos q] at hg; exact hg
    refine RQ_n ZR_ok 6 rfl trivial ?_
    refine RQ_n ZR_ok 1 rfl ⟨nI_in (by omega) (by omega), trivial⟩ ?_
    rw [nI_clamp (show r < 2 ^ 31 by omega), G5.l hr]
    refine RQ_n ZR_ok 1 rfl trivial ?_
    have hbr := m_bridgeOf G5 hk3 hF A5 k2 (show zgl G r < 6 by omega) ht
    rw [hg2] at hbr
    refine RQ_v vX12_bridgeOf hbr rfl k12_448 rfl rfl rfl rfl rfl ?_
    refine RQ_n ZR_ok 1 rfl trivial ?_
    exact p190 _
/-- what is read is one more -/
def zr1 (Y : Nat × ZRS) : Nat × ZRS := if Y.1 = 4 then (4, (updN Y.2.1 2 (Y.2.1 2 + 1), Y.2.2)) else Y
set_option maxHeartbeats 1000000 in
theorem m_actOnce (hG : ZGM G u) (hF : ZNF G N) (hk3 : kd < 3) (hA : RAu G (zE0 G) (zF0 G) kd p N u) (hmd3 : md < 3) (h : RRd X u) (hW : ZRW N X) (ht : t ≤ zgT G ∨ t = 99) :
    EvQ ZR mX12_actOnce [.ref 0, .int (nI kd), .int (nI md), .int (nI t)] u (fun x v => x = some (.int (nI (zao G N p md t X).1)) ∧ RRd (zr1 (zao G N p md t X)).2 v ∧ frM [62, 63, 64, 65] [58, 59, 60, 61, 66, 67, 68, 69] u v) := by
  have hb := hG.b
  have hN := hF.1.2
  have hd := hW.1
  obtain ⟨k1, k2⟩ := hW.2.2.1 (X.1 0 - 1) (by omega)
  obtain ⟨⟨i1, i2, i3, i4⟩, a0, -⟩ := id h
  have hs300 := hW.2.2.2.2.2
  obtain ⟨a, ha⟩ : ∃ a, a = ztl G (zcl G (zE0 G) (zF0 G) (N.2.1 (zrw X (X.1 0 - 1)))) (N.2.2 (zrw X (X.1 0 - 1))) p t (decide (md = 1)) := ⟨_, rfl⟩
  have hto := m_actionOf hG hk3 hN hA k2 ht (decide (md = 1))
  rw [← ha] at hto
  have hcs := zao_cases hG.1 hF hW ht ha
  refine EQ_V vX12_actOnce rfl ?_
  refine RQ_n ZR_ok 8 rfl trivial ?_
  rw [i1, show nI (X.1 0) - 1 = nI (X.1 0 - 1) by rw [show (1 : Int32) = nI 1 from rfl, nI_sub (by omega)]]
  refine RQ_n ZR_ok 1 rfl ⟨nI_in (by omega) (by omega), trivial⟩ ?_
  rw [nI_clamp (show X.1 0 - 1 < 2 ^ 31 by omega), a0, k1]
  refine RQ_n ZR_ok 3 rfl trivial ?_
  obtain ⟨u1, hu1⟩ : ∃ x : SM, x = (updS u.1 63 (nI (X.1 1 + 1)), u.2) := ⟨_, rfl⟩
  have f1 : frM [63] [] u u1 := by rw [hu1]; exact frM.i 63 (by decide)
  have R1 : RRd (updN X.1 1 (X.1 1 + 1), X.2) u1 := by
    obtain ⟨⟨j1, j2, j3, j4⟩, b⟩ := h
    refine ⟨⟨(f1.1 62 (by decide)).trans j1, by rw [hu1]; rfl, (f1.1 64 (by decide)).trans j3, (f1.1 65 (by decide)).trans j4⟩, ?_⟩
    rw [show u1.2 = u.2 by rw [hu1]]
    exact b
  have F1 : frM [62, 63, 64, 65] [58, 59, 60, 61, 66, 67, 68, 69] u u1 := f1.up (by decide) (by decide)
  have p27 : ∀ l4 : Option Value, RnQ ZR mX12_actOnce (27, [some (.ref 0), some (.int (nI kd)), some (.int (nI md)), some (.int (nI t)), l4], [.int a], u) (fun x v => x = some (.int (nI (zao G N p md t X).1)) ∧ RRd (zr1 (zao G N p md t X)).2 v ∧ frM [62, 63, 64, 65] [58, 59, 60, 61, 66, 67, 68, 69] u v) := by
    intro l4
    refine RQ_n ZR_ok 3 rfl trivial ?_
    rcases hcs with ⟨c1, c2⟩ | hcs
    · rw [c1, c2]
      refine RQ_b rfl (fun z => absurd rfl z) (fun _ => ?_)
      refine RQ_n ZR_ok 1 rfl trivial ?_
      exact RQ_to (Rn_iret rfl rfl) ⟨rfl, h, frM.rf⟩
    have ham : a ≠ -1 := by
      rcases hcs with ⟨c1, -⟩ | ⟨-, c2, -⟩ | ⟨s, b, -, c2, -, -, c5, -⟩ | ⟨r, -, c2, c3, -⟩
      · exact c1
      · rw [c2]; decide
      · rw [c5]; exact nI_m1 (by omega)
      · rw [c3]; exact nI_m1 (by omega)
    refine RQ_b rfl (fun _ => ?_) (fun z => absurd (Classical.not_not.mp z) ham)
    refine RQ_n ZR_ok 3 rfl trivial ?_
    rw [i2]
    rcases hcs with ⟨-, c2, c3⟩ | hcs
    · rw [c3, c2]
      refine RQ_b rfl (fun z => absurd rfl z) (fun _ => ?_)
      refine RQ_n ZR_ok 1 rfl trivial ?_
      exact RQ_to (Rn_iret rfl rfl) ⟨rfl, h, frM.rf⟩
    have h300 : X.1 1 < 300 := by
      rcases hcs with ⟨c1, -⟩ | ⟨s, b, c1, -⟩ | ⟨r, c1, -⟩
      · exact c1
      · exact c1
      · exact c1
    refine RQ_b rfl (fun _ => ?_) (fun z => ?_)
    rotate_left
    · have := (zq_eq (a := X.1 1) (b := 300) rfl rfl (by omega) (by omega)).mp (Classical.not_not.mp z)
      omega
    refine RQ_n ZR_ok 6 rfl trivial ?_
    rw [i2, show nI (X.1 1) + 1 = nI (X.1 1 + 1) from nI_add _ 1]
    show RnQ ZR mX12_actOnce (59, _, _, ((updS u.1 63 (nI (X.1 1 + 1)), u.2) : SM)) _
    rw [← hu1]
    refine RQ_n ZR_ok 2 rfl trivial ?_
    rcases hcs with ⟨-, c2, c3⟩ | hcs
    · rw [c3, c2]
      refine RQ_b rfl (fun z => absurd rfl z) (fun _ => ?_)
      refine RQ_n ZR_ok 1 rfl trivial ?_
      exact RQ_to (Rn_iret rfl rfl) ⟨rfl, R1, F1⟩
    rcases hcs with ⟨s, b, -, c2, c3, c4, c5, c6⟩ | ⟨r, -, c2, c3, c4, c5⟩
    · rw [c5, c6]
      refine RQ_b rfl (fun _ => ?_) (fun z => ?_)
      rotate_left
      · have := (zq_eq (a := 1000 + s) (b := 999) rfl rfl (by omega) (by omega)).mp (Classical.not_not.mp z)
        omega
      refine RQ_n ZR_ok 2 rfl trivial ?_
      refine RQ_b rfl (fun _ => ?_) (fun z => absurd ((zq_le (a := 1000) (b := 1000 + s) rfl rfl (by omega) (by omega)).mpr (by omega)) z)
      refine RQ_n ZR_ok 8 rfl trivial ?_
      rw [show nI (1000 + s) - 1000 = nI s by rw [show (1000 : Int32) = nI 1000 from rfl, nI_sub (by omega), Nat.add_sub_cancel_left], R1.1.2.2.1]
      refine RQ_V vX12_push (m_push R1 (show X.1 0 ≤ 100 by omega) s 1 (nI (X.1 2)) 0) rfl k12_482 rfl rfl rfl rfl (fun _ _ _ => rfl) (fun r6 v6 h6 => ?_)
      obtain ⟨rfl, R6, f6⟩ := h6
      have F6 : frM [62, 63, 64, 65] [58, 59, 60, 61, 66, 67, 68, 69] u v6 := F1.tr (f6.up (by decide) (by decide))
      by_cases y : X.1 0 = 100
      · have y' : ((updN X.1 1 (X.1 1 + 1), X.2) : ZRS).1 0 = 100 := y
        rw [if_pos y'] at R6
        rw [decide_eq_false (fun q => q y'), if_pos y]
        refine RQ_b rfl (fun q => absurd rfl q) (fun _ => ?_)
        refine RQ_n ZR_ok 1 rfl trivial ?_
        exact RQ_to (Rn_iret rfl rfl) ⟨rfl, R6, F6⟩
      · have y' : ¬ ((updN X.1 1 (X.1 1 + 1), X.2) : ZRS).1 0 = 100 := y
        rw [if_neg y'] at R6
        rw [decide_eq_true y', if_neg y]
        refine RQ_b rfl (fun _ => ?_) (fun q => absurd (Classical.not_not.mp q) (show ¬ (1 : Int32) = 0 by decide))
        refine RQ_n ZR_ok 6 rfl trivial ?_
        have e64 : v6.1 64 = nI (X.1 2) := R6.1.2.2.1
        rw [e64, show nI (X.1 2) + 1 = nI (X.1 2 + 1) from nI_add _ 1]
        obtain ⟨v7, hv7⟩ : ∃ x : SM, x = (updS v6.1 64 (nI (X.1 2 + 1)), v6.2) := ⟨_, rfl⟩
        show RnQ ZR mX12_actOnce (118, _, _, ((updS v6.1 64 (nI (X.1 2 + 1)), v6.2) : SM)) _
        rw [← hv7]
        have f7 : frM [64] [] v6 v7 := by rw [hv7]; exact frM.i 64 (by decide)
        refine RQ_n ZR_ok 1 rfl trivial ?_
        refine RQ_to (Rn_iret rfl rfl) ⟨rfl, ?_, F6.tr (f7.up (by decide) (by decide))⟩
        obtain ⟨⟨j1, j2, j3, j4⟩, b⟩ := R6
        refine ⟨⟨(f7.1 62 (by decide)).trans j1, (f7.1 63 (by decide)).trans j2, by rw [hv7]; rfl, (f7.1 65 (by decide)).trans j4⟩, ?_⟩
        rw [show v7.2 = v6.2 by rw [hv7]]
        exact b
    · rw [c3, c5]
      refine RQ_b rfl (fun _ => ?_) (fun z => ?_)
      rotate_left
      · have := (zq_eq (a := r) (b := 999) rfl rfl (by omega) (by omega)).mp (Classical.not_not.mp z)
        omega
      refine RQ_n ZR_ok 2 rfl trivial ?_
      refine RQ_b rfl (fun z => ?_) (fun _ => ?_)
      · have := (zq_le (a := 1000) (b := r) rfl rfl (by omega) (by omega)).mp z
        omega
      refine RQ_n ZR_ok 5 rfl trivial ?_
      obtain ⟨s1, s2⟩ := hW.st h300
      have hlr := zLR hG.1 hF hW c2 (ha.symm.trans c3)
      obtain ⟨-, q2, g, q3, q4⟩ := hlr
      have hl := hG.1.2.1 r c2
      obtain ⟨g', b', z1, -, -, -⟩ := zgoo_ok (p := p) (md := md) (t := t) hG.1 hF q2 (show zgl G r < 6 by omega) q4
      have A1 : RAu G (zE0 G) (zF0 G) kd p N u1 := by
        unfold RAu RMn RSt mK mC at hA ⊢
        rw [show u1.2 = u.2 by rw [hu1]]
        exact hA
      refine RQ_V vX12_reduceBy (m_reduceBy (hG.fr f1 rfl) hF hk3 A1 hmd3 R1 s1 ht c2 c4 (show X.1 3 < 300 by omega) ⟨g', z1⟩) rfl k12_485 rfl rfl rfl rfl (fun _ _ _ => rfl) (fun r6 v6 h6 => ?_)
      obtain ⟨rfl, R6, f6⟩ := h6
      have hne : (zre G N p md t r (updN X.1 1 (X.1 1 + 1), X.2)).1 ≠ 4 := by
        unfold zre
        split
        · exact (by decide : (2 : Nat) ≠ 4)
        · split
          · exact (by decide : (2 : Nat) ≠ 4)
          · exact (by decide : (3 : Nat) ≠ 4)
      refine RQ_to (Rn_iret rfl rfl) ⟨rfl, ?_, F1.tr (f6.up (by decide) (by decide))⟩
      unfold zr1
      rw [if_neg hne]
      exact R6
  refine RQ_b rfl (fun z => ?_) (fun z => ?_)
  · have z := (not_congr (zq_eq (a := md) (b := 1) rfl rfl (by omega) (by omega))).mp z
    rw [decide_eq_false z] at hto
    refine RQ_n ZR_ok 1 rfl trivial ?_
    refine RQ_v vX12_actionOf hto rfl k12_443 rfl rfl rfl rfl rfl ?_
    exact p27 _
  · have z := (zq_eq (a := md) (b := 1) rfl rfl (by omega) (by omega)).mp (Classical.not_not.mp z)
    rw [decide_eq_true z] at hto
    refine RQ_n ZR_ok 2 rfl trivial ?_
    refine RQ_v vX12_actionOf hto rfl k12_443 rfl rfl rfl rfl rfl ?_
    exact p27 _
end MRe
