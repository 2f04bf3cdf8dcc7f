/-! The class: reduce, step. -/
theorem XRd.fr {X : ZRS} {u v : SX} {ks : List (Nat × Nat)} {as : List Nat} (h : XRd X u) (f : frX ks as u v) (h1 : ∀ k ∈ [5, 12, 13, 14], (87, k) ∉ ks) (h2 : ∀ a ∈ [89, 90, 91, 93, 94, 95, 96], a ∉ as) : XRd X v := by
  unfold XRd at h ⊢
  rw [f.1 87 5 (h1 _ (by decide)), f.1 87 12 (h1 _ (by decide)), f.1 87 13 (h1 _ (by decide)), f.1 87 14 (h1 _ (by decide)), f.2.1 89 (h2 _ (by decide)), f.2.1 90 (h2 _ (by decide)), f.2.1 91 (h2 _ (by decide)), f.2.1 93 (h2 _ (by decide)), f.2.1 94 (h2 _ (by decide)), f.2.1 95 (h2 _ (by decide)), f.2.1 96 (h2 _ (by decide))]
  exact h
section XRe
variable {P : YP} {G : ZGT} {N : ZNM} {p : Int32} {X : ZRS} {u : SX} {md t r : Nat}
set_option maxHeartbeats 1000000 in
theorem y_reduce (hG : ZGX G u) (hF : ZNF G N) (hV : XV G N u) (hT : XT G N p u) (htab : u.2.2.2.1 87 1 = .ref 47) (hmd : u.1 87 2 = nI md) (hmd3 : md < 3) (h : XRd X u) (hW : ZRW N X) (ht : t < 100) (hr : r < zgR G) (hc : zgn G r < X.1 0) (hd3 : X.1 3 < 300) (hgo : ∃ g, zgoo G N p md t (zrw X (X.1 0 - zgn G r - 1)) (zgl G r) = some g) :
    EvQ (ZY P) mX8_reduce [.ref 87, .int (nI r), .int (nI t)] u (fun x v => x = some (.int (nI (zre G N p md t r X).1)) ∧ XRd (zre G N p md t r X).2 v ∧ frX [(87, 5), (87, 14)] [89, 90, 91, 93, 94, 95, 96] u v) := by
  have hb := hG.b
  have hN := hF.1.2
  have h5 := (hG.1.2.2.1 r (by omega)).1
  have hl := hG.1.2.1 r hr
  obtain ⟨⟨wd1, wd2⟩, -, w1, -⟩ := hW
  obtain ⟨⟨i1, i2, i3, i4⟩, a0, a1, a3, a4, a5, a6, a8⟩ := id h
  refine EQ_V vX8_reduce rfl ?_
  refine RQ_n (ZY_ok P) 6 rfl trivial ?_
  refine loopU (zgn G r) (fun c (_ : Unit) => [some (.ref 87), some (.int (nI r)), some (.int (nI t)), some (.int (zps (X.2 1) (X.1 0) c)), some (.int (zpm (X.2 3) (X.1 0) c)), some (.int (nI c)), none, none]) (fun c _ w => w.1 87 5 = nI (X.1 0 - c) ∧ frX [(87, 5)] [] u w) ?_ 0 () u (by omega) ⟨i1, frX.rf⟩
  intro c _ w hcn hJ ih
  obtain ⟨g1, g2⟩ := hJ
  have Gw : ZGX G w := hG.fr g2 rfl
  have w90 : w.2.1 90 = X.2 1 := (g2.2.1 90 (by decide)).trans a1
  have w91 : w.2.1 91 = X.2 3 := (g2.2.1 91 (by decide)).trans a3
  refine RQ_n (ZY_ok P) 5 rfl trivial ?_
  refine RQ_n (ZY_ok P) 1 rfl ⟨nI_in (by omega) (by omega), trivial⟩ ?_
  rw [nI_clamp (show r < 2 ^ 31 by omega), (Gw.2.2.2 r (by omega)).1]
  refine RQ_b rfl (fun z => ?_) (fun z => ?_)
  rotate_left
  · have z := (not_congr (zq_le (a := zgn G r) (b := c) rfl rfl (by omega) (by omega))).mp z
    refine RQ_n (ZY_ok P) 3 rfl trivial ?_
    rw [g1]
    refine RQ_b rfl (fun y => ?_) (fun _ => ?_)
    · have := (zq_le (a := X.1 0 - c) (b := 1) rfl rfl (by omega) (by omega)).mp y
      omega
    refine RQ_n (ZY_ok P) 6 rfl trivial ?_
    rw [g1, show nI (X.1 0 - c) - 1 = nI (X.1 0 - (c + 1)) by rw [show (1 : Int32) = nI 1 from rfl, nI_sub (by omega), Nat.sub_sub]]
    obtain ⟨w2, hw2⟩ : ∃ x : SX, x = (updI w.1 87 5 (nI (X.1 0 - (c + 1))), w.2) := ⟨_, rfl⟩
    show RnQ (ZY P) mX8_reduce (40, _, _, ((updI w.1 87 5 (nI (X.1 0 - (c + 1))), w.2) : SX)) _
    rw [← hw2]
    have f2 : frX [(87, 5)] [] w w2 := by rw [hw2]; exact frX.i 87 5 (by decide)
    have e5 : w2.1 87 5 = nI (X.1 0 - (c + 1)) := by rw [hw2]; rfl
    have hin : vp_in (nI (X.1 0 - (c + 1))) 100 := nI_in (by omega) (by omega)
    have hic : (nI (X.1 0 - (c + 1))).toNatClampNeg = X.1 0 - (c + 1) := nI_clamp (by omega)
    refine RQ_n (ZY_ok P) 5 rfl trivial ?_
    rw [e5]
    refine RQ_n (ZY_ok P) 1 rfl ⟨hin, trivial⟩ ?_
    rw [hic, (f2.2.1 90 (by decide)).trans w90]
    refine RQ_n (ZY_ok P) 7 rfl trivial ?_
    rw [e5]
    refine RQ_n (ZY_ok P) 1 rfl ⟨hin, trivial⟩ ?_
    rw [hic, (f2.2.1 91 (by decide)).trans w91]
    refine RQ_max rfl k8_109 rfl ?_
    refine RQ_n (ZY_ok P) 3 rfl trivial ?_
    exact ih (by omega) () _ _ ⟨rfl, rfl, rfl, rfl, rfl, nIs c, trivial⟩ ⟨e5, g2.tr f2⟩
  have z := (zq_le (a := zgn G r) (b := c) rfl rfl (by omega) (by omega)).mp z
  have hce : c = zgn G r := by omega
  subst hce
  clear ih
  obtain ⟨sz, hsz⟩ : ∃ x, x = zps (X.2 1) (X.1 0) (zgn G r) := ⟨_, rfl⟩
  obtain ⟨hh, hhh⟩ : ∃ x, x = zpm (X.2 3) (X.1 0) (zgn G r) := ⟨_, rfl⟩
  obtain ⟨fr, hfr⟩ : ∃ x, x = zpf (X.2 2) (X.1 0) (nI (X.1 2)) (zgn G r) := ⟨_, rfl⟩
  have R1 : XRd (updN X.1 0 (X.1 0 - zgn G r), X.2) w := ⟨⟨g1, (g2.1 87 12 (by decide)).trans i2, (g2.1 87 13 (by decide)).trans i3, (g2.1 87 14 (by decide)).trans i4⟩, (g2.2.1 89 (by decide)).trans a0, w90, w91, (g2.2.1 93 (by decide)).trans a4, (g2.2.1 94 (by decide)).trans a5, (g2.2.1 95 (by decide)).trans a6, (g2.2.1 96 (by decide)).trans a8⟩
  rw [← hsz, ← hhh]
  refine RQ_n (ZY_ok P) 6 rfl trivial ?_
  refine RQ_V vX8_note (y_note R1 hd3 r sz (hh + 1) fr) rfl k8_114 rfl rfl rfl (zy87 _ rfl) (fun _ s1 q => by show 3 * s1.2.2.2.2.1 + 99 = 3 * w.2.2.2.2.1 + 99; rw [q.2.2.2.2]) ?_
  rintro r3 v3 ⟨rfl, R3, f3⟩
  have ezpo : znt (updN X.1 0 (X.1 0 - zgn G r), X.2) r sz (hh + 1) fr = zpo G X r := by rw [hsz, hhh, hfr]; rfl
  rw [ezpo] at R3
  have F3 : frX [(87, 5), (87, 14)] [89, 90, 91, 93, 94, 95, 96] u v3 := (g2.up (by decide) (by decide)).tr (f3.up (by decide) (by decide))
  have e5 : v3.1 87 5 = nI (X.1 0 - zgn G r) := R3.1.1
  have ev : v3.2.2 = u.2.2 := F3.2.2
  refine RQ_n (ZY_ok P) 3 rfl trivial ?_
  rw [e5]
  obtain ⟨g, hg⟩ := hgo
  unfold zre
  by_cases y : X.1 0 - zgn G r = 100
  · refine RQ_b rfl (fun q => absurd ((zq_eq (a := X.1 0 - zgn G r) (b := 100) rfl rfl (by omega) (by omega)).mpr y) q) (fun _ => ?_)
    rw [if_pos y]
    refine RQ_n (ZY_ok P) 1 rfl trivial ?_
    exact RQ_to (Rn_iret rfl rfl) ⟨rfl, R3, F3⟩
  refine RQ_b rfl (fun _ => ?_) (fun q => absurd ((zq_eq (a := X.1 0 - zgn G r) (b := 100) rfl rfl (by omega) (by omega)).mp (Classical.not_not.mp q)) y)
  rw [if_neg y, hg]
  dsimp only
  have G3 : ZGX G v3 := hG.fr F3 rfl
  have V3 : XV G N v3 := hV.fr F3 (by decide) (by decide)
  have T3 : XT G N p v3 := hT.fr F3 (by decide)
  obtain ⟨k1, k2⟩ := w1 (X.1 0 - zgn G r - 1) (by omega)
  obtain ⟨k, hk⟩ : ∃ k, k = zrw X (X.1 0 - zgn G r - 1) := ⟨_, rfl⟩
  rw [← hk] at k1 k2 hg
  refine RQ_n (ZY_ok P) 6 rfl trivial ?_
  rw [e5, show nI (X.1 0 - zgn G r) - 1 = nI (X.1 0 - zgn G r - 1) by rw [show (1 : Int32) = nI 1 from rfl, nI_sub (by omega)]]
  refine RQ_n (ZY_ok P) 1 rfl ⟨nI_in (by omega) (by omega), trivial⟩ ?_
  rw [nI_clamp (show X.1 0 - zgn G r - 1 < 2 ^ 31 by omega), show v3.2.1 89 (X.1 0 - zgn G r - 1) = nI k by rw [R3.2.1]; exact k1]
  refine RQ_n (ZY_ok P) 5 rfl trivial ?_
  refine RQ_n (ZY_ok P) 1 rfl ⟨nI_in (by omega) (by omega), trivial⟩ ?_
  rw [nI_clamp (show r < 2 ^ 31 by omega), (G3.2.2.1 r hr).1]
  refine RQ_n (ZY_ok P) 4 rfl trivial ?_
  rw [(F3.1 87 2 (by decide)).trans hmd]
  have p159 : ∀ (l5 l7 : Option Value) (x6 : Int32), RnQ (ZY P) mX8_reduce (159, [some (.ref 87), some (.int (nI r)), some (.int (nI t)), some (.int sz), some (.int hh), l5, some (.int x6), l7], [.int (nI g)], v3) (fun x v => x = some (.int (nI 3)) ∧ XRd (zph (zpo G X r) g (zps (X.2 1) (X.1 0) (zgn G r)) (zpf (X.2 2) (X.1 0) (nI (X.1 2)) (zgn G r)) (zpm (X.2 3) (X.1 0) (zgn G r) + 1)) v ∧ frX [(87, 5), (87, 14)] [89, 90, 91, 93, 94, 95, 96] u v) := by
    intro l5 l7 x6
    have hg200 : g < 200 := by
      obtain ⟨-, -, s, hs1, hs2, b, hb1, hb2⟩ : True ∧ True ∧ ∃ s, zgoo G N p md t k (zgl G r) = some s ∧ s < N.1 ∧ ∃ b, b < 14 ∧ N.2.2 k b = some s := by
        refine ⟨trivial, trivial, g, hg, ?_⟩
        cases hgk : N.2.2 k (8 + zgl G r) with
        | some g0 =>
          obtain ⟨s, b, q1, q2, q3, q4⟩ := zgoo_ok (p := p) (md := md) (t := t) hG.1 hF k2 (show zgl G r < 6 by omega) hgk
          rw [hg] at q1
          have := Option.some.inj q1
          subst this
          exact ⟨q2, b, q3, q4⟩
        | none =>
          exfalso
          unfold zgoo at hg
          rw [hgk] at hg
          split at hg
          · cases hg
          · cases hg
      rw [hg] at hs1
      have := Option.some.inj hs1
      omega
    refine RQ_n (ZY_ok P) 3 rfl trivial ?_
    refine RQ_b rfl (fun _ => ?_) (fun q => absurd (Classical.not_not.mp q) (nI_m1 (a := g) (by omega)))
    refine RQ_n (ZY_ok P) 6 rfl trivial ?_
    have hdp : (zpo G X r).1 0 < 100 := by show X.1 0 - zgn G r < 100; omega
    refine RQ_V vX8_push (y_push R3 hdp g sz fr (hh + 1)) rfl k8_66 rfl rfl rfl (zy87 _ rfl) (fun _ s1 q => by show 3 * s1.2.2.2.2.1 + 99 = 3 * v3.2.2.2.2.1 + 99; rw [q.2.2.2.2]) ?_
    rintro r4 v4 ⟨rfl, R4, f4⟩
    rw [hsz, hhh, hfr] at R4
    refine RQ_n (ZY_ok P) 1 rfl trivial ?_
    exact RQ_to (Rn_iret rfl rfl) ⟨rfl, R4, F3.tr (f4.up (by decide) (by decide))⟩
  have htab3 : v3.2.2.2.1 87 1 = .ref 47 := by rw [ev]; exact htab
  refine RQ_b rfl (fun q => ?_) (fun q => ?_)
  · have q := (not_congr (zq_eq (a := md) (b := 2) rfl rfl (by omega) (by omega))).mp q
    have hg2 : N.2.2 k (8 + zgl G r) = some g := by unfold zgoo at hg; rw [if_neg q] at hg; exact hg
    refine RQ_n (ZY_ok P) 2 rfl trivial ?_
    rw [htab3]
    refine RQ_n (ZY_ok P) 5 rfl trivial ?_
    rw [show (8 : Int32) + nI (zgl G r) = nI (8 + zgl G r) from nI_add 8 _]
    have hgl := y_goal (P := P) hN V3 k2 (show 8 + zgl G r < 14 by omega)
    rw [hg2] at hgl
    refine RQ_v vX1_goal hgl rfl k8_128 rfl rfl rfl (zy36 _ rfl) rfl ?_
    exact p159 _ _ _
  · have q := (zq_eq (a := md) (b := 2) rfl rfl (by omega) (by omega)).mp (Classical.not_not.mp q)
    have hg2 : zaxs G N p k t 6 (N.2.2 k (8 + zgl G r)) = some g := by unfold zgoo at hg; rw [if_pos q] at hg; exact hg
    refine RQ_n (ZY_ok P) 2 rfl trivial ?_
    rw [htab3]
    refine RQ_n (ZY_ok P) 3 rfl trivial ?_
    have hax := y_across (P := P) G3 hF V3 T3 k2 (show zgl G r < 6 by omega) ht
    rw [hg2] at hax
    refine RQ_v vX0_across hax rfl k8_120 rfl rfl rfl (zy47 _ rfl) rfl ?_
    refine RQ_n (ZY_ok P) 1 rfl trivial ?_
    exact p159 _ _ _
set_option maxHeartbeats 1000000 in
theorem y_step (hG : ZGX G u) (hF : ZNF G N) (hV : XV G N u) (hT : XT G N p u) (htab : u.2.2.2.1 87 1 = .ref 47) (hmd : u.1 87 2 = nI md) (hmd3 : md < 3) (h : XRd X u) (hW : ZRW N X) (ht : t ≤ zgT G ∨ t = 99) :
    EvQ (ZY P) mX8_step [.ref 87, .int (nI t)] u (fun x v => x = some (.int (nI (zao G N p md t X).1)) ∧ XRd (zao G N p md t X).2 v ∧ frX [(87, 5), (87, 12), (87, 14)] [89, 90, 91, 93, 94, 95, 96] u v) := by
  have hb := hG.b
  have hN := hF.1.2
  have hd := hW.1
  obtain ⟨k1, k2⟩ := hW.2.2.1 (X.1 0 - 1) (by omega)
  obtain ⟨⟨i1, i2, i3, i4⟩, a0, -⟩ := id h
  have hs300 := hW.2.2.2.2.2
  obtain ⟨a, ha⟩ : ∃ a, a = ztl G (zcl G (zE0 G) (zF0 G) (N.2.1 (zrw X (X.1 0 - 1)))) (N.2.2 (zrw X (X.1 0 - 1))) p t (decide (md = 1)) := ⟨_, rfl⟩
  have hto := y_told (P := P) hG hN hT k2 (show t < 100 by omega) (decide (md = 1))
  rw [← ha] at hto
  have hcs := zao_cases hG.1 hF hW ht ha
  refine EQ_V vX8_step rfl ?_
  refine RQ_n (ZY_ok P) 2 rfl trivial ?_
  rw [htab]
  refine RQ_n (ZY_ok P) 6 rfl trivial ?_
  rw [i1, show nI (X.1 0) - 1 = nI (X.1 0 - 1) by rw [show (1 : Int32) = nI 1 from rfl, nI_sub (by omega)]]
  refine RQ_n (ZY_ok P) 1 rfl ⟨nI_in (by omega) (by omega), trivial⟩ ?_
  rw [nI_clamp (show X.1 0 - 1 < 2 ^ 31 by omega), a0, k1]
  refine RQ_n (ZY_ok P) 4 rfl trivial ?_
  rw [hmd]
  -- steps are one more
  obtain ⟨u1, hu1⟩ : ∃ x : SX, x = (updI u.1 87 12 (nI (X.1 1 + 1)), u.2) := ⟨_, rfl⟩
  have f1 : frX [(87, 12)] [] u u1 := by rw [hu1]; exact frX.i 87 12 (by decide)
  have R1 : XRd (updN X.1 1 (X.1 1 + 1), X.2) u1 := by
    obtain ⟨⟨j1, j2, j3, j4⟩, b⟩ := h
    refine ⟨⟨(f1.1 87 5 (by decide)).trans j1, by rw [hu1]; rfl, (f1.1 87 13 (by decide)).trans j3, (f1.1 87 14 (by decide)).trans j4⟩, ?_⟩
    rw [show u1.2 = u.2 by rw [hu1]]
    exact b
  have F1 : frX [(87, 5), (87, 12), (87, 14)] [89, 90, 91, 93, 94, 95, 96] u u1 := f1.up (by decide) (by decide)
  have p32 : ∀ l2 : Option Value, RnQ (ZY P) mX8_step (32, [some (.ref 87), some (.int (nI t)), l2], [.int a], u) (fun x v => x = some (.int (nI (zao G N p md t X).1)) ∧ XRd (zao G N p md t X).2 v ∧ frX [(87, 5), (87, 12), (87, 14)] [89, 90, 91, 93, 94, 95, 96] u v) := by
    intro l2
    refine RQ_n (ZY_ok P) 3 rfl trivial ?_
    rcases hcs with ⟨c1, c2⟩ | hcs
    · rw [c1, c2]
      refine RQ_b rfl (fun z => absurd rfl z) (fun _ => ?_)
      refine RQ_n (ZY_ok P) 1 rfl trivial ?_
      exact RQ_to (Rn_iret rfl rfl) ⟨rfl, h, frX.rf⟩
    have ham : a ≠ -1 := by
      rcases hcs with ⟨c1, -⟩ | ⟨-, c2, -⟩ | ⟨s, b, -, c2, -, -, c5, -⟩ | ⟨r, -, c2, c3, -⟩
      · exact c1
      · rw [c2]; decide
      · rw [c5]; exact nI_m1 (by omega)
      · rw [c3]; exact nI_m1 (by omega)
    refine RQ_b rfl (fun _ => ?_) (fun z => absurd (Classical.not_not.mp z) ham)
    refine RQ_n (ZY_ok P) 3 rfl trivial ?_
    rw [i2]
    rcases hcs with ⟨-, c2, c3⟩ | hcs
    · rw [c3, c2]
      refine RQ_b rfl (fun z => absurd rfl z) (fun _ => ?_)
      refine RQ_n (ZY_ok P) 1 rfl trivial ?_
      exact RQ_to (Rn_iret rfl rfl) ⟨rfl, h, frX.rf⟩
    have h300 : X.1 1 < 300 := by
      rcases hcs with ⟨c1, -⟩ | ⟨s, b, c1, -⟩ | ⟨r, c1, -⟩
      · exact c1
      · exact c1
      · exact c1
    refine RQ_b rfl (fun _ => ?_) (fun z => ?_)
    rotate_left
    · have := (zq_eq (a := X.1 1) (b := 300) rfl rfl (by omega) (by omega)).mp (Classical.not_not.mp z)
      omega
    refine RQ_n (ZY_ok P) 6 rfl trivial ?_
    rw [i2, show nI (X.1 1) + 1 = nI (X.1 1 + 1) from nI_add _ 1]
    show RnQ (ZY P) mX8_step (62, _, _, ((updI u.1 87 12 (nI (X.1 1 + 1)), u.2) : SX)) _
    rw [← hu1]
    refine RQ_n (ZY_ok P) 2 rfl trivial ?_
    rcases hcs with ⟨-, c2, c3⟩ | hcs
    · rw [c3, c2]
      refine RQ_b rfl (fun z => absurd rfl z) (fun _ => ?_)
      refine RQ_n (ZY_ok P) 1 rfl trivial ?_
      exact RQ_to (Rn_iret rfl rfl) ⟨rfl, R1, F1⟩
    rcases hcs with ⟨s, b, -, c2, c3, c4, c5, c6⟩ | ⟨r, -, c2, c3, c4, c5⟩
    · rw [c5, c6]
      refine RQ_b rfl (fun _ => ?_) (fun z => ?_)
      rotate_left
      · have := (zq_eq (a := 1000 + s) (b := 999) rfl rfl (by omega) (by omega)).mp (Classical.not_not.mp z)
        omega
      refine RQ_n (ZY_ok P) 2 rfl trivial ?_
      refine RQ_b rfl (fun z => ?_) (fun _ => ?_)
      · have := (zq_lt (a := 1000 + s) (b := 1000) rfl rfl (by omega) (by omega)).mp z
        omega
      refine RQ_n (ZY_ok P) 4 rfl trivial ?_
      rw [show nI (1000 + s) - 1000 = nI s by rw [show (1000 : Int32) = nI 1000 from rfl, nI_sub (by omega), Nat.add_sub_cancel_left]]
      -- shift
      have hsh : EvQ (ZY P) mX8_shift [.ref 87, .int (nI s)] u1 (fun x v => x = some (.int (nI (if X.1 0 = 100 then (2, (updN X.1 1 (X.1 1 + 1), X.2)) else (4, zph (updN X.1 1 (X.1 1 + 1), X.2) s 1 (nI (X.1 2)) 0) : Nat × ZRS).1)) ∧ XRd (if X.1 0 = 100 then (2, (updN X.1 1 (X.1 1 + 1), X.2)) else (4, zph (updN X.1 1 (X.1 1 + 1), X.2) s 1 (nI (X.1 2)) 0) : Nat × ZRS).2 v ∧ frX [(87, 5)] [89, 90, 91] u1 v) := by
        refine EQ_V vX8_shift rfl ?_
        refine RQ_n (ZY_ok P) 3 rfl trivial ?_
        rw [show u1.1 87 5 = nI (X.1 0) from R1.1.1]
        by_cases y : X.1 0 = 100
        · rw [if_pos y]
          refine RQ_b rfl (fun q => absurd ((zq_eq (a := X.1 0) (b := 100) rfl rfl (by omega) (by omega)).mpr y) q) (fun _ => ?_)
          refine RQ_n (ZY_ok P) 1 rfl trivial ?_
          exact RQ_to (Rn_iret rfl rfl) ⟨rfl, R1, frX.rf⟩
        · rw [if_neg y]
          refine RQ_b rfl (fun _ => ?_) (fun q => absurd ((zq_eq (a := X.1 0) (b := 100) rfl rfl (by omega) (by omega)).mp (Classical.not_not.mp q)) y)
          refine RQ_n (ZY_ok P) 4 rfl trivial ?_
          refine RQ_V vX8_push (y_push R1 (show X.1 0 < 100 by omega) s 1 (nI (X.1 2)) 0) rfl k8_66 rfl rfl rfl (zy87 _ rfl) (fun _ s1 q => by show 3 * s1.2.2.2.2.1 + 99 = 3 * u1.2.2.2.2.1 + 99; rw [q.2.2.2.2]) ?_
          rintro r4 v4 ⟨rfl, R4, f4⟩
          refine RQ_n (ZY_ok P) 1 rfl trivial ?_
          exact RQ_to (Rn_iret rfl rfl) ⟨rfl, R4, f4⟩
      refine RQ_V vX8_shift hsh rfl k8_100 rfl rfl rfl (zy87 _ rfl) (fun _ s1 q => by show 3 * s1.2.2.2.2.1 + 99 = 3 * u1.2.2.2.2.1 + 99; rw [q.2.2.2.2]) ?_
      rintro r4 v4 ⟨rfl, R4, f4⟩
      refine RQ_n (ZY_ok P) 1 rfl trivial ?_
      exact RQ_to (Rn_iret rfl rfl) ⟨rfl, R4, F1.tr (f4.up (by decide) (by decide))⟩
    · rw [c3, c5]
      refine RQ_b rfl (fun _ => ?_) (fun z => ?_)
      rotate_left
      · have := (zq_eq (a := r) (b := 999) rfl rfl (by omega) (by omega)).mp (Classical.not_not.mp z)
        omega
      refine RQ_n (ZY_ok P) 2 rfl trivial ?_
      refine RQ_b rfl (fun _ => ?_) (fun z => absurd ((zq_lt (a := r) (b := 1000) rfl rfl (by omega) (by omega)).mpr (by omega)) z)
      refine RQ_n (ZY_ok P) 3 rfl trivial ?_
      obtain ⟨s1, s2⟩ := hW.st h300
      have hlr := zLR hG.1 hF hW c2 (ha.symm.trans c3)
      obtain ⟨-, q2, g, q3, q4⟩ := hlr
      have hl := hG.1.2.1 r c2
      obtain ⟨g', b', z1, -, -, -⟩ := zgoo_ok (p := p) (md := md) (t := t) hG.1 hF q2 (show zgl G r < 6 by omega) q4
      refine RQ_V vX8_reduce (y_reduce (hG.fr f1 rfl) hF (hV.fr f1 (by decide) (by decide)) (hT.fr f1 (by decide)) (by rw [f1.2.2]; exact htab) ((f1.1 87 2 (by decide)).trans hmd) hmd3 R1 s1 (show t < 100 by omega) c2 c4 (show X.1 3 < 300 by omega) ⟨g', z1⟩) rfl k8_103 rfl rfl rfl (zy87 _ rfl) (fun _ s1 q => by show 3 * s1.2.2.2.2.1 + 99 = 3 * u1.2.2.2.2.1 + 99; rw [q.2.2.2.2]) ?_
      rintro r4 v4 ⟨rfl, R4, f4⟩
      exact RQ_to (Rn_iret rfl rfl) ⟨rfl, R4, F1.tr (f4.up (by decide) (by decide))⟩
  refine RQ_b rfl (fun z => ?_) (fun z => ?_)
  · have z := (not_congr (zq_eq (a := md) (b := 1) rfl rfl (by omega) (by omega))).mp z
    rw [decide_eq_false z] at hto
    refine RQ_n (ZY_ok P) 1 rfl trivial ?_
    refine RQ_v vX0_told hto rfl k8_94 rfl rfl rfl (zy47 _ rfl) rfl ?_
    exact p32 _
  · have z := (zq_eq (a := md) (b := 1) rfl rfl (by omega) (by omega)).mp (Classical.not_not.mp z)
    rw [decide_eq_true z] at hto
    refine RQ_n (ZY_ok P) 2 rfl trivial ?_
    refine RQ_v vX0_told hto rfl k8_94 rfl rfl rfl (zy47 _ rfl) rfl ?_
    exact p32 _
end XRe
