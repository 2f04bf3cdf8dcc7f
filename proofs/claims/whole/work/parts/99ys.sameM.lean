/-! same: the reference. -/
section MSame2
variable {G : ZGT} {k1 k2 : Nat} {os : Nat → Option ZAS} {s : SM}
set_option maxHeartbeats 1000000 in
theorem m_same (h1 : k1 < 3) (h2 : k2 < 3) (hZ : ∀ kd, kd < 3 → ZAt G kd (os kd)) (h : RGr G os s) (x : Int32) : EvQ ZR mX12_same [.ref 0, .int (nI k1), .int (nI k2), .int x] s (rfQ G os s (zvSa G (os k1) (os k2) (s.1 24) x)) := by
  have hb := h.1.b
  refine EQ_V vX12_same rfl ?_
  have no : ∀ v, RGr G os v → frR s v → zvSa G (os k1) (os k2) (s.1 24) x = -1 → RnQ ZR mX12_same (25, [some (.ref 0), some (.int (nI k1)), some (.int (nI k2)), some (.int x), none, none, none], [], v) (rfQ G os s (zvSa G (os k1) (os k2) (s.1 24) x)) := by
    intro v g1 g2 e
    refine RQ_n ZR_ok 1 rfl trivial ?_
    exact RQ_to (Rn_iret rfl rfl) ⟨by rw [e], g1, g2⟩
  refine RQ_n ZR_ok 2 rfl trivial ?_
  refine RQ_V vX12_isThere (m_isThere2 h1 hZ h) rfl k12_424 rfl rfl rfl rfl (fun _ _ _ => rfl) (fun r1 v h3 => ?_)
  obtain ⟨rfl, a1, a2, a3', -⟩ := h3
  have a3 := frR.th a3'
  cases o1 : os k1 with
  | none =>
    rw [o1] at no
    exact RQ_b rfl (fun _ => no v a1 a3 rfl) (fun q => absurd rfl q)
  | some A =>
  rw [o1] at no
  refine RQ_b rfl (fun q => absurd (show (1 : Int32) = 0 from q) (by decide)) (fun _ => ?_)
  refine RQ_n ZR_ok 2 rfl trivial ?_
  refine RQ_V vX12_isThere (m_isThere2 h2 hZ a1) rfl k12_424 rfl rfl rfl rfl (fun _ _ _ => rfl) (fun r2 v2 h4 => ?_)
  obtain ⟨rfl, c1, c2, c3', c4⟩ := h4
  have F2 : frR s v2 := a3.tr (frR.th c3')
  cases o2 : os k2 with
  | none =>
    rw [o2] at no
    exact RQ_b rfl (fun _ => no v2 c1 F2 rfl) (fun q => absurd rfl q)
  | some B =>
  rw [o2] at no
  refine RQ_b rfl (fun q => absurd (show (1 : Int32) = 0 from q) (by decide)) (fun _ => ?_)
  refine RQ_n ZR_ok 3 rfl trivial ?_
  refine RQ_s vX12_in (e_in v2 x 0 4) rfl k12_170 rfl rfl rfl rfl ?_
  rw [show inB x 0 4 = (zix x 5).isSome from zix_in1 (n := 4) (by omega)]
  cases e : zix x 5 with
  | none => exact RQ_b rfl (fun q => absurd rfl q) (fun _ => no v2 c1 F2 (by unfold zvSa; rw [e]))
  | some m =>
  clear no
  obtain ⟨m1, m2⟩ := zix_s e
  have hv : zvSa G (some A) (some B) (s.1 24) x = zsa G (zN A) (zN B) (s.1 24) (m + 1) 0 := by unfold zvSa; rw [e]
  rw [hv]
  clear hv
  subst m2
  refine RQ_b rfl (fun _ => ?_) (fun q => absurd (Classical.not_not.mp q) (show ¬ (1 : Int32) = 0 by decide))
  have q30 : v2.2.1 30 k1 = 1 := c4 k1 a2
  obtain ⟨D, hD⟩ : ∃ D, D = zsa G (zN A) (zN B) (s.1 24) (m + 1) 0 := ⟨_, rfl⟩
  rw [← hD]
  refine RQ_n ZR_ok 4 rfl trivial ?_
  refine loopU (m + 1) (fun L (_ : Unit) => [some (.ref 0), some (.int (nI k1)), some (.int (nI k2)), some (.int (nI m)), some (.int (nI (zgT G ^ L))), some (.int (nI L)), none]) (fun L _ w => RGr G os w ∧ (w.2.1 30 k1 = 1 ∧ w.2.1 30 k2 = 1) ∧ frR s w ∧ zsa G (zN A) (zN B) (s.1 24) (m + 1 - L) L = D) ?_ 0 () v2 (by omega) ⟨c1, ⟨q30, c2⟩, F2, hD.symm⟩
  intro L _ w hL hJ ih
  obtain ⟨g1, g2, g3, g4⟩ := hJ
  have hpw : zgT G ^ L ≤ 32768 := zT4 (by omega) (by omega)
  refine RQ_n ZR_ok 2 rfl trivial ?_
  refine RQ_b rfl (fun z => ?_) (fun z => ?_)
  · have z := (zq_lt (a := m) (b := L) rfl rfl (by omega) (by omega)).mp z
    rw [show m + 1 - L = 0 by omega] at g4
    refine RQ_n ZR_ok 1 rfl trivial ?_
    exact RQ_to (Rn_iret rfl rfl) ⟨by rw [← g4]; rfl, g1, g3⟩
  have z := (not_congr (zq_lt (a := m) (b := L) rfl rfl (by omega) (by omega))).mp z
  rw [show m + 1 - L = (m + 1 - (L + 1)) + 1 by omega, zsa_s] at g4
  obtain ⟨q, hq⟩ : ∃ q, q = zqw G (zN A) (zN B) (s.1 24) L := ⟨_, rfl⟩
  rw [← hq] at g4
  refine RQ_n ZR_ok 2 rfl trivial ?_
  refine loopU (zgT G ^ L) (fun x (_ : Unit) => [some (.ref 0), some (.int (nI k1)), some (.int (nI k2)), some (.int (nI m)), some (.int (nI (zgT G ^ L))), some (.int (nI L)), some (.int (nI x))]) (fun x _ w => RGr G os w ∧ (w.2.1 30 k1 = 1 ∧ w.2.1 30 k2 = 1) ∧ frR s w ∧ zft q (zgT G ^ L - x) x = zft q (zgT G ^ L) 0) ?_ 0 () w (by omega) ⟨g1, g2, g3, rfl⟩
  clear g1 g2 g3 w
  intro x _ w hx hJ ih2
  obtain ⟨g1, g2, g3, g5⟩ := hJ
  refine RQ_n ZR_ok 2 rfl trivial ?_
  refine RQ_b rfl (fun y => ?_) (fun y => ?_)
  · have y := (zq_le (a := zgT G ^ L) (b := x) rfl rfl (by omega) (by omega)).mp y
    rw [show zgT G ^ L - x = 0 by omega] at g5
    rw [← g5] at g4
    refine RQ_n ZR_ok 3 rfl trivial ?_
    rw [g1.1.2.1.2.2]
    refine RQ_n ZR_ok 4 rfl trivial ?_
    refine ih (by omega) () _ _ ⟨rfl, rfl, rfl, rfl, ?_, nIs L, trivial⟩ ⟨g1, g2, g3, g4⟩
    rw [nI_mul, Nat.pow_succ]
  have y := (not_congr (zq_le (a := zgT G ^ L) (b := x) rfl rfl (by omega) (by omega))).mp y
  have hTp : 0 < L → 0 < zgT G := fun hl => by
    refine Nat.pos_of_ne_zero (fun e0 => ?_)
    rw [e0, Nat.zero_pow hl] at y
    omega
  rw [show zgT G ^ L - x = (zgT G ^ L - (x + 1)) + 1 by omega, zft_s] at g5
  have e24 : w.1 24 = s.1 24 := g3.1 24 (by decide)
  have hqx : q x = (decide ((zcan G (zN A) (s.1 24) 0 L (zdg (zgT G) L x)).1 = 1) && !decide ((zcan G (zN B) (s.1 24) 0 L (zdg (zgT G) L x)).1 = 1)) := by rw [hq]; rfl
  have p88 : ∀ v, RGr G os v → (v.2.1 30 k1 = 1 ∧ v.2.1 30 k2 = 1) → frR s v → q x = false → RnQ ZR mX12_same (88, [some (.ref 0), some (.int (nI k1)), some (.int (nI k2)), some (.int (nI m)), some (.int (nI (zgT G ^ L))), some (.int (nI L)), some (.int (nI x))], [], v) (rfQ G os s D) := by
    intro v j1 j2 j3 e
    rw [e] at g5
    refine RQ_n ZR_ok 2 rfl trivial ?_
    exact ih2 (by omega) () _ _ ⟨rfl, rfl, rfl, rfl, rfl, rfl, nIs x, trivial⟩ ⟨j1, j2, j3, g5⟩
  refine RQ_n ZR_ok 4 rfl trivial ?_
  have w1 := m_isWell h1 hZ g1 g2.1 o1 (L := L) (w := x) (by omega) hTp (by omega)
  rw [e24] at w1
  refine RQ_V vX12_isWell w1 rfl k12_536 rfl rfl rfl rfl (fun _ _ _ => rfl) (fun r5 v5 h5 => ?_)
  obtain ⟨rfl, j1, j2⟩ := h5
  have j3 : frR s v5 := g3.tr (j2.up (by decide) (by decide))
  have j4 : v5.2.1 30 k1 = 1 ∧ v5.2.1 30 k2 = 1 := by rw [j2.2.1 30 (by decide)]; exact g2
  cases d1 : decide ((zcan G (zN A) (s.1 24) 0 L (zdg (zgT G) L x)).1 = 1) with
  | false => exact RQ_b rfl (fun _ => p88 v5 j1 j4 j3 (by rw [hqx, d1]; rfl)) (fun r => absurd rfl r)
  | true =>
  refine RQ_b rfl (fun r => absurd (show (1 : Int32) = 0 from r) (by decide)) (fun _ => ?_)
  refine RQ_n ZR_ok 4 rfl trivial ?_
  have w2 := m_isWell h2 hZ j1 j4.2 o2 (L := L) (w := x) (by omega) hTp (by omega)
  rw [j3.1 24 (by decide)] at w2
  refine RQ_V vX12_isWell w2 rfl k12_536 rfl rfl rfl rfl (fun _ _ _ => rfl) (fun r6 v6 h6 => ?_)
  obtain ⟨rfl, i1, i2⟩ := h6
  have i3 : frR s v6 := j3.tr (i2.up (by decide) (by decide))
  have i4 : v6.2.1 30 k1 = 1 ∧ v6.2.1 30 k2 = 1 := by rw [i2.2.1 30 (by decide)]; exact j4
  cases d2 : decide ((zcan G (zN B) (s.1 24) 0 L (zdg (zgT G) L x)).1 = 1) with
  | true => exact RQ_b rfl (fun _ => p88 v6 i1 i4 i3 (by rw [hqx, d1, d2]; rfl)) (fun r => absurd (show ¬ (1 : Int32) = 0 by decide) r)
  | false =>
  refine RQ_b rfl (fun r => absurd rfl r) (fun _ => ?_)
  have eq1 : q x = true := by rw [hqx, d1, d2]; rfl
  rw [eq1] at g5
  rw [← g5] at g4
  refine RQ_n ZR_ok 3 rfl trivial ?_
  refine RQ_V vX12_laySigns (m_laySigns i1.1 (L := L) (w := x) (by omega) hTp (by omega)) rfl k12_533 rfl rfl rfl rfl (fun _ _ _ => rfl) (fun r7 v7 h7 => ?_)
  obtain ⟨rfl, n1, n2⟩ := h7
  refine RQ_n ZR_ok 2 rfl trivial ?_
  refine RQ_v vX12_codeOf (m_codeOf (zdg (zgT G) L x) (by omega) n1) rfl k12_539 rfl rfl rfl rfl rfl ?_
  refine RQ_to (Rn_iret rfl rfl) ⟨?_, i1.fr n2 (by decide) (by decide), i3.tr (n2.up (by decide) (by decide))⟩
  rw [← g4]; rfl
end MSame2
