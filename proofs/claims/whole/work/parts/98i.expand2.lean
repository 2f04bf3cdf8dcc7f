/-! The class: expand. -/
set_option maxHeartbeats 1000000 in
theorem y_expand {P : YP} {G : ZGT} {E : Int32} {F : Nat → Int32} {kd s : Nat} {A : ZAS} {u : SX} (hG : ZGX G u) (hF : FE G E F u) (h5 : ∀ n, n < 6 → bsub (F n) 511) (hk : P.1 0 = nI kd) (hk3 : kd < 3) (hA : ZAI G A) (hX : XA P A u) (hs : s < A.1) (hth : u.1 36 4 = 1)
    (hcg : ∀ b, b < 14 → ∀ w, A.2.2.1 s b = some w → zco (A.2.1 w) (zNX G (zcl G E F (A.2.1 s)) b)) :
    EvQ (ZY P) mX2_expand [.ref 25, .ref 36, .int (nI s)] u (fun x v => x = none ∧ frE u v ∧ stepR P (zbys G kd s (zcl G E F (A.2.1 s)) A 14) 1 v ∧ zlO G E F (A.2.1 s) (yO s v) ∧ ∀ j, (j < 6 * s ∨ 6 * s + 6 ≤ j) → v.2.1 39 j = u.2.1 39 j) := by
  have hGW : GW G := hG.1
  obtain ⟨k, hkk⟩ : ∃ k, k = A.2.1 s := ⟨_, rfl⟩
  have z0 : zk0 G k := by rw [hkk]; exact (hA.2.2.2.2 s hs).1
  have zh : zhi G k := by rw [hkk]; exact (hA.2.2.2.2 s hs).2.1
  rw [← hkk] at hcg ⊢
  have hs2 : s < 200 := Nat.lt_of_lt_of_le hs hA.1.2
  obtain ⟨kc, hks⟩ := hX.2.1
  obtain ⟨k1, k2, k3⟩ := hks.1 s hs
  have hc99 : 99 ≤ kc s := k2.1
  rw [← hkk] at k3
  obtain ⟨h, h7, h8⟩ := hX.2.2.2.2.2.2
  refine EQ_V vX2_expand rfl ?_
  refine RQ_n (ZY_ok P) 4 rfl trivial ?_
  refine RQ_v vX1_kernelIn (y_kernelIn hs2 k1) rfl k2_92 rfl rfl rfl (zy36 _ rfl) rfl ?_
  refine RQ_V vX7_copy (y_copy (c := 28) (Or.inl rfl) k2.2 (by omega) k3) rfl k2_96 rfl rfl rfl (zyk (Or.inl rfl) rfl) (fun _ s1 q => by show 3 * s1.2.2.2.2.1 + 99 = 3 * u.2.2.2.2.1 + 99; rw [q.2.2.2.2]) ?_
  rintro r1 v1 ⟨rfl, hK1, f1⟩
  have f1' : frX [(28, 0), (31, 0)] [29, 30, 32, 33, 39] u v1 := f1.up (by decide) (by decide)
  have X1 := hX.fr f1'
  have G1 := hG.fr f1 rfl
  have F1 := hF.fr f1 (by decide) (by decide) (by decide)
  have E1 := frE.lo h7 f1'
  have R1 := h7.fr f1.2.2
  have k3' : KX k (kc s) v1 := k3.fr (f1.1 _ _ (by simp only [List.mem_cons, List.not_mem_nil, or_false, Prod.mk.injEq]; omega)) (f1.2.1 _ (by simp only [List.mem_cons, List.not_mem_nil, or_false]; omega)) (f1.2.1 _ (by simp only [List.mem_cons, List.not_mem_nil, or_false]; omega))
  refine RQ_n (ZY_ok P) 2 rfl trivial ?_
  refine RQ_V vX1_close (y_close G1 F1 h5 hs2 (by rw [f1.2.2]; exact k1) (by rw [f1.2.2]; exact k2.2) hc99 k3' zh) rfl k2_100 rfl rfl rfl (zy36 _ rfl) (fun _ s1 q => by show 3 * s1.2.2.2.2.1 + 99 = 3 * v1.2.2.2.2.1 + 99; rw [q.2.2.2.2.2]) ?_
  rintro r2 v2 ⟨rfl, hO, hO2, f2⟩
  have hO3 : ∀ j, (j < 6 * s ∨ 6 * s + 6 ≤ j) → v2.2.1 39 j = u.2.1 39 j := fun j hj => by rw [hO2 j hj, f1.2.1 39 (by decide)]
  have f2' : frX [(28, 0), (31, 0)] [29, 30, 32, 33, 39] v1 v2 := f2.up (by decide) (by decide)
  have X2 := X1.fr f2'
  have G2 := G1.fr f2 rfl
  have E2 := E1.tr (frE.lo R1 f2')
  have K2 : KX k 28 v2 := hK1.fr (f2.1 _ _ (by decide)) (f2.2.1 _ (by decide)) (f2.2.1 _ (by decide))
  have T2 : v2.1 36 4 = 1 := by rw [f2.1 36 4 (by decide), f1.1 36 4 (by decide)]; exact hth
  have hC : ∀ i, i < 102 → zCM G k (yO s v2) i = zcl G E F k i := fun i hi => (zcl_eq (zlO_C hGW z0 hO) hi).symm
  obtain ⟨O, hOe⟩ : ∃ O, O = yO s v2 := ⟨_, rfl⟩
  obtain ⟨C, hCe⟩ : ∃ C, C = zcl G E F k := ⟨_, rfl⟩
  rw [← hOe, ← hCe] at hC
  have oY : ∀ v : SX, v.2.1 39 = v2.2.1 39 → yO s v = yO s v2 := fun v e => by unfold yO; rw [e]
  have oEnd : ∀ v : SX, v.2.1 39 = v2.2.1 39 → zlO G E F k (yO s v) ∧ ∀ j, (j < 6 * s ∨ 6 * s + 6 ≤ j) → v.2.1 39 j = u.2.1 39 j := fun v e => ⟨by rw [oY v e]; exact hO, fun j hj => by rw [e]; exact hO3 j hj⟩
  rw [← hCe] at hcg ⊢
  refine RQ_n (ZY_ok P) 2 rfl trivial ?_
  have key : ∀ d b A' v, b + d = 14 → zbys G kd s C A b = some A' → XA P A' v → ZGX G v → KX k 28 v → v.2.1 39 = v2.2.1 39 → v.1 36 4 = 1 → frE u v → RnQ (ZY P) mX2_expand (19, [some (.ref 25), some (.ref 36), some (.int (nI s)), some (.int (nI b))], [], v) (fun x v => x = none ∧ frE u v ∧ stepR P (zbys G kd s C A 14) 1 v ∧ zlO G E F k (yO s v) ∧ ∀ j, (j < 6 * s ∨ 6 * s + 6 ≤ j) → v.2.1 39 j = u.2.1 39 j) := by
    intro d
    induction d with
    | zero =>
      intro b A' v hbd hz X3 G3 K3 O3 T3 E3
      have hb : b = 14 := by omega
      subst hb
      refine RQ_n (ZY_ok P) 2 rfl trivial ?_
      rw [T3]
      refine RQ_b rfl (fun z => absurd (show (1 : Int32) = 0 from z) (by decide)) (fun _ => ?_)
      refine RQ_n (ZY_ok P) 2 rfl trivial ?_
      refine RQ_b rfl (fun _ => ?_) (fun z => absurd (show (14 : Int32) ≤ nI 14 by decide) z)
      refine RQ_to (Rn_vret rfl rfl) ⟨rfl, E3, ?_, oEnd v O3⟩
      rw [hz]
      exact ⟨X3, T3⟩
    | succ d ih =>
      intro b A' v hbd hz X3 G3 K3 O3 T3 E3
      obtain ⟨i1, i2, i3, i4⟩ := zbys_kp hGW hA hs b A' hz
      obtain ⟨h', R3, -⟩ := X3.2.2.2.2.2.2
      refine RQ_n (ZY_ok P) 2 rfl trivial ?_
      rw [T3]
      refine RQ_b rfl (fun z => absurd (show (1 : Int32) = 0 from z) (by decide)) (fun _ => ?_)
      refine RQ_n (ZY_ok P) 2 rfl trivial ?_
      refine RQ_b rfl (fun z => ?_) (fun _ => ?_)
      · have := (zq_le (a := 14) (b := b) rfl rfl (by omega) (by omega)).mp z
        omega
      refine RQ_n (ZY_ok P) 4 rfl trivial ?_
      refine RQ_V vX2_findNext (y_findNext G3 hs2 (by omega) K3 z0 zh) rfl k2_103 rfl rfl rfl (zy25 _ rfl) (fun _ s1 q => by show 3 * s1.2.2.2.2.1 + 99 = 3 * v.2.2.2.2.1 + 99; rw [q.2.2.2.2]) ?_
      rintro r4 v4 ⟨rfl, hN4, f4⟩
      rw [show yO s v = O from (oY v O3).trans hOe.symm] at hN4
      have hN4 : KX (zNX G C b) 31 v4 := hN4.cg (fun i hi => zNX_cg hC hi)
      have f4' : frX [(28, 0), (31, 0)] [29, 30, 32, 33, 39] v v4 := f4.up (by decide) (by decide)
      have X4 := X3.fr f4'
      have G4 := G3.fr f4 rfl
      have E4 := E3.tr (frE.lo R3 f4')
      have K4 : KX k 28 v4 := K3.fr (f4.1 _ _ (by decide)) (f4.2.1 _ (by decide)) (f4.2.1 _ (by decide))
      have O4 : v4.2.1 39 = v2.2.1 39 := (f4.2.1 39 (by decide)).trans O3
      have T4 : v4.1 36 4 = 1 := (f4.1 36 4 (by decide)).trans T3
      obtain ⟨m', m1, m2, m3⟩ := KX_sz hN4
      refine RQ_n (ZY_ok P) 3 rfl trivial ?_
      rw [m1]
      have hz1 : zbys G kd s C A (b + 1) = zby G kd s C b A' := by rw [zbys, hz]
      have nb : nI b + 1 = nI (b + 1) := nI_add b 1
      refine RQ_b rfl (fun z => ?_) (fun z => ?_)
      · have z := (zq_le (a := m') (b := 0) rfl rfl (by omega) (by omega)).mp z
        refine RQ_n (ZY_ok P) 2 rfl trivial ?_
        rw [nb]
        refine ih (b + 1) A' v4 (by omega) ?_ X4 G4 K4 O4 T4 E4
        rw [hz1]
        unfold zby
        rw [zcB_t (m3.mp (by omega)), if_pos rfl]
      have z := (not_congr (zq_le (a := m') (b := 0) rfl rfl (by omega) (by omega))).mp z
      have hnz : ¬ ∀ i, i < 102 → zNX G C b i = 0 := fun y => by have := m3.mpr y; omega
      obtain ⟨m, K, go, q⟩ := A'
      refine RQ_n (ZY_ok P) 4 rfl trivial ?_
      refine RQ_VN vX2_link (y_link hk hk3 X4 hN4 i1.1.2 (Nat.lt_of_lt_of_le hs i2) (by omega) i1.2.2.1 i1.2.1 (fun w hw => ?_)) rfl k2_107 rfl rfl rfl (zy25 _ rfl) ?_ ?_
      · have hw2 : A.2.2.1 s b = some w := (i4 b (Nat.le_refl _)).symm.trans hw
        have hw3 := hA.2.2.2.1 s hs b w hw2
        exact ⟨Nat.lt_of_lt_of_le hw3 i2, zco_tr (i3 w hw3) (hcg b (by omega) w hw2)⟩
      · show (((Nat.blt 25 (3 * v4.2.2.2.2.1 + 99)) && ((Nat.blt 36 (3 * v4.2.2.2.2.1 + 99)) && true)) && true) = true
        rw [zblt (show 25 < 3 * v4.2.2.2.2.1 + 99 by omega), zblt (show 36 < 3 * v4.2.2.2.2.1 + 99 by omega)]; rfl
      rintro r5 v5 ⟨rfl, f5, hl5⟩
      have st5 := linkR_by hnz hl5
      rw [T4] at st5
      have E5 := E4.tr f5.e
      refine RQ_n (ZY_ok P) 2 rfl trivial ?_
      rw [nb]
      cases hy : zby G kd s C b (m, K, go, q) with
      | some A2 =>
        rw [hy] at st5
        refine ih (b + 1) A2 v5 (by omega) (hz1.trans hy) st5.1 (G4.e f5.e) (K4.fr (f5.1 _ _ (by omega) (by decide)) (f5.2.1 _ (by omega) (by decide)) (f5.2.1 _ (by omega) (by decide))) ((f5.2.1 39 (by omega) (by decide)).trans O4) st5.2 E5
      | none =>
        rw [hy] at st5
        have st5 : v5.1 36 4 = 0 ∧ XI P v5 := st5
        refine RQ_n (ZY_ok P) 2 rfl trivial ?_
        rw [st5.1]
        refine RQ_b rfl (fun _ => ?_) (fun z => absurd rfl z)
        refine RQ_to (Rn_vret rfl rfl) ⟨rfl, E5, ?_, oEnd v5 ((f5.2.1 39 (by omega) (by decide)).trans O4)⟩
        have hno : zbys G kd s C A 14 = none := by
          have := zbys_no (hz1.trans hy) d
          rw [show b + 1 + d = 14 by omega] at this
          exact this
        rw [hno]
        exact st5
  exact key 14 0 A v2 (by omega) rfl X2 G2 K2 rfl T2 E2
