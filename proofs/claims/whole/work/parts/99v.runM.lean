/-! The reference: keepRow, startRow, readAll. -/
def RKp (K : Nat × (Nat → Int32)) (v : SM) : Prop := v.1 71 = nI K.1 ∧ ∀ i, i < K.1 → v.2.1 70 i = K.2 i
section MRun
variable {G : ZGT} {N : ZNM} {p : Int32} {X : ZRS} {u : SM} {md len kd : Nat} {inp : Nat → Nat}
theorem RRd.fr {v : SM} {ks as : List Nat} (h : RRd X u) (f : frM ks as u v) (h1 : ∀ k ∈ [62, 63, 64, 65], k ∉ ks) (h2 : ∀ a ∈ [58, 59, 60, 61, 66, 67, 68, 69], a ∉ as) : RRd X v := by
  unfold RRd at h ⊢
  rw [f.1 62 (h1 _ (by decide)), f.1 63 (h1 _ (by decide)), f.1 64 (h1 _ (by decide)), f.1 65 (h1 _ (by decide)), f.2.1 58 (h2 _ (by decide)), f.2.1 59 (h2 _ (by decide)), f.2.1 60 (h2 _ (by decide)), f.2.1 61 (h2 _ (by decide)), f.2.1 66 (h2 _ (by decide)), f.2.1 67 (h2 _ (by decide)), f.2.1 68 (h2 _ (by decide)), f.2.1 69 (h2 _ (by decide))]
  exact h
theorem m_keepRow (h : RRd X u) (hd : X.1 0 ≤ 100) : EvQ ZR mX12_keepRow [.ref 0] u (fun x v => x = none ∧ RRd X v ∧ RKp (X.1 0, X.2 0) v ∧ frM [71] [70] u v) := by
  have e5 := h.1.1
  refine EQ_V vX12_keepRow rfl ?_
  refine RQ_n ZR_ok 6 rfl trivial ?_
  rw [e5]
  obtain ⟨v1, hv1⟩ : ∃ x : SM, x = (updS u.1 71 (nI (X.1 0)), u.2) := ⟨_, rfl⟩
  show RnQ ZR mX12_keepRow (10, _, _, ((updS u.1 71 (nI (X.1 0)), u.2) : SM)) _
  rw [← hv1]
  have f1 : frM [71] [70] u v1 := by rw [hv1]; exact frM.i 71 (by decide)
  have e71 : v1.1 71 = nI (X.1 0) := by rw [hv1]; rfl
  refine loopU (X.1 0) (fun i (_ : Unit) => [some (.ref 0), some (.int (nI i))]) (fun i _ w => (∀ j, j < i → w.2.1 70 j = X.2 0 j) ∧ frM [] [70] v1 w) ?_ 0 () v1 (by omega) ⟨fun j hj => by omega, frM.rf⟩
  intro i _ w hi hJ ih
  obtain ⟨g1, g2⟩ := hJ
  have Fw : frM [71] [70] u w := f1.tr (g2.up (by decide) (by decide))
  refine RQ_n ZR_ok 3 rfl trivial ?_
  rw [(Fw.1 62 (by decide)).trans e5]
  refine RQ_b rfl (fun z => ?_) (fun z => ?_)
  · have z := (zq_le (a := X.1 0) (b := i) rfl rfl (by omega) (by omega)).mp z
    have hie : i = X.1 0 := by omega
    exact RQ_to (Rn_vret rfl rfl) ⟨rfl, h.fr Fw (by decide) (by decide), ⟨(g2.1 71 (by decide)).trans e71, fun j hj => g1 j (by rw [hie]; exact hj)⟩, Fw⟩
  have z := (not_congr (zq_le (a := X.1 0) (b := i) rfl rfl (by omega) (by omega))).mp z
  have hin : vp_in (nI i) 101 := nI_in (by omega) (by omega)
  have hic : (nI i).toNatClampNeg = i := nI_clamp (by omega)
  refine RQ_n ZR_ok 6 rfl trivial ?_
  refine RQ_n ZR_ok 1 rfl ⟨hin, trivial⟩ ?_
  rw [hic, (Fw.2.1 58 (by decide)).trans h.2.1]
  refine RQ_n ZR_ok 1 rfl ⟨hin, trivial⟩ ?_
  rw [hic]
  obtain ⟨w2, hw2⟩ : ∃ x : SM, x = (w.1, updA w.2.1 70 i (X.2 0 i), w.2.2) := ⟨_, rfl⟩
  rw [← hw2]
  have f2 : frM [] [70] w w2 := by rw [hw2]; exact frM.a 70 (by decide)
  have h70 : w2.2.1 70 = upd (w.2.1 70) i (X.2 0 i) := by rw [hw2]; rfl
  refine RQ_n ZR_ok 2 rfl trivial ?_
  refine ih (by omega) () _ _ ⟨rfl, nIs i, trivial⟩ ⟨fun j hj => ?_, g2.tr f2⟩
  rw [h70]
  by_cases y : j = i
  · rw [y, upd_at]
  · rw [upd_ne y]; exact g1 j (by omega)
/-- how the reference's reading begins -/
def rr0 (s : SM) : ZRS := (updN (fun _ => 0) 0 1, fun a => match a with | 0 => upd (s.2.1 58) 0 0 | 1 => s.2.1 59 | 2 => s.2.1 60 | 3 => s.2.1 61 | 4 => s.2.1 66 | 5 => s.2.1 67 | 7 => s.2.1 68 | 8 => s.2.1 69 | _ => fun _ => 0)
theorem rr0_W (hN : 1 ≤ N.1) (s : SM) : ZRW N (rr0 s) := by
  have e : (rr0 s).2 0 0 = nI 0 := by show upd (s.2.1 58) 0 0 0 = nI 0; rw [upd_at]; rfl
  have er : zrw (rr0 s) 0 = 0 := by unfold zrw; rw [e]; exact nI_clamp (by omega)
  refine ⟨⟨Nat.le_refl _, by show 1 ≤ 100; omega⟩, er, fun i hi => ?_, fun i hi => ?_, Nat.le_refl _, Nat.zero_le _⟩
  · have hi : i < 1 := hi
    have h0 : i = 0 := by omega
    subst h0
    rw [er]; exact ⟨e, hN⟩
  · have hi : i + 1 < 1 := hi
    omega
noncomputable def rrt (G : ZGT) (N : ZNM) (p : Int32) (md len : Nat) (inp : Nat → Nat) (s : SM) : ZRT := zrt G N p md len inp 301 (3, rr0 s, (rr0 s).1 0, (rr0 s).2 0)
set_option maxHeartbeats 1000000 in
theorem m_readAll (hG : ZGM G u) (hF : ZNF G N) (hk3 : kd < 3) (hA : RAu G (zE0 G) (zF0 G) kd p N u) (hmd3 : md < 3) (hlen : u.1 57 = nI len) (hl24 : len ≤ 25) (hinp : ∀ i, i < len → u.2.1 56 i = nI (inp i)) (hi : ∀ i, i < len → inp i ≤ zgT G ∨ inp i = 99) :
    EvQ ZR mX12_readAll [.ref 0, .int (nI kd), .int (nI md)] u (fun x v => x = some (.int (nI (rrt G N p md len inp u).1)) ∧ RRd (rrt G N p md len inp u).2.1 v ∧ RKp (rrt G N p md len inp u).2.2 v ∧ frM [62, 63, 64, 65, 71] [58, 59, 60, 61, 66, 67, 68, 69, 70] u v) := by
  have hb := hG.b
  have hN1 := hF.1
  have W0 : ZRW N (rr0 u) := rr0_W hN1.1 u
  refine EQ_V vX12_readAll rfl ?_
  refine RQ_n ZR_ok 1 rfl trivial ?_
  have hsr : EvQ ZR mX12_startRow [.ref 0] u (fun x v => x = none ∧ RRd (rr0 u) v ∧ RKp ((rr0 u).1 0, (rr0 u).2 0) v ∧ frM [62, 63, 64, 65, 71] [58, 70] u v) := by
    refine EQ_V vX12_startRow rfl ?_
    refine RQ_n ZR_ok 4 rfl trivial ?_
    refine RQ_n ZR_ok 1 rfl ⟨nI_in (c := 0) (by omega) (by omega), trivial⟩ ?_
    refine RQ_n ZR_ok 13 rfl trivial ?_
    obtain ⟨v1, hv1⟩ : ∃ x : SM, x = (updS (updS (updS (updS u.1 62 1) 63 0) 64 0) 65 0, updA u.2.1 58 0 0, u.2.2) := ⟨_, rfl⟩
    show RnQ ZR mX12_startRow (28, _, _, ((updS (updS (updS (updS u.1 62 1) 63 0) 64 0) 65 0, updA u.2.1 58 0 0, u.2.2) : SM)) _
    rw [← hv1]
    have f1 : frM [62, 63, 64, 65, 71] [58, 70] u v1 := by
      rw [hv1]
      exact ((((frM.a 58 (by decide)).tr (frM.i (s := (u.1, updA u.2.1 58 0 0, u.2.2)) 62 (by decide))).tr (frM.i (s := (updS u.1 62 1, updA u.2.1 58 0 0, u.2.2)) 63 (by decide))).tr (frM.i (s := (updS (updS u.1 62 1) 63 0, updA u.2.1 58 0 0, u.2.2)) 64 (by decide))).tr (frM.i (s := (updS (updS (updS u.1 62 1) 63 0) 64 0, updA u.2.1 58 0 0, u.2.2)) 65 (by decide))
    have R1 : RRd (rr0 u) v1 := by rw [hv1]; exact ⟨⟨rfl, rfl, rfl, rfl⟩, rfl, rfl, rfl, rfl, rfl, rfl, rfl, rfl⟩
    refine RQ_V vX12_keepRow (m_keepRow R1 W0.1.2) rfl k12_479 rfl rfl rfl rfl (fun _ _ _ => rfl) (fun r2 v2 h2 => ?_)
    obtain ⟨rfl, R2, K2, f2⟩ := h2
    exact RQ_to (Rn_vret rfl rfl) ⟨rfl, R2, K2, f1.tr (f2.up (by decide) (by decide))⟩
  refine RQ_V vX12_startRow hsr rfl k12_488 rfl rfl rfl rfl (fun _ _ _ => rfl) (fun r2 u2 h2 => ?_)
  obtain ⟨rfl, R2, K2, f2⟩ := h2
  refine RQ_n ZR_ok 2 rfl trivial ?_
  have key : ∀ n R v, R.1 ≤ 4 → (3 ≤ R.1 → R.2.1.1 1 + n = 301) → ZRI N R → zrt G N p md len inp n R = rrt G N p md len inp u → RRd R.2.1 v → RKp R.2.2 v → frM [62, 63, 64, 65, 71] [58, 59, 60, 61, 66, 67, 68, 69, 70] u v → RnQ ZR mX12_readAll (6, [some (.ref 0), some (.int (nI kd)), some (.int (nI md)), some (.int (nI R.1))], [], v) (fun x v => x = some (.int (nI (rrt G N p md len inp u).1)) ∧ RRd (rrt G N p md len inp u).2.1 v ∧ RKp (rrt G N p md len inp u).2.2 v ∧ frM [62, 63, 64, 65, 71] [58, 59, 60, 61, 66, 67, 68, 69, 70] u v) := by
    -- the end
    have done : ∀ R v, R.1 < 3 → R = rrt G N p md len inp u → RRd R.2.1 v → RKp R.2.2 v → frM [62, 63, 64, 65, 71] [58, 59, 60, 61, 66, 67, 68, 69, 70] u v → RnQ ZR mX12_readAll (6, [some (.ref 0), some (.int (nI kd)), some (.int (nI md)), some (.int (nI R.1))], [], v) (fun x v => x = some (.int (nI (rrt G N p md len inp u).1)) ∧ RRd (rrt G N p md len inp u).2.1 v ∧ RKp (rrt G N p md len inp u).2.2 v ∧ frM [62, 63, 64, 65, 71] [58, 59, 60, 61, 66, 67, 68, 69, 70] u v) := by
      intro R v hlt he hX hK hf
      refine RQ_n ZR_ok 2 rfl trivial ?_
      refine RQ_b rfl (fun z => ?_) (fun _ => ?_)
      · have := (zq_eq (a := R.1) (b := 3) rfl rfl (by omega) (by omega)).mp z
        omega
      refine RQ_n ZR_ok 2 rfl trivial ?_
      refine RQ_b rfl (fun _ => ?_) (fun z => ?_)
      · refine RQ_n ZR_ok 1 rfl trivial ?_
        exact RQ_to (Rn_iret rfl rfl) ⟨by rw [← he], by rw [← he]; exact hX, by rw [← he]; exact hK, hf⟩
      · have := (zq_eq (a := R.1) (b := 4) rfl rfl (by omega) (by omega)).mp (Classical.not_not.mp z)
        omega
    intro n
    induction n with
    | zero =>
      intro R v hle hst hI he hX hK hf
      have hlt : R.1 < 3 := (zrt_end (p := p) (md := md) hG.1 hF hi 0 R hI hst).1
      exact done R v hlt he hX hK hf
    | succ n ih =>
      intro R v hle hst hI he hX hK hf
      by_cases y : R.1 < 3
      · rw [zrt, if_pos y] at he
        exact done R v y he hX hK hf
      rw [zrt, if_neg y] at he
      have Gv : ZGM G v := hG.fr hf rfl
      have Av : RAu G (zE0 G) (zF0 G) kd p N v := by
        unfold RAu RMn RSt mK mC at hA ⊢
        rw [hf.2.1 38 (by decide), hf.2.1 39 (by decide), hf.2.1 40 (by decide), hf.2.1 41 (by decide), hf.2.1 42 (by decide), hf.2.1 43 (by decide), hf.2.1 44 (by decide)]
        exact hA
      have e64 : v.1 64 = nI (R.2.1.1 2) := hX.1.2.2.1
      have e57 : v.1 57 = nI len := (hf.1 57 (by decide)).trans hlen
      have htk := znx_ok (G := G) hi R.2.1
      obtain ⟨tk, htke⟩ : ∃ tk, tk = znx G len inp R.2.1 := ⟨_, rfl⟩
      rw [← htke] at htk
      have hrd : R.2.1.1 2 < 2 ^ 31 := by have h1 := hI.2.2; have h2 := hI.1.2.2.2.2.2; omega
      have p46 : RnQ ZR mX12_readAll (46, [some (.ref 0), some (.int (nI kd)), some (.int (nI md)), some (.int (nI R.1))], [.int (nI tk), .int (nI md), .int (nI kd), .ref 0], v) (fun x v => x = some (.int (nI (rrt G N p md len inp u).1)) ∧ RRd (rrt G N p md len inp u).2.1 v ∧ RKp (rrt G N p md len inp u).2.2 v ∧ frM [62, 63, 64, 65, 71] [58, 59, 60, 61, 66, 67, 68, 69, 70] u v) := by
        refine RQ_V vX12_actOnce (m_actOnce (p := p) Gv hF hk3 Av hmd3 hX hI.1 htk) rfl k12_494 rfl rfl rfl rfl (fun _ _ _ => rfl) (fun r5 v5 h5 => ?_)
        obtain ⟨rfl, R5, f5⟩ := h5
        obtain ⟨a1, a2⟩ := zrt1_I (p := p) (md := md) hG.1 hF hi hI
        have hle' : (zrt1 G N p md len inp R).1 ≤ 4 := by show (zr1 _).1 ≤ 4; rw [zr1_1]; exact zao_le
        have hst' : 3 ≤ (zrt1 G N p md len inp R).1 → (zrt1 G N p md len inp R).2.1.1 1 + n = 301 := fun z => by rw [a2 z]; have := hst (by omega); omega
        obtain ⟨e, hee⟩ : ∃ e, e = (zao G N p md tk R.2.1).1 := ⟨_, rfl⟩
        have he4 : e ≤ 4 := by rw [hee]; exact zao_le
        rw [← hee]
        have e1 : (zrt1 G N p md len inp R).1 = e := by show (zr1 _).1 = e; rw [zr1_1, ← htke, hee]
        have U5 := hf.tr (f5.up (by decide) (by decide))
        have R5' : RRd (zrt1 G N p md len inp R).2.1 v5 := by unfold zrt1; rw [← htke]; exact R5
        have K5 : RKp R.2.2 v5 := ⟨(f5.1 71 (by decide)).trans hK.1, fun j hj => by rw [f5.2.1 70 (by decide)]; exact hK.2 j hj⟩
        refine RQ_n ZR_ok 3 rfl trivial ?_
        by_cases q : e = 4
        · refine RQ_b rfl (fun z => absurd ((zq_eq (a := e) (b := 4) rfl rfl (by omega) (by omega)).mpr q) z) (fun _ => ?_)
          refine RQ_n ZR_ok 1 rfl trivial ?_
          refine RQ_V vX12_keepRow (m_keepRow R5' a1.1.1.2) rfl k12_479 rfl rfl rfl rfl (fun _ _ _ => rfl) (fun r8 v8 h8 => ?_)
          obtain ⟨rfl, R8, K8, f8⟩ := h8
          refine RQ_n ZR_ok 1 rfl trivial ?_
          rw [← e1]
          refine ih _ v8 hle' hst' a1 he R8 ?_ (U5.tr (f8.up (by decide) (by decide)))
          have : (zrt1 G N p md len inp R).2.2 = ((zrt1 G N p md len inp R).2.1.1 0, (zrt1 G N p md len inp R).2.1.2 0) := by
            unfold zrt1
            dsimp only
            rw [if_pos (by rw [zr1_1, ← htke, ← hee]; exact q)]
          rw [this]; exact K8
        · refine RQ_b rfl (fun _ => ?_) (fun z => absurd ((zq_eq (a := e) (b := 4) rfl rfl (by omega) (by omega)).mp (Classical.not_not.mp z)) q)
          rw [← e1]
          refine ih _ v5 hle' hst' a1 he R5' ?_ U5
          have : (zrt1 G N p md len inp R).2.2 = R.2.2 := by
            unfold zrt1
            dsimp only
            rw [if_neg (by rw [zr1_1, ← htke, ← hee]; exact q)]
          rw [this]; exact K5
      have p16 : RnQ ZR mX12_readAll (16, [some (.ref 0), some (.int (nI kd)), some (.int (nI md)), some (.int (nI R.1))], [], v) (fun x v => x = some (.int (nI (rrt G N p md len inp u).1)) ∧ RRd (rrt G N p md len inp u).2.1 v ∧ RKp (rrt G N p md len inp u).2.2 v ∧ frM [62, 63, 64, 65, 71] [58, 59, 60, 61, 66, 67, 68, 69, 70] u v) := by
        refine RQ_n ZR_ok 7 rfl trivial ?_
        rw [e64, e57]
        by_cases q : R.2.1.1 2 < len
        · refine RQ_b rfl (fun z => ?_) (fun _ => ?_)
          · have := (zq_le (a := len) (b := R.2.1.1 2) rfl rfl (by omega) (by omega)).mp z
            omega
          refine RQ_n ZR_ok 4 rfl trivial ?_
          rw [e64]
          refine RQ_n ZR_ok 1 rfl ⟨nI_in (by omega) (by omega), trivial⟩ ?_
          rw [nI_clamp (show R.2.1.1 2 < 2 ^ 31 by omega), show v.2.1 56 (R.2.1.1 2) = nI tk by rw [hf.2.1 56 (by decide), hinp _ q, htke]; unfold znx; rw [if_pos q]]
          refine RQ_n ZR_ok 1 rfl trivial ?_
          exact p46
        · refine RQ_b rfl (fun _ => ?_) (fun z => absurd ((zq_le (a := len) (b := R.2.1.1 2) rfl rfl (by omega) (by omega)).mpr (by omega)) z)
          refine RQ_n ZR_ok 2 rfl trivial ?_
          rw [Gv.2.1.2.2, show zgT G = tk by rw [htke]; unfold znx; rw [if_neg q]]
          exact p46
      refine RQ_n ZR_ok 2 rfl trivial ?_
      refine RQ_b rfl (fun _ => p16) (fun z => ?_)
      have z : ¬ R.1 = 3 := fun q => z ((zq_eq (a := R.1) (b := 3) rfl rfl (by omega) (by omega)).mpr q)
      refine RQ_n ZR_ok 2 rfl trivial ?_
      refine RQ_b rfl (fun q => absurd ((zq_eq (a := R.1) (b := 4) rfl rfl (by omega) (by omega)).mpr (by omega)) q) (fun _ => p16)
  exact key 301 _ u2 (show 3 ≤ 4 by omega) (fun _ => rfl) ⟨W0, W0.k, Nat.zero_le _⟩ rfl R2 K2 (f2.up (by decide) (by decide))
/-- the two begin alike -/
theorem xr_eq (s : SX) (t : SM) : EqT (3, xr0 s, (xr0 s).1 0, (xr0 s).2 0) (3, rr0 t, (rr0 t).1 0, (rr0 t).2 0) := by
  have e0 : ∀ i, i < 1 → (xr0 s).2 0 i = (rr0 t).2 0 i := fun i hi => by
    have : i = 0 := by omega
    subst this
    show upd (s.2.1 89) 0 (nI 0) 0 = upd (t.2.1 58) 0 0 0
    rw [upd_at, upd_at]; rfl
  refine ⟨rfl, ⟨fun c hc => ?_, fun i hi => e0 i hi, fun i h1 hi => ?_, fun i hi => ?_⟩, fun _ i h1 hi => ?_, rfl, fun i hi => e0 i hi⟩
  · show updN (fun _ => 0) 0 (0 + 1) c = updN (fun _ => 0) 0 1 c
    rfl
  · have hi : i < 1 := hi
    omega
  · have hi : i < 0 := hi
    omega
  · have hi : i < 1 := hi
    omega
theorem xr_rr (hG : GW G) (hF : ZNF G N) (hi : ∀ i, i < len → inp i ≤ zgT G ∨ inp i = 99) (s : SX) (t : SM) : EqT (xrt G N p md len inp s) (rrt G N p md len inp t) := zrt_eq hG hF hi 301 _ _ ⟨zph0_W hF.1.1 _, (zph0_W hF.1.1 _).k, Nat.zero_le _⟩ ⟨rr0_W hF.1.1 t, (rr0_W hF.1.1 t).k, Nat.zero_le _⟩ (xr_eq s t)
end MRun
