/-! The reference: newState, addLooks, goThrough. -/
/-- other kinds are as they were -/
def oKd (kd : Nat) (u v : SM) : Prop := (∀ j, (j < 20400 * kd ∨ 20400 * (kd + 1) ≤ j) → v.2.1 38 j = u.2.1 38 j ∧ v.2.1 39 j = u.2.1 39 j) ∧ (∀ j, (j < 2800 * kd ∨ 2800 * (kd + 1) ≤ j) → v.2.1 40 j = u.2.1 40 j) ∧ ∀ j, j ≠ kd → v.2.1 44 j = u.2.1 44 j
theorem oKd.rf {kd : Nat} {u : SM} : oKd kd u u := ⟨fun _ _ => ⟨rfl, rfl⟩, fun _ _ => rfl, fun _ _ => rfl⟩
theorem oKd.tr {kd : Nat} {u v w : SM} (h : oKd kd u v) (k : oKd kd v w) : oKd kd u w := ⟨fun j hj => ⟨(k.1 j hj).1.trans (h.1 j hj).1, (k.1 j hj).2.trans (h.1 j hj).2⟩, fun j hj => (k.2.1 j hj).trans (h.2.1 j hj), fun j hj => (k.2.2 j hj).trans (h.2.2 j hj)⟩
theorem oKd.fr {kd : Nat} {u v : SM} {ks as : List Nat} (f : frM ks as u v) (h1 : 38 ∉ as) (h2 : 39 ∉ as) (h3 : 40 ∉ as) (h4 : 44 ∉ as) : oKd kd u v := ⟨fun j _ => ⟨by rw [f.2.1 38 h1], by rw [f.2.1 39 h2]⟩, fun j _ => by rw [f.2.1 40 h3], fun j _ => by rw [f.2.1 44 h4]⟩
set_option maxHeartbeats 1000000 in
theorem m_newState {u : SM} {kd : Nat} {A : ZAS} (hk : kd < 3) (h : RMa kd A u) (hm : A.1 < 200) (hq : ∀ x, x ∈ A.2.2.2 → x < A.1) (hn : A.2.2.2.Nodup) : EvQ ZR mX12_newState [.ref 0, .int (nI kd)] u (fun x v => x = some (.int (nI A.1)) ∧ RMa kd (A.1 + 1, zKU A.2.1 A.1 (u.2.1 45), (fun s' b' => if s' = A.1 then none else A.2.2.1 s' b'), A.2.2.2 ++ [A.1]) v ∧ frM [48] [38, 40, 44, 46, 47] u v ∧ oKd kd u v) := by
  obtain ⟨m, K, go, q⟩ := A
  obtain ⟨h44, hK, hg, hQ⟩ := h
  dsimp only at h44 hK hg hQ hm hq hn ⊢
  have hkc : (nI kd).toNatClampNeg = kd := nI_clamp (by omega)
  have hin3 : vp_in (nI kd) 3 := nI_in (by omega) (by omega)
  have hrow := mrow_lt hk hm
  refine EQ_V vX12_newState rfl ?_
  refine RQ_n ZR_ok 5 rfl ⟨hin3, trivial⟩ ?_
  rw [hkc, h44]
  refine RQ_n ZR_ok 2 rfl trivial ?_
  refine RQ_b rfl (fun _ => ?_) (fun z => absurd ((zq_eq (a := m) (b := 200) rfl rfl (by omega) (by omega)).mp (Classical.not_not.mp z)) (by omega))
  refine RQ_n ZR_ok 10 rfl ⟨hin3, hin3, trivial⟩ ?_
  rw [hkc, h44, nI_1]
  obtain ⟨u1, hu1⟩ : ∃ u1 : SM, u1 = (u.1, updA u.2.1 44 kd (nI (m + 1)), u.2.2) := ⟨_, rfl⟩
  rw [← hu1]
  have f1 : frM [] [44] u u1 := by rw [hu1]; exact frM.a 44 (by decide)
  have e44 : u1.2.1 44 = upd (u.2.1 44) kd (nI (m + 1)) := by rw [hu1]; rfl
  -- the queue
  have third : ∀ v : SM, frM [] [38, 40, 44] u v → oKd kd u v → v.2.1 44 kd = nI (m + 1) → (∀ s, s < m + 1 → ∀ i, i < 102 → mK kd v s i = zKU K m (u.2.1 45) s i) → (∀ s, s < m + 1 → ∀ b, b < 14 → v.2.1 40 (14 * (200 * kd + s) + b) = fI (if s = m then none else go s b)) → RnQ ZR mX12_newState (90, [some (.ref 0), some (.int (nI kd)), some (.int (nI m)), none], [], v) (fun x v => x = some (.int (nI m)) ∧ RMa kd (m + 1, zKU K m (u.2.1 45), (fun s' b' => if s' = m then none else go s' b'), q ++ [m]) v ∧ frM [48] [38, 40, 44, 46, 47] u v ∧ oKd kd u v) := by
    intro v hf ho h44' hK' hg'
    have hmc : (nI m).toNatClampNeg = m := nI_clamp (by omega)
    refine RQ_n ZR_ok 7 rfl ⟨nI_in (by omega) (by omega), trivial⟩ ?_
    rw [hmc]
    obtain ⟨w, hw⟩ : ∃ w : SM, w = (v.1, updA v.2.1 47 m (vp_nar FieldType.boolean 0), v.2.2) := ⟨_, rfl⟩
    rw [← hw]
    have fw : frM [] [47] v w := by rw [hw]; exact frM.a 47 (by decide)
    have e47 : w.2.1 47 = upd (v.2.1 47) m 0 := by rw [hw]; rfl
    have hQw : RQu (m + 1) q w := by
      obtain ⟨q1, q2, q3⟩ := hQ
      refine ⟨by rw [fw.1 48 (by decide), hf.1 48 (by decide)]; exact q1, fun j hj => by rw [fw.2.1 46 (by decide), hf.2.1 46 (by decide)]; exact q2 j hj, fun x hx => ?_⟩
      rw [e47]
      by_cases y : x = m
      · subst y
        rw [upd_at, zcB_f (fun z => by have := hq x z; omega)]
        rfl
      · rw [upd_ne y, hf.2.1 47 (by decide)]; exact q3 x (by omega)
    refine RQ_V vX12_enqueue (m_enqueue hQw (s := m) (by omega) (by omega) hn (fun x hx => by have := hq x hx; omega)) rfl k12_377 rfl rfl rfl rfl (fun _ _ _ => rfl) (fun r1 t ht => ?_)
    obtain ⟨rfl, t1, t2⟩ := ht
    rw [zcB_f (fun z => by have := hq m z; omega), if_neg (by decide)] at t1
    refine RQ_n ZR_ok 1 rfl trivial ?_
    have fvt : frM [48] [46, 47] v t := (fw.up (by decide) (by decide)).tr (t2.up (by decide) (by decide))
    refine RQ_to (Rn_iret rfl rfl) ⟨rfl, ⟨?_, fun s hs i hi => ?_, fun s hs b hb => ?_, t1⟩, (hf.up (by decide) (by decide)).tr (fvt.up (by decide) (by decide)), ho.tr (oKd.fr fvt (by decide) (by decide) (by decide) (by decide))⟩
    · rw [fvt.2.1 44 (by decide)]; exact h44'
    · show t.2.1 38 (mrow kd s + i) = _
      rw [fvt.2.1 38 (by decide)]; exact hK' s hs i hi
    · rw [fvt.2.1 40 (by decide)]; exact hg' s hs b hb
  -- where it goes
  have second : ∀ v : SM, frM [] [38, 44] u v → oKd kd u v → v.2.1 44 kd = nI (m + 1) → (∀ s, s < m + 1 → ∀ i, i < 102 → mK kd v s i = zKU K m (u.2.1 45) s i) → RnQ ZR mX12_newState (58, [some (.ref 0), some (.int (nI kd)), some (.int (nI m)), none], [], v) (fun x v => x = some (.int (nI m)) ∧ RMa kd (m + 1, zKU K m (u.2.1 45), (fun s' b' => if s' = m then none else go s' b'), q ++ [m]) v ∧ frM [48] [38, 40, 44, 46, 47] u v ∧ oKd kd u v) := by
    intro v hf ho h44' hK'
    refine RQ_n ZR_ok 2 rfl trivial ?_
    refine loopU 14 (fun b (_ : Unit) => [some (.ref 0), some (.int (nI kd)), some (.int (nI m)), some (.int (nI b))]) (fun b _ w => frM [] [40] v w ∧ (∀ j, j < b → w.2.1 40 (14 * (200 * kd + m) + j) = -1) ∧ ∀ j, (j < 14 * (200 * kd + m) ∨ 14 * (200 * kd + m) + 14 ≤ j) → w.2.1 40 j = v.2.1 40 j) ?_ 0 () v (by omega) ⟨frM.rf, fun j hj => (by omega), fun _ _ => rfl⟩
    intro b _ w hb hJ ih
    obtain ⟨g1, g2, g3⟩ := hJ
    refine RQ_n ZR_ok 2 rfl trivial ?_
    refine RQ_b rfl (fun z => ?_) (fun z => ?_)
    · have z := (zq_le (a := 14) (b := b) rfl rfl (by omega) (by omega)).mp z
      refine RQ_le (l' := [some (.ref 0), some (.int (nI kd)), some (.int (nI m)), none]) ⟨rfl, rfl, rfl, trivial⟩ (third w ((hf.up (by decide) (by decide)).tr (g1.up (by decide) (by decide))) ?_ ?_ ?_ ?_)
      · refine ⟨fun j hj => ?_, fun j hj => ?_, fun j hj => ?_⟩
        · rw [g1.2.1 38 (by decide), g1.2.1 39 (by decide)]; exact ho.1 j hj
        · rw [g3 j (by omega)]; exact ho.2.1 j hj
        · rw [g1.2.1 44 (by decide)]; exact ho.2.2 j hj
      · rw [g1.2.1 44 (by decide)]; exact h44'
      · intro s hs i hi
        show w.2.1 38 (mrow kd s + i) = _
        rw [g1.2.1 38 (by decide)]; exact hK' s hs i hi
      · intro s hs b' hb'
        by_cases y : s = m
        · subst y; rw [g2 b' (by omega), if_pos rfl]; rfl
        · rw [g3 _ (by omega), hf.2.1 40 (by decide), if_neg y]
          exact hg s (by omega) b' hb'
    have z := (not_congr (zq_le (a := 14) (b := b) rfl rfl (by omega) (by omega))).mp z
    have e1 : (14 : Int32) * (200 * nI kd + nI m) + nI b = nI (14 * (200 * kd + m) + b) := by rw [show (14 : Int32) = nI 14 from rfl, show (200 : Int32) = nI 200 from rfl, nI_mul, nI_add, nI_mul, nI_add]
    refine RQ_n ZR_ok 12 rfl trivial ?_
    rw [e1]
    refine RQ_n ZR_ok 3 rfl ⟨nI_in (by omega) (by omega), trivial⟩ ?_
    rw [nI_clamp (show 14 * (200 * kd + m) + b < 2 ^ 31 by omega)]
    refine ih (by omega) () _ _ ⟨rfl, rfl, rfl, nIs b, trivial⟩ ⟨g1.tr (frM.a 40 (by decide)), fun j hj => ?_, fun j hj => ?_⟩
    · show upd (w.2.1 40) (14 * (200 * kd + m) + b) (-1) (14 * (200 * kd + m) + j) = _
      by_cases y : j = b
      · subst y; rw [upd_at]
      · rw [upd_ne (by omega)]; exact g2 j (by omega)
    · show upd (w.2.1 40) (14 * (200 * kd + m) + b) (-1) j = _
      rw [upd_ne (by omega)]; exact g3 j hj
  -- its kernel
  refine loopU 102 (fun i (_ : Unit) => [some (.ref 0), some (.int (nI kd)), some (.int (nI m)), some (.int (nI i))]) (fun i _ w => frM [] [38] u1 w ∧ (∀ j, j < i → mK kd w m j = u.2.1 45 j) ∧ ∀ j, (j < mrow kd m ∨ mrow kd m + 102 ≤ j) → w.2.1 38 j = u.2.1 38 j) ?_ 0 () u1 (by omega) ⟨frM.rf, fun j hj => (by omega), fun _ _ => (by rw [f1.2.1 38 (by decide)])⟩
  intro i _ w hi hJ ih
  obtain ⟨g1, g2, g3⟩ := hJ
  refine RQ_n ZR_ok 2 rfl trivial ?_
  refine RQ_b rfl (fun z => ?_) (fun z => ?_)
  · have z := (zq_le (a := 102) (b := i) rfl rfl (by omega) (by omega)).mp z
    have f2 : frM [] [38, 44] u w := (f1.up (by decide) (by decide)).tr (g1.up (by decide) (by decide))
    refine RQ_le (l' := [some (.ref 0), some (.int (nI kd)), some (.int (nI m)), none]) ⟨rfl, rfl, rfl, trivial⟩ (second w f2 ?_ ?_ ?_)
    · refine ⟨fun j hj => ⟨g3 j ?_, by rw [f2.2.1 39 (by decide)]⟩, fun j hj => by rw [f2.2.1 40 (by decide)], fun j hj => ?_⟩
      · unfold mrow; omega
      · rw [g1.2.1 44 (by decide), e44, upd_ne hj]
    · rw [g1.2.1 44 (by decide), e44, upd_at]
    · intro s hs j hj
      unfold zKU
      by_cases y : s = m
      · subst y; rw [if_pos rfl]; exact g2 j (by omega)
      · rw [if_neg y]
        show w.2.1 38 (mrow kd s + j) = _
        rw [g3 _ (by unfold mrow; omega)]
        exact hK s (by omega) j hj
  have z := (not_congr (zq_le (a := 102) (b := i) rfl rfl (by omega) (by omega))).mp z
  refine RQ_n ZR_ok 4 rfl trivial ?_
  refine RQ_s vX12_rowOf (e_rowOf w kd m) rfl k12_352 rfl rfl rfl rfl ?_
  have hrc : nI (mrow kd m) + nI i = nI (mrow kd m + i) := nI_add _ _
  have hic : (nI (mrow kd m + i)).toNatClampNeg = mrow kd m + i := nI_clamp (by omega)
  refine RQ_n ZR_ok 2 rfl trivial ?_
  rw [hrc]
  refine RQ_n ZR_ok 7 rfl ⟨nI_in (by omega) (by omega), nI_in (by omega) (by omega), trivial⟩ ?_
  rw [hic, nI_clamp (show i < 2 ^ 31 by omega)]
  have e45 : w.2.1 45 = u.2.1 45 := by rw [g1.2.1 45 (by decide), f1.2.1 45 (by decide)]
  refine ih (by omega) () _ _ ⟨rfl, rfl, rfl, nIs i, trivial⟩ ⟨g1.tr (frM.a 38 (by decide)), fun j hj => ?_, fun j hj => ?_⟩
  · show upd (w.2.1 38) (mrow kd m + i) (w.2.1 45 i) (mrow kd m + j) = _
    by_cases y : j = i
    · subst y; rw [upd_at, e45]
    · rw [upd_ne (by omega)]; exact g2 j (by omega)
  · show upd (w.2.1 38) (mrow kd m + i) (w.2.1 45 i) j = _
    rw [upd_ne (by omega)]; exact g3 j hj
theorem m_newState_no {u : SM} {kd : Nat} (hk : kd < 3) (h44 : u.2.1 44 kd = nI 200) : Ev ZR mX12_newState [.ref 0, .int (nI kd)] u (some (.int (-1))) u := by
  have hkc : (nI kd).toNatClampNeg = kd := nI_clamp (by omega)
  refine Ev_V vX12_newState rfl ?_
  refine Rn_n ZR_ok 5 rfl ⟨nI_in (by omega) (by omega), trivial⟩ ?_
  rw [hkc, h44]
  refine Rn_n ZR_ok 2 rfl trivial ?_
  refine Rn_b rfl (fun z => absurd rfl z) (fun _ => ?_)
  refine Rn_n ZR_ok 1 rfl trivial ?_
  exact Rn_iret rfl rfl
set_option maxHeartbeats 1000000 in
theorem m_addLooks {u : SM} {kd t : Nat} {A : ZAS} (hk : kd < 3) (h : RMa kd A u) (hm : A.1 ≤ 200) (ht : t < A.1) (hq : ∀ x, x ∈ A.2.2.2 → x < A.1) (hn : A.2.2.2.Nodup) : EvQ ZR mX12_addLooks [.ref 0, .int (nI kd), .int (nI t)] u (fun x v => x = none ∧ RMa kd (A.1, zKU A.2.1 t (fun i => A.2.1 t i ||| u.2.1 45 i), A.2.2.1, if zcB ((∃ i, i < 102 ∧ A.2.1 t i ||| u.2.1 45 i ≠ A.2.1 t i) ∧ t ∉ A.2.2.2) = true then A.2.2.2 ++ [t] else A.2.2.2) v ∧ frM [48] [38, 46, 47] u v ∧ oKd kd u v) := by
  obtain ⟨m, K, go, q⟩ := A
  obtain ⟨h44, hK, hg, hQ⟩ := h
  dsimp only at h44 hK hg hQ hm ht hq hn ⊢
  have hrow := mrow_lt hk (st := t) (by omega)
  refine EQ_V vX12_addLooks rfl ?_
  refine RQ_n ZR_ok 2 rfl trivial ?_
  refine RQ_s vX12_rowOf (e_rowOf u kd t) rfl k12_352 rfl rfl rfl rfl ?_
  refine RQ_n ZR_ok 5 rfl trivial ?_
  refine loopU 102 (fun i (x : Bool) => [some (.ref 0), some (.int (nI kd)), some (.int (nI t)), some (.int (nI (mrow kd t))), some (.int (bI x)), some (.int (nI i)), none]) (fun i x w => frM [] [38] u w ∧ (∀ j, j < 102 → mK kd w t j = if j < i then K t j ||| u.2.1 45 j else K t j) ∧ (∀ j, (j < mrow kd t ∨ mrow kd t + 102 ≤ j) → w.2.1 38 j = u.2.1 38 j) ∧ (x = true ↔ ∃ j, j < i ∧ K t j ||| u.2.1 45 j ≠ K t j)) ?_ 0 false u (by omega) ⟨frM.rf, fun j hj => (by rw [if_neg (by omega)]; exact hK t ht j hj), fun _ _ => rfl, ⟨fun z => (by cases z), fun z => (by obtain ⟨j, hj, -⟩ := z; omega)⟩⟩
  intro i x w hi hJ ih
  obtain ⟨g1, g2, g3, g4⟩ := hJ
  refine RQ_n ZR_ok 2 rfl trivial ?_
  refine RQ_b rfl (fun z => ?_) (fun z => ?_)
  · have z := (zq_le (a := 102) (b := i) rfl rfl (by omega) (by omega)).mp z
    have : i = 102 := by omega
    subst this
    have hKw : ∀ s, s < m → ∀ j, j < 102 → mK kd w s j = zKU K t (fun i => K t i ||| u.2.1 45 i) s j := by
      intro s hs j hj
      unfold zKU
      by_cases y : s = t
      · subst y; rw [if_pos rfl, g2 j hj, if_pos hj]
      · rw [if_neg y]
        show w.2.1 38 (mrow kd s + j) = _
        rw [g3 _ (by unfold mrow; omega)]
        exact hK s hs j hj
    have how : oKd kd u w := ⟨fun j hj => ⟨g3 j (by unfold mrow; omega), by rw [g1.2.1 39 (by decide)]⟩, fun j hj => by rw [g1.2.1 40 (by decide)], fun j hj => by rw [g1.2.1 44 (by decide)]⟩
    have hQw : RQu m q w := ⟨by rw [g1.1 48 (by decide)]; exact hQ.1, fun j hj => by rw [g1.2.1 46 (by decide)]; exact hQ.2.1 j hj, fun s hs => by rw [g1.2.1 47 (by decide)]; exact hQ.2.2 s hs⟩
    refine RQ_n ZR_ok 1 rfl trivial ?_
    refine RQ_b rfl (fun z2 => ?_) (fun z2 => ?_)
    · have z2 := bI_0.mp z2
      have hno : ¬ ((∃ i, i < 102 ∧ K t i ||| u.2.1 45 i ≠ K t i) ∧ t ∉ q) := fun y => by rw [g4.mpr y.1] at z2; cases z2
      refine RQ_to (Rn_vret rfl rfl) ⟨rfl, ?_, g1.up (by decide) (by decide), how⟩
      rw [zcB_f hno, if_neg (by decide)]
      exact ⟨by rw [g1.2.1 44 (by decide)]; exact h44, hKw, fun s hs b hb => by rw [g1.2.1 40 (by decide)]; exact hg s hs b hb, hQw⟩
    · have z2 := g4.mp (bI_t z2)
      refine RQ_n ZR_ok 2 rfl trivial ?_
      refine RQ_V vX12_enqueue (m_enqueue hQw ht hm hn hq) rfl k12_377 rfl rfl rfl rfl (fun _ _ _ => rfl) (fun r1 v hv => ?_)
      obtain ⟨rfl, v1, v2⟩ := hv
      have heq : (if zcB (t ∈ q) = true then q else q ++ [t]) = if zcB ((∃ i, i < 102 ∧ K t i ||| u.2.1 45 i ≠ K t i) ∧ t ∉ q) = true then q ++ [t] else q := by
        by_cases y : t ∈ q
        · rw [zcB_t y, if_pos rfl, zcB_f (fun w => w.2 y), if_neg (by decide)]
        · rw [zcB_f y, if_neg (by decide), zcB_t ⟨z2, y⟩, if_pos rfl]
      rw [heq] at v1
      refine RQ_to (Rn_vret rfl rfl) ⟨rfl, ⟨?_, fun s hs j hj => ?_, fun s hs b hb => ?_, v1⟩, (g1.up (by decide) (by decide)).tr (v2.up (by decide) (by decide)), how.tr (oKd.fr v2 (by decide) (by decide) (by decide) (by decide))⟩
      · rw [v2.2.1 44 (by decide), g1.2.1 44 (by decide)]; exact h44
      · show v.2.1 38 (mrow kd s + j) = _
        rw [v2.2.1 38 (by decide)]; exact hKw s hs j hj
      · rw [v2.2.1 40 (by decide), g1.2.1 40 (by decide)]; exact hg s hs b hb
  have z := (not_congr (zq_le (a := 102) (b := i) rfl rfl (by omega) (by omega))).mp z
  have hrc : nI (mrow kd t) + nI i = nI (mrow kd t + i) := nI_add _ _
  have hic : (nI (mrow kd t + i)).toNatClampNeg = mrow kd t + i := nI_clamp (by omega)
  have hin38 : vp_in (nI (mrow kd t + i)) 61200 := nI_in (by omega) (by omega)
  have hin45 : vp_in (nI i) 102 := nI_in (by omega) (by omega)
  have hi45 : (nI i).toNatClampNeg = i := nI_clamp (by omega)
  have e45 : w.2.1 45 = u.2.1 45 := g1.2.1 45 (by decide)
  have eK : w.2.1 38 (mrow kd t + i) = K t i := by
    have := g2 i (by omega)
    rw [if_neg (by omega)] at this
    exact this
  refine RQ_n ZR_ok 5 rfl trivial ?_
  rw [hrc]
  refine RQ_n ZR_ok 7 rfl ⟨hin38, trivial⟩ ?_
  rw [hic, hrc]
  refine RQ_n ZR_ok 9 rfl ⟨hin38, hin45, hin38, trivial⟩ ?_
  rw [hic, hi45, e45, eK]
  obtain ⟨w', hw'⟩ : ∃ w' : SM, w' = (w.1, updA w.2.1 38 (mrow kd t + i) (K t i ||| u.2.1 45 i), w.2.2) := ⟨_, rfl⟩
  rw [← hw']
  have fw : frM [] [38] w w' := by rw [hw']; exact frM.a 38 (by decide)
  have h38 : w'.2.1 38 = upd (w.2.1 38) (mrow kd t + i) (K t i ||| u.2.1 45 i) := by rw [hw']; rfl
  have fin : ∀ g : Bool, (g = true ↔ x = true ∨ K t i ≠ K t i ||| u.2.1 45 i) → RnQ ZR mX12_addLooks (73, [some (.ref 0), some (.int (nI kd)), some (.int (nI t)), some (.int (nI (mrow kd t))), some (.int (bI x)), some (.int (nI i)), some (.int (K t i))], [.int (bI g)], w') (fun x v => x = none ∧ RMa kd (m, zKU K t (fun i => K t i ||| u.2.1 45 i), go, if zcB ((∃ i, i < 102 ∧ K t i ||| u.2.1 45 i ≠ K t i) ∧ t ∉ q) = true then q ++ [t] else q) v ∧ frM [48] [38, 46, 47] u v ∧ oKd kd u v) := by
    intro g hgi
    refine RQ_n ZR_ok 3 rfl trivial ?_
    refine ih (by omega) g _ _ ⟨rfl, rfl, rfl, rfl, rfl, nIs i, trivial⟩ ⟨g1.tr fw, fun j hj => ?_, fun j hj => ?_, ?_⟩
    · show w'.2.1 38 (mrow kd t + j) = _
      rw [h38]
      by_cases y : j = i
      · subst y; rw [upd_at, if_pos (by omega)]
      · rw [upd_ne (by omega)]
        have := g2 j hj
        unfold mK at this
        rw [this]
        by_cases y2 : j < i
        · rw [if_pos y2, if_pos (by omega)]
        · rw [if_neg y2, if_neg (by omega)]
    · rw [h38, upd_ne (by omega)]; exact g3 j hj
    · rw [hgi, g4]
      refine ⟨fun y => ?_, fun y => ?_⟩
      · rcases y with ⟨j, hj, hne⟩ | y
        · exact ⟨j, by omega, hne⟩
        · exact ⟨i, by omega, fun e => y e.symm⟩
      · obtain ⟨j, hj, hne⟩ := y
        by_cases e : j = i
        · subst e; exact Or.inr (fun e => hne e.symm)
        · exact Or.inl ⟨j, by omega, hne⟩
  refine RQ_b rfl (fun z2 => ?_) (fun z2 => ?_)
  · refine RQ_n ZR_ok 2 rfl trivial ?_
    exact fin true ⟨fun _ => Or.inl (bI_t z2), fun _ => rfl⟩
  have z2 := bI_0.mp (Classical.not_not.mp z2)
  refine RQ_n ZR_ok 6 rfl trivial ?_
  rw [hrc]
  refine RQ_n ZR_ok 1 rfl ⟨hin38, trivial⟩ ?_
  rw [hic]
  have e38 : w'.2.1 38 (mrow kd t + i) = K t i ||| u.2.1 45 i := by rw [h38, upd_at]
  rw [e38]
  refine RQ_b rfl (fun z3 => ?_) (fun z3 => ?_)
  · refine RQ_n ZR_ok 1 rfl trivial ?_
    exact fin false ⟨fun y => (by cases y), fun y => (by
      rcases y with y | y
      · rw [z2] at y; cases y
      · exact absurd z3 y)⟩
  · refine RQ_n ZR_ok 2 rfl trivial ?_
    exact fin true ⟨fun _ => Or.inr z3, fun _ => rfl⟩
