/-! The reference: layAutomaton's second half, what states do. -/
theorem RMn.fr {kd : Nat} {N : ZNM} {u v : SM} {ks as : List Nat} (h : RMn kd N u) (f : frM ks as u v) (h1 : 38 ∉ as) (h2 : 40 ∉ as) (h3 : 44 ∉ as) : RMn kd N v := by
  refine ⟨by rw [f.2.1 44 h3]; exact h.1, fun s hs i hi => ?_, fun s hs b hb => by rw [f.2.1 40 h2]; exact h.2.2 s hs b hb⟩
  show v.2.1 38 _ = _
  rw [f.2.1 38 h1]
  exact h.2.1 s hs i hi
-- METHOD X12_layAutomaton
set_option maxHeartbeats 2000000 in
theorem m_layAuto2 {G : ZGT} {u : SM} {E : Int32} {F : Nat → Int32} {kd : Nat} {N : ZNM} {x2 x3 x4 : Option Value} (h : ZGM G u) (hk : kd < 3) (hN : N.1 ≤ 200) (hgn : ∀ k b t, k < N.1 → b < 14 → N.2.2 k b = some t → t < 200) (hE : E = u.1 25) (hF : F = u.2.1 26) (hR : RMn kd N u) :
    RnQ ZR mX12_layAutomaton (107, [some (.ref 0), some (.int (nI kd)), x2, x3, x4], [], u) (fun x v => x = none ∧ RAu G E F kd (u.1 24) N v ∧ frM [] [39, 41, 42, 43] u v ∧ oKa kd u v) := by
  have hb := h.b
  obtain ⟨p, hp⟩ : ∃ p, p = u.1 24 := ⟨_, rfl⟩
  rw [← hp]
  refine RQ_le (l' := [some (.ref 0), some (.int (nI kd)), none, none, none]) ⟨rfl, rfl, trivial⟩ ?_
  refine RQ_n ZR_ok 2 rfl trivial ?_
  refine loopU N.1 (fun s (_ : Unit) => [some (.ref 0), some (.int (nI kd)), none, some (.int (nI s)), none]) (fun s _ w => (∀ k, k < s → RSt G E F kd p N k w) ∧ frM [] [39, 41, 42, 43] u w ∧ oKa kd u w) ?_ 0 () u (by omega) ⟨fun k hk => by omega, frM.rf, oKd.rf.a rfl rfl rfl⟩
  intro s _ w hs hJ ih
  obtain ⟨g1, g2, g3⟩ := hJ
  have hw : ZGM G w := h.fr g2 rfl
  have hRw : RMn kd N w := hR.fr g2 (by decide) (by decide) (by decide)
  refine RQ_n ZR_ok 4 rfl trivial ?_
  refine RQ_n ZR_ok 1 rfl ⟨nI_in (by omega) (by omega), trivial⟩ ?_
  rw [nI_clamp (show kd < 2 ^ 31 by omega), hRw.1]
  refine RQ_b rfl (fun z => ?_) (fun z => ?_)
  · have z := (zq_le (a := N.1) (b := s) rfl rfl (by omega) (by omega)).mp z
    have : s = N.1 := by omega
    subst this
    exact RQ_to (Rn_vret rfl rfl) ⟨rfl, ⟨hRw, g1⟩, g2, g3⟩
  have z := (not_congr (zq_le (a := N.1) (b := s) rfl rfl (by omega) (by omega))).mp z
  have hsn : s < N.1 := by omega
  have hs2 : s < 200 := by omega
  have hrow := mrow_lt hk hs2
  obtain ⟨C, hC⟩ : ∃ C, C = zcl G E F (N.2.1 s) := ⟨_, rfl⟩
  refine RQ_n ZR_ok 3 rfl trivial ?_
  refine RQ_V vX12_layClosure (m_layClosure hw hk hs2) rfl k12_380 rfl rfl rfl rfl (fun _ _ _ => rfl) (fun r1 v1 h1 => ?_)
  obtain ⟨rfl, a1, a2, a3⟩ := h1
  rw [g2.1 25 (by decide), ← hE, g2.2.1 26 (by decide), ← hF] at a1
  have a1' : zlC G E F (N.2.1 s) (mC (mrow kd s) v1) := zlC_cg (fun i hi => hRw.2.1 s hsn i hi) a1
  have hCm : ∀ i, i < 102 → mC (mrow kd s) v1 i = C i := fun i hi => by rw [hC]; exact (zcl_eq a1' hi).symm
  refine RQ_n ZR_ok 8 rfl trivial ?_
  have e2 : (200 : Int32) * nI kd + nI s = nI (200 * kd + s) := by rw [show (200 : Int32) = nI 200 from rfl, nI_mul, nI_add]
  rw [e2]
  refine RQ_n ZR_ok 1 rfl ⟨nI_in (by omega) (by omega), trivial⟩ ?_
  rw [nI_clamp (show 200 * kd + s < 2 ^ 31 by omega)]
  obtain ⟨v2, hv2⟩ : ∃ w1 : SM, w1 = (v1.1, updA v1.2.1 42 (200 * kd + s) 0, v1.2.2) := ⟨_, rfl⟩
  rw [← hv2]
  have f2 : frM [] [42] v1 v2 := by rw [hv2]; exact frM.a 42 (by decide)
  have h42 : v2.2.1 42 = upd (v1.2.1 42) (200 * kd + s) 0 := by rw [hv2]; rfl
  have F2 : frM [] [39, 42] w v2 := (a3.up (by decide) (by decide)).tr (f2.up (by decide) (by decide))
  have U2 : frM [] [39, 41, 42, 43] u v2 := g2.tr (F2.up (by decide) (by decide))
  refine RQ_n ZR_ok 2 rfl trivial ?_
  refine loopU (zgT G + 1) (fun t (_ : Unit) => [some (.ref 0), some (.int (nI kd)), none, some (.int (nI s)), some (.int (nI t))]) (fun t _ v => (∀ t', t' < t → v.2.1 41 (9 * (200 * kd + s) + t') = zac G C (N.2.2 s) p t') ∧ v.2.1 42 (200 * kd + s) = zck G C (N.2.2 s) t ∧ (∀ j, (j < 9 * (200 * kd + s) ∨ 9 * (200 * kd + s) + 9 ≤ j) → v.2.1 41 j = w.2.1 41 j) ∧ (∀ j, j ≠ 200 * kd + s → v.2.1 42 j = w.2.1 42 j) ∧ frM [] [41, 42] v2 v) ?_ 0 () v2 (by omega) ⟨fun t' ht' => by omega, by rw [h42, upd_at]; rfl, fun j _ => by rw [F2.2.1 41 (by decide)], fun j hj => by rw [h42, upd_ne hj, a3.2.1 42 (by decide)], frM.rf⟩
  intro t _ v ht hJ2 ih2
  obtain ⟨k1, k2, k3, k4, k5⟩ := hJ2
  have Uv : frM [] [39, 41, 42, 43] u v := U2.tr (k5.up (by decide) (by decide))
  have hv : ZGM G v := h.fr Uv rfl
  have hRv : RMn kd N v := hR.fr Uv (by decide) (by decide) (by decide)
  have hCv : ∀ i, i < 102 → mC (mrow kd s) v i = C i := fun i hi => by
    rw [← hCm i hi]
    show v.2.1 39 _ = v1.2.1 39 _
    rw [k5.2.1 39 (by decide), f2.2.1 39 (by decide)]
  refine RQ_n ZR_ok 3 rfl trivial ?_
  rw [hv.2.1.2.2]
  refine RQ_b rfl (fun y => ?_) (fun y => ?_)
  · have y := (zq_lt (a := zgT G) (b := t) rfl rfl (by omega) (by omega)).mp y
    have : t = zgT G + 1 := by omega
    subst this
    refine RQ_n ZR_ok 10 rfl trivial ?_
    rw [e2]
    have hdf := m_defaultOf hv hk hs2
    rw [zdf_cg (a' := zac G C (N.2.2 s) p) (fun t ht => k1 t (by omega))] at hdf
    refine RQ_v vX12_defaultOf hdf rfl k12_421 rfl rfl rfl rfl rfl ?_
    refine RQ_n ZR_ok 1 rfl ⟨nI_in (by omega) (by omega), trivial⟩ ?_
    rw [nI_clamp (show 200 * kd + s < 2 ^ 31 by omega)]
    obtain ⟨v4, hv4⟩ : ∃ w1 : SM, w1 = (v.1, updA v.2.1 43 (200 * kd + s) (fI (zdf G (zac G C (N.2.2 s) p))), v.2.2) := ⟨_, rfl⟩
    rw [← hv4]
    have f4 : frM [] [43] v v4 := by rw [hv4]; exact frM.a 43 (by decide)
    have h43 : v4.2.1 43 = upd (v.2.1 43) (200 * kd + s) (fI (zdf G (zac G C (N.2.2 s) p))) := by rw [hv4]; rfl
    have hv43 : v.2.1 43 = w.2.1 43 := by rw [k5.2.1 43 (by decide), F2.2.1 43 (by decide)]
    have hv39 : v4.2.1 39 = v1.2.1 39 := by rw [f4.2.1 39 (by decide), k5.2.1 39 (by decide), f2.2.1 39 (by decide)]
    have hv41 : v4.2.1 41 = v.2.1 41 := f4.2.1 41 (by decide)
    have hv42 : v4.2.1 42 = v.2.1 42 := f4.2.1 42 (by decide)
    refine RQ_n ZR_ok 2 rfl trivial ?_
    refine ih (by omega) () _ _ ⟨rfl, rfl, nIs s, trivial⟩ ⟨fun k hk' => ?_, Uv.tr (f4.up (by decide) (by decide)), g3.tr ⟨⟨fun j hj => ⟨?_, ?_⟩, fun j _ => ?_, fun j _ => ?_⟩, fun j hj => ?_, fun j hj => ⟨?_, ?_⟩⟩⟩
    · by_cases q : k = s
      · subst q
        refine ⟨fun i hi => ?_, fun t ht => ?_, ?_, ?_⟩
        · show v4.2.1 39 _ = _
          rw [hv39, ← hC]; exact hCm i hi
        · rw [hv41, ← hC]; exact k1 t (by omega)
        · rw [hv42, ← hC]; exact k2
        · rw [h43, upd_at, ← hC]
      · have hlt : k < s := by omega
        obtain ⟨c1, c2, c3, c4⟩ := g1 k hlt
        refine ⟨fun i hi => ?_, fun t ht => ?_, ?_, ?_⟩
        · show v4.2.1 39 _ = _
          rw [hv39, a2 _ (by unfold mrow; omega)]; exact c1 i hi
        · rw [hv41, k3 _ (by omega)]; exact c2 t ht
        · rw [hv42, k4 _ (by omega)]; exact c3
        · rw [h43, upd_ne (by omega), hv43]; exact c4
    · rw [f4.2.1 38 (by decide), k5.2.1 38 (by decide), F2.2.1 38 (by decide)]
    · rw [hv39, a2 _ (by unfold mrow; omega)]
    · rw [f4.2.1 40 (by decide), k5.2.1 40 (by decide), F2.2.1 40 (by decide)]
    · rw [f4.2.1 44 (by decide), k5.2.1 44 (by decide), F2.2.1 44 (by decide)]
    · rw [hv41, k3 _ (by omega)]
    · rw [hv42, k4 _ (by omega)]
    · rw [h43, upd_ne (by omega), hv43]
  · have y := (not_congr (zq_lt (a := zgT G) (b := t) rfl rfl (by omega) (by omega))).mp y
    refine RQ_n ZR_ok 4 rfl trivial ?_
    refine RQ_V vX12_layAction (m_layAction hv hk hs2 (show t ≤ zgT G by omega) (fun b hb => hRv.2.2 s hsn b hb) (fun b k hb hbk => hgn s b k hsn hb hbk)) rfl k12_417 rfl rfl rfl rfl (fun _ _ _ => rfl) (fun r1 v3 h3 => ?_)
    obtain ⟨rfl, l1, l2, l3⟩ := h3
    obtain ⟨z1, z2⟩ := zac_cg h.1 hCv (g := N.2.2 s) (p := v.1 24) (t := t)
    rw [z1, Uv.1 24 (by decide), ← hp] at l1
    rw [z2] at l2
    refine RQ_n ZR_ok 2 rfl trivial ?_
    refine ih2 (by omega) () _ _ ⟨rfl, rfl, rfl, nIs t, trivial⟩ ⟨fun t' ht' => ?_, ?_, fun j hj => ?_, fun j hj => ?_, k5.tr l3⟩
    · rw [l1]
      by_cases q : t' = t
      · rw [q, upd_at]
      · rw [upd_ne (by omega)]; exact k1 t' (by omega)
    · rw [l2, upd_at, k2]; rfl
    · rw [l1, upd_ne (by omega)]; exact k3 j hj
    · rw [l2, upd_ne hj]; exact k4 j hj
