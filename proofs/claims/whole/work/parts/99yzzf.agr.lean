/-! Class and reference alike: count, rule; the start; all calls. -/
section AgR
variable {u : SX} {s : SM}
theorem Iv0.c (h : Iv0 u s) : (u.1 3 0 = s.1 15 ∧ u.1 3 1 = s.1 16 ∧ u.1 3 2 = s.1 17) ∧ u.1 11 0 = s.1 14 ∧ u.1 1 1 = s.1 2 ∧ bitC (u.1 3 3) = s.1 15 - bitC (s.1 23) ∧ u.1 23 0 = s.1 37 := by
  obtain ⟨⟨n, f, hP⟩, ⟨m, ln, yy, hS⟩, hG⟩ := h
  refine ⟨?_, by rw [hS.1.1, hS.2.1], by rw [hP.1.1, hP.2.1.1], ?_, ?_⟩
  · rcases hG with hN | ⟨G, nb, sl, a, ac, ko, kp, hG⟩
    · rw [hN.1.1, hN.1.2.1, hN.1.2.2.1, hN.2.1.1, hN.2.1.2.1, hN.2.1.2.2.1]; exact ⟨rfl, rfl, rfl⟩
    · rw [hG.1.1.f.1.2.1.1, hG.1.1.f.1.2.1.2.1, hG.1.1.f.1.2.1.2.2, hG.1.2.1.2.1.1, hG.1.2.1.2.1.2.1, hG.1.2.1.2.1.2.2]; exact ⟨rfl, rfl, rfl⟩
  · rcases hG with hN | ⟨G, nb, sl, a, ac, ko, kp, hG⟩
    · rw [hN.1.2.2.2, hN.2.1.1, hN.2.1.2.2.2]; decide +kernel
    · rw [hG.1.2.1.2.1.1]; exact hG.2.2.2.1.1.c hG.1.1.f.1.b.1
  · rcases hG with hN | ⟨G, nb, sl, a, ac, ko, kp, hG⟩
    · rw [hN.2.2.1.1, hN.2.2.1.2.1]
    · rw [hG.2.2.2.2.1.1.1, hG.2.2.2.2.1.2.1.1]
theorem i_count (h : Iv0 u s) (x : Int32) : Ag mX11_count mX12_count [.int x] u s Iv0 := by
  obtain ⟨⟨c0, c1, c2⟩, c3, c4, c5, c6⟩ := h.c
  by_cases hx : x.toInt < 0 ∨ 6 < x.toInt
  · exact Ag_same (x_count_no u x hx) (m_count_no s x hx) h
  obtain ⟨k, hk⟩ : ∃ k : Nat, x.toInt = (k : Int) := ⟨x.toInt.toNat, by omega⟩
  have hk2 : k < 7 := by omega
  have hx : x = nI k := by
    apply Int32.toInt_inj.mp
    rw [hk, nI_toInt (by omega)]
  subst hx
  match k, hk2 with
  | 0, _ => exact Ag_same (Ev_to (x_count_0 u) (by rw [c0]) rfl) (m_count_0 s) h
  | 1, _ => exact Ag_same (Ev_to (x_count_1 u) (by rw [c1]) rfl) (m_count_1 s) h
  | 2, _ => exact Ag_same (Ev_to (x_count_2 u) (by rw [c2]) rfl) (m_count_2 s) h
  | 3, _ => exact Ag_same (Ev_to (x_count_3 u) (by rw [c3]) rfl) (m_count_3 s) h
  | 4, _ => exact Ag_same (Ev_to (x_count_4 u) (by rw [c4]) rfl) (m_count_4 s) h
  | 5, _ => exact Ag_same (Ev_to (x_count_5 u) (by rw [c5]) rfl) (m_count_5 s) h
  | 6, _ => exact Ag_same (Ev_to (x_count_6 u) (by rw [c6]) rfl) (m_count_6 s) h
  | k + 7, h => exact absurd h (by omega)
theorem Iv0.t (h : Iv0 u s) (x : Int32) : Iv0 u (updS s.1 0 x, s.2) := by
  obtain ⟨⟨n, f, hP⟩, ⟨m, ln, yy, hS⟩, hG⟩ := h
  exact ⟨⟨n, f, hP⟩, ⟨m, ln, yy, hS⟩, Iv_low (ks := []) (as := []) (km := [0]) (am := []) hG frX.rf (by decide) (by decide) (frM.i 0 (by decide)) (by decide) (by decide)⟩
theorem i_rule (h : Iv0 u s) : RA u s Iv0 := by
  intro r w
  have hG := h.2.2
  rcases hG with hN | ⟨G, nb, sl, a, ac, ko, kp, hG⟩
  · refine Or.inl ⟨?_, by rw [inB_no hN.2.1.1, Bool.false_and], h.t 1⟩
    have : xisR u r = false := by
      unfold xisR
      rw [hN.1.1]
      by_cases c : r < 0
      · rw [decide_eq_false (Int32.not_le.mpr c), Bool.false_and]
      · rw [decide_eq_false c, Bool.and_false]
    rw [this, Bool.false_and]
  have hGX := hG.1.1.f.1
  have hGM := hG.1.2.1
  have hb := hGX.b
  have e15 := hGM.2.1.1
  have hin : inB r 0 (s.1 15 - 1) = (zix r (zgR G)).isSome := by rw [e15]; exact zix_in (by omega)
  cases e : zix r (zgR G) with
  | none =>
    rw [e] at hin
    refine Or.inl ⟨?_, by rw [hin]; rfl, h.t 1⟩
    have : xisR u r = false := by
      unfold xisR
      rw [hGX.2.1.1]
      by_cases c : r < 0
      · rw [decide_eq_false (Int32.not_le.mpr c), Bool.false_and]
      · rw [decide_eq_false (Int32.not_lt.mpr (zix_ge (by omega) e c)), Bool.and_false]
    rw [this, Bool.false_and]
  | some k =>
  rw [e] at hin
  obtain ⟨hk, rfl⟩ := zix_s e
  have hxr : xisR u (nI k) = true := by
    unfold xisR
    obtain ⟨z1, z2⟩ := zix_lt (by omega) e
    rw [hGX.2.1.1, decide_eq_true (Int32.not_lt.mp z1), decide_eq_true (Int32.not_le.mp z2)]; rfl
  by_cases hw : (decide (0 ≤ w) && decide (w ≤ 3)) = true
  rotate_left
  · have hw : (decide (0 ≤ w) && decide (w ≤ 3)) = false := by
      cases e2 : (decide (0 ≤ w) && decide (w ≤ 3)) with
      | true => exact absurd e2 hw
      | false => rfl
    refine Or.inl ⟨by rw [hw, Bool.and_false], ?_, h.t 1⟩
    have : inB w 0 3 = false := hw
    rw [this, Bool.and_false]
  rw [Bool.and_eq_true] at hw
  have w0 := of_decide_eq_true hw.1
  have w3 := of_decide_eq_true hw.2
  have i5 : nI k * 5 = nI (5 * k) := by rw [show (5 : Int32) = nI 5 from rfl, nI_mul, Nat.mul_comm]
  have i50 : 5 * nI k + 0 = nI (5 * k) := by rw [show (5 : Int32) = nI 5 from rfl, nI_mul, show (0 : Int32) = nI 0 from rfl, nI_add]; rfl
  have ck : (nI k).toNatClampNeg = k := nI_clamp (by omega)
  have c5 : (nI (5 * k)).toNatClampNeg = 5 * k := nI_clamp (by omega)
  refine Or.inr ⟨⟨hxr, w0, w3, hin⟩, ⟨nI_in (by omega) (by omega), by rw [i5]; exact nI_in (by omega) (by omega), by rw [i50]; exact nI_in (by omega) (by omega)⟩, ?_, h.t 0⟩
  obtain ⟨l1, l2⟩ := hGX.2.2.1 k hk
  obtain ⟨l3, l4⟩ := hGX.2.2.2 k (by omega)
  obtain ⟨m1, m2⟩ := hGM.2.2.1 k hk
  obtain ⟨m3, m4⟩ := hGM.2.2.2 k (by omega)
  rcases w03 w0 w3 with rfl | rfl | rfl | rfl
  · show u.2.1 4 (nI k).toNatClampNeg = s.2.1 18 (nI k).toNatClampNeg
    rw [ck, l1, m1]
  · show u.2.1 5 (nI k).toNatClampNeg = s.2.1 19 (nI k).toNatClampNeg
    rw [ck, l3, m3]
  · show bI (xinB u (nI k)) = bI (!hasB (s.1 23) (nI k))
    unfold xinB
    rw [sh_bit _ (by omega), hasB_bt _ (by omega), m2, l2]
    cases zgi G k <;> rfl
  · show bI (xunB u (nI k)) = bI (unB s (nI k))
    unfold xunB unB
    rw [i5, i50, ck, c5, l3, m3]
    by_cases hn : zgn G k = 1
    · have t1 := l4 0 (by omega)
      have t2 := m4 0 (by omega)
      rw [Nat.add_zero] at t1 t2
      obtain ⟨ht, -⟩ := hGX.1.t (show k ≤ zgR G by omega) (show 0 < zgn G k by omega)
      rw [t1, t2]
      have hiff : (8 : Int32) ≤ nI (zgt G k 0) ↔ (100 : Int32) ≤ nI (zlm (zgt G k 0)) := by
        have hz : zlm (zgt G k 0) < 200 := by unfold zlm; split <;> omega
        refine (zq_le (a := 8) (b := zgt G k 0) rfl rfl (by omega) (by omega)).trans (Iff.trans ?_ (zq_le (a := 100) (b := zlm (zgt G k 0)) rfl rfl (by omega) (by omega)).symm)
        unfold zlm
        split <;> omega
      by_cases c : (8 : Int32) ≤ nI (zgt G k 0)
      · rw [decide_eq_true c, decide_eq_true (hiff.mp c)]
      · rw [decide_eq_false c, decide_eq_false (fun y => c (hiff.mpr y))]
    · have hn1 : ¬ nI (zgn G k) = 1 := fun y => hn ((zq_eq (a := zgn G k) (b := 1) rfl rfl (by have := hGX.1.n (show k ≤ zgR G by omega); omega) (by omega)).mp y)
      rw [decide_eq_false hn1, Bool.false_and, Bool.false_and]
theorem Iv_start : Iv0 sX0 sM0 := by
  refine ⟨⟨0, fun _ => 0, ⟨rfl, rfl⟩, ⟨rfl, rfl⟩, by omega, fun j hj => absurd hj (Nat.not_lt_zero _)⟩, ⟨0, fun _ => 0, fun _ _ => 0, ⟨rfl, by omega, fun k hk => absurd hk (Nat.not_lt_zero _)⟩, ⟨rfl, by omega, fun k hk => absurd hk (Nat.not_lt_zero _)⟩⟩, Or.inl ⟨⟨rfl, rfl, rfl, rfl⟩, ⟨rfl, rfl, rfl, rfl⟩, ⟨rfl, rfl, rfl, rfl⟩, ?_, Or.inl ⟨rfl, rfl⟩⟩⟩
  intro d hd
  refine ⟨⟨YPd_99 hd, fun b j => ?_, (fun b i k e => by cases e)⟩, ⟨fun _ => 0, ⟨fun a i => ⟨fun hi => absurd hi (Nat.not_lt_zero _), fun _ => rfl⟩, (fun a b i j c e => by cases e), rfl⟩, Nat.zero_le _⟩, 0, by omega, ?_⟩
  · refine zsv_sw (n := 0) hd ?_
    show zsv 99 (bif Nat.beq (zsw d b) 14 then (bif Nat.beq j 11 then .ref 21 else .ref 22) else .null) = true
    cases Nat.beq (zsw d b) 14
    · rfl
    · cases Nat.beq j 11 <;> rfl
  · show sX0.1 (zsw d 25) 3 = nI 0
    rw [zsw_99 hd (by omega)]; rfl
theorem Iv_sim (h : Iv0 u s) : Sim u s Iv0 := ⟨i_feed h, i_end h, i_fault h, i_text h, i_letter h, i_sign h, i_name h, i_trees h, i_names h, i_toggle h, i_prefer h, i_undo h, i_states h, i_look h, i_state h, i_goesTo h, i_action h, i_bridge h, i_counts h, i_path h, i_reads h, i_reduced h, i_expects h, i_mends h, i_tree h, i_sorts h, i_same h, i_word h, i_keep h, i_image h, i_back h, i_count h⟩
end AgR
theorem whole_start {p : Program} {e : Env} {s : State} {m : MethodId} {below : List Frame} {meth : Method} {c : Code} {b L : Nat} {xs : Nat → Int32} (l : Launch) (hflags : l.flags = flags0) (hL : L ≤ 3072) (C0 : lw_At p s m meth c b L xs) :
    W p l e room_1 s m #[Value.ref b] below meth c s.heap [] 0 0 (lw_Z below #[Value.ref b] s) (entryFrame m ([Value.ref b] : List Value).toArray 7) := by
  have hfl : l.stackTraces = false := by
    unfold Launch.stackTraces
    rw [hflags]
    decide +kernel
  exact law_enter (l0 := l) C0 hL (fun _ a b => Iv0 a b) Iv_start (fun dC dI dA qo j sX sM hj h => ⟨Iv_sim h, h, R4_of C0 hfl (i_rule h)⟩) (fun j sX sM h => h.n)
