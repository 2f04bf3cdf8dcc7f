/-! What mends: mendAt and mends of the class. -/
section ZMd2
variable {G : ZGT} {N : ZNM} {p : Int32} {len pl i c : Nat} {inp : Nat → Nat}
theorem zdm_0 (h : pl < len) : zdm G N p len inp pl 0 = decide ((zcan G N p 0 (zcl1 len 1 none) (zci inp pl 1 none)).1 = 1) := by
  unfold zdm zmv
  rw [if_pos (by omega), decide_eq_true h]
  rfl
theorem zdm_1 (h : pl < len) (hi : i < zgT G) (hT : zgT G ≤ 8) (hn : inp pl ≠ i) : zdm G N p len inp pl (1 + i) = decide ((zcan G N p 0 (zcl1 len 1 (some i)) (zci inp pl 1 (some i))).1 = 1) := by
  have e1 : zmo (1 + i) = 1 := by unfold zmo; rw [if_pos (by omega)]
  have e2 : zms (1 + i) = some i := by unfold zms; rw [if_neg (by omega), if_pos (by omega), Nat.add_sub_cancel_left]
  have e3 : zmv (zgT G) len inp pl (1 + i) = true := by
    unfold zmv
    rw [if_pos (by omega), decide_eq_true h, decide_eq_false (show ¬ 1 + i = 0 by omega), decide_eq_true (show 1 + i ≤ zgT G by omega), Nat.add_sub_cancel_left, decide_eq_false hn]
    rfl
  unfold zdm
  rw [e1, e2, e3, Bool.true_and]
theorem zdm_2 (hi : i < zgT G) (hl : len < 24) : zdm G N p len inp pl (20 + i) = decide ((zcan G N p 0 (zcl1 len 0 (some i)) (zci inp pl 0 (some i))).1 = 1) := by
  have e1 : zmo (20 + i) = 0 := by unfold zmo; rw [if_neg (by omega)]
  have e2 : zms (20 + i) = some i := by unfold zms; rw [if_neg (by omega), if_neg (by omega), Nat.add_sub_cancel_left]
  have e3 : zmv (zgT G) len inp pl (20 + i) = true := by
    unfold zmv
    rw [if_neg (by omega), decide_eq_true hl, Nat.add_sub_cancel_left, decide_eq_true hi]
    rfl
  unfold zdm
  rw [e1, e2, e3, Bool.true_and]
theorem zdm_f (h : zmv (zgT G) len inp pl c = false) : zdm G N p len inp pl c = false := by unfold zdm; rw [h]; rfl
theorem zdm_f1 (hc : c < 20) (h : len ≤ pl) : zdm G N p len inp pl c = false := zdm_f (by unfold zmv; rw [if_pos hc, decide_eq_false (by omega)]; rfl)
theorem zdm_f2 (hc : c < 20) (h : zgT G < c) : zdm G N p len inp pl c = false := zdm_f (by unfold zmv; rw [if_pos hc, decide_eq_false (show ¬ c = 0 by omega), decide_eq_false (show ¬ c ≤ zgT G by omega)]; cases decide (pl < len) <;> rfl)
theorem zdm_f3 (hc : 1 + i < 20) (h : inp pl = i) : zdm G N p len inp pl (1 + i) = false := zdm_f (by unfold zmv; rw [if_pos hc, decide_eq_false (show ¬ 1 + i = 0 by omega), Nat.add_sub_cancel_left, decide_eq_true h]; cases decide (pl < len) <;> cases decide (1 + i ≤ zgT G) <;> rfl)
theorem zdm_f4 (hc : 20 ≤ c) (h : 24 ≤ len) : zdm G N p len inp pl c = false := zdm_f (by unfold zmv; rw [if_neg (by omega), decide_eq_false (show ¬ len < 24 by omega)]; rfl)
theorem zft_s {q : Nat → Bool} {n a : Nat} : zft q (n + 1) a = if q a = true then some a else zft q n (a + 1) := rfl
end ZMd2
section XMend2
variable {P : YP} {G : ZGT} {p : Int32} {kd m : Nat} {o : Option ZAS} {A : ZAS} {u : SX} {ln : Nat → Nat} {yy : Nat → Nat → Nat} {nb : Nat → Int32} {sl : Nat → Nat}
theorem XMo.tr {v w : SX} (h1 : XMo P G A p u v) (h2 : XMo P G A p v w) : XMo P G A p u w := ⟨h2.1, h2.2.1, h2.2.2.1, h1.2.2.2.1.tr h2.2.2.2.1, h2.2.2.2.2.trans h1.2.2.2.2⟩
set_option maxHeartbeats 2000000 in
theorem y_mendAt (hZ : ZAt G kd (some A)) (h : XK P G (some A) u) (h3 : u.1 36 3 = 0) (hXT : XT G (zN A) p u) (hS : SnX m ln yy u) (hTX : TXc G nb sl u) {k pl : Nat} (hk : k < m) (hp : pl ≤ ln k) :
    EvQ (ZY P) mX11_mendAt [.ref 0, .ref 47, .int (nI k), .int (nI pl)] u (fun x v => x = some (.int (zoI (zft (zdm G (zN A) p (ln k) (fun i => zsno sl (zgT G) (yy k i)) pl) (20 + zgT G) 0))) ∧ XMo P G A p u v) := by
  have hG := h.2.1.1
  have hb := hG.b
  have hm4 := hS.2.1
  obtain ⟨s1, s2, s3⟩ := hS.2.2 k hk
  obtain ⟨q, hq⟩ : ∃ q, q = zdm G (zN A) p (ln k) (fun i => zsno sl (zgT G) (yy k i)) pl := ⟨_, rfl⟩
  rw [← hq]
  obtain ⟨Q, hQ⟩ : ∃ Q : Option Value → SX → Prop, Q = (fun x v => x = some (.int (zoI (zft q (20 + zgT G) 0))) ∧ XMo P G A p u v) := ⟨_, rfl⟩
  rw [← hQ]
  have m0 : XMo P G A p u u := ⟨h, h3, hXT, frK.rf, rfl⟩
  have gT : ∀ v, XMo P G A p u v → v.1 3 2 = nI (zgT G) := fun v hv => hv.1.2.1.1.2.1.2.2
  refine EQ_V vX11_mendAt rfl ?_
  -- putting in
  have p96 : ∀ (l5 l6 : Option Value) v, XMo P G A p u v → zft q (zgT G) 20 = zft q (20 + zgT G) 0 → RnQ (ZY P) mX11_mendAt (96, [some (.ref 0), some (.ref 47), some (.int (nI k)), some (.int (nI pl)), some (.int (nI (ln k))), l5, l6], [], v) Q := by
    intro l5 l6 v hv hz
    refine RQ_n (ZY_ok P) 2 rfl trivial ?_
    refine loopU (zgT G) (fun i (_ : Unit) => [some (.ref 0), some (.ref 47), some (.int (nI k)), some (.int (nI pl)), some (.int (nI (ln k))), some (.int (nI i)), l6]) (fun i _ w => XMo P G A p u w ∧ zft q (zgT G - i) (20 + i) = zft q (20 + zgT G) 0) ?_ 0 () v (by omega) ⟨hv, hz⟩
    intro i _ w hi hJ ih
    obtain ⟨g1, g2⟩ := hJ
    have no : zft q (20 + zgT G) 0 = none → RnQ (ZY P) mX11_mendAt (143, [some (.ref 0), some (.ref 47), some (.int (nI k)), some (.int (nI pl)), some (.int (nI (ln k))), some (.int (nI i)), l6], [], w) Q := by
      intro e
      refine RQ_n (ZY_ok P) 1 rfl trivial ?_
      rw [hQ]
      exact RQ_to (Rn_iret rfl rfl) ⟨by rw [e]; rfl, g1⟩
    refine RQ_n (ZY_ok P) 4 rfl trivial ?_
    rw [gT w g1]
    refine RQ_b rfl (fun z => no ?_) (fun z => ?_)
    · have z := (zq_le (a := zgT G) (b := i) rfl rfl (by omega) (by omega)).mp z
      rw [← g2, show zgT G - i = 0 by omega]; rfl
    have z := (not_congr (zq_le (a := zgT G) (b := i) rfl rfl (by omega) (by omega))).mp z
    refine RQ_n (ZY_ok P) 2 rfl trivial ?_
    refine RQ_b rfl (fun y => no ?_) (fun y => ?_)
    · have y := (zq_le (a := 24) (b := ln k) rfl rfl (by omega) (by omega)).mp y
      rw [← g2]
      exact zft_none _ _ (fun j _ => by rw [hq]; exact zdm_f4 (by omega) y)
    have y := (not_congr (zq_le (a := 24) (b := ln k) rfl rfl (by omega) (by omega))).mp y
    have hqi : q (20 + i) = decide ((zcan G (zN A) p 0 (zcl1 (ln k) 0 (some i)) (zci (fun i => zsno sl (zgT G) (yy k i)) pl 0 (some i))).1 = 1) := by rw [hq]; exact zdm_2 (by omega) (by omega)
    refine RQ_n (ZY_ok P) 6 rfl trivial ?_
    refine RQ_V vX11_endsWellChanged (y_endsWellChanged (e := some i) (out := 0) hZ g1.1 g1.2.1 g1.2.2.1 (hS.k g1.2.2.2.1) (hTX.k g1.2.2.2.1) hk (show pl + 0 ≤ ln k by omega) (show ln k - 0 + 1 ≤ 24 by omega) (fun s e => by have := Option.some.inj e; omega)) rfl k11_375 rfl rfl rfl (zy0 _ rfl) (fun _ s1 q => by show 3 * s1.2.2.2.2.1 + 99 = 3 * w.2.2.2.2.1 + 99; rw [q.2.2.2.2.2]) ?_
    rintro r2 v2 ⟨rfl, M2⟩
    rw [← hqi]
    rw [show zgT G - i = (zgT G - (i + 1)) + 1 by omega, zft_s] at g2
    cases e : q (20 + i) with
    | false =>
      rw [e] at g2
      refine RQ_b rfl (fun _ => ?_) (fun z => absurd rfl z)
      refine RQ_n (ZY_ok P) 2 rfl trivial ?_
      exact ih (by omega) () _ _ ⟨rfl, rfl, rfl, rfl, rfl, nIs i, by cases l6 with | none => exact trivial | some x => exact ⟨rfl, trivial⟩⟩ ⟨g1.tr M2, g2⟩
    | true =>
      rw [e] at g2
      refine RQ_b rfl (fun z => absurd (show (1 : Int32) = 0 from z) (by decide)) (fun _ => ?_)
      refine RQ_n (ZY_ok P) 3 rfl trivial ?_
      rw [show (20 : Int32) + nI i = nI (20 + i) from nI_add 20 i, hQ]
      exact RQ_to (Rn_iret rfl rfl) ⟨by rw [← g2]; rfl, g1.tr M2⟩
  refine RQ_n (ZY_ok P) 4 rfl trivial ?_
  refine RQ_n (ZY_ok P) 1 rfl ⟨nI_in (by omega) (by omega), trivial⟩ ?_
  rw [nI_clamp (show k < 2 ^ 31 by omega), s1]
  refine RQ_n (ZY_ok P) 3 rfl trivial ?_
  refine RQ_b rfl (fun z => ?_) (fun z => ?_)
  · have z := (zq_le (a := ln k) (b := pl) rfl rfl (by omega) (by omega)).mp z
    refine p96 _ _ u m0 ?_
    exact (zft_skip (zgT G) 20 0 (fun j hj => by rw [hq]; exact zdm_f1 (by omega) z)).symm
  have z := (not_congr (zq_le (a := ln k) (b := pl) rfl rfl (by omega) (by omega))).mp z
  have hz : pl < ln k := by omega
  -- leaving out
  refine RQ_n (ZY_ok P) 6 rfl trivial ?_
  refine RQ_V vX11_endsWellChanged (y_endsWellChanged (e := none) (out := 1) hZ h h3 hXT hS hTX hk (show pl + 1 ≤ ln k by omega) (show ln k - 1 ≤ 24 by omega) (fun s e => by cases e)) rfl k11_375 rfl rfl rfl (zy0 _ rfl) (fun _ s1 q => by show 3 * s1.2.2.2.2.1 + 99 = 3 * u.2.2.2.2.1 + 99; rw [q.2.2.2.2.2]) ?_
  rintro r2 v2 ⟨rfl, M2⟩
  have hq0 : q 0 = decide ((zcan G (zN A) p 0 (zcl1 (ln k) 1 none) (zci (fun i => zsno sl (zgT G) (yy k i)) pl 1 none)).1 = 1) := by rw [hq]; exact zdm_0 hz
  rw [← hq0]
  have hs0 : zft q (20 + zgT G) 0 = if q 0 = true then some 0 else zft q (19 + zgT G) 1 := by rw [show 20 + zgT G = (19 + zgT G) + 1 by omega, zft_s]
  cases e : q 0 with
  | true =>
    rw [e] at hs0
    refine RQ_b rfl (fun z => absurd (show (1 : Int32) = 0 from z) (by decide)) (fun _ => ?_)
    refine RQ_n (ZY_ok P) 1 rfl trivial ?_
    rw [hQ]
    exact RQ_to (Rn_iret rfl rfl) ⟨by rw [hs0]; rfl, M2⟩
  | false =>
  rw [e] at hs0
  have hs0 : zft q (20 + zgT G) 0 = zft q (19 + zgT G) 1 := hs0
  refine RQ_b rfl (fun _ => ?_) (fun z => absurd rfl z)
  obtain ⟨t1, t2⟩ := s3 pl (by omega)
  have S2 := hS.k M2.2.2.2.1
  have T2 := hTX.k M2.2.2.2.1
  refine RQ_n (ZY_ok P) 7 rfl trivial ?_
  have hla := y_sletterAt (P := P) v2 (show k < 4 by omega) (show pl < 24 by omega)
  rw [((S2.2.2 k hk).2.2 pl hz).1] at hla
  refine RQ_v vX9_letterAt hla rfl k11_175 rfl rfl rfl (zy11 _ rfl) rfl ?_
  refine RQ_n (ZY_ok P) 1 rfl ⟨nI_in (by omega) (by omega), trivial⟩ ?_
  rw [nI_clamp (show yy k pl < 2 ^ 31 by omega), T2.2.2 _ t2, zsno_g]
  refine RQ_n (ZY_ok P) 3 rfl trivial ?_
  have hold := zsno_ok sl (zgT G) (yy k pl)
  -- another in its place
  refine loopU (zgT G) (fun i (_ : Unit) => [some (.ref 0), some (.ref 47), some (.int (nI k)), some (.int (nI pl)), some (.int (nI (ln k))), some (.int (nI (zsno sl (zgT G) (yy k pl)))), some (.int (nI i))]) (fun i _ w => XMo P G A p u w ∧ zft q (19 + zgT G - i) (1 + i) = zft q (20 + zgT G) 0) ?_ 0 () v2 (by omega) ⟨M2, hs0.symm⟩
  intro i _ w hi hJ ih
  obtain ⟨g1, g2⟩ := hJ
  refine RQ_n (ZY_ok P) 4 rfl trivial ?_
  rw [gT w g1]
  refine RQ_b rfl (fun z => ?_) (fun z => ?_)
  · have z := (zq_le (a := zgT G) (b := i) rfl rfl (by omega) (by omega)).mp z
    have hie : i = zgT G := by omega
    refine p96 _ _ w g1 ?_
    rw [← g2, hie, show 19 + zgT G - zgT G = (19 - zgT G) + zgT G by omega, zft_skip (zgT G) (19 - zgT G) (1 + zgT G) (fun j hj => by rw [hq]; exact zdm_f2 (by omega) (by omega)), show 1 + zgT G + (19 - zgT G) = 20 by omega]
  have z := (not_congr (zq_le (a := zgT G) (b := i) rfl rfl (by omega) (by omega))).mp z
  have p90 : ∀ v, XMo P G A p u v → q (1 + i) = false → RnQ (ZY P) mX11_mendAt (90, [some (.ref 0), some (.ref 47), some (.int (nI k)), some (.int (nI pl)), some (.int (nI (ln k))), some (.int (nI (zsno sl (zgT G) (yy k pl)))), some (.int (nI i))], [], v) Q := by
    intro v hv e
    rw [show 19 + zgT G - i = (19 + zgT G - (i + 1)) + 1 by omega, zft_s, e] at g2
    refine RQ_n (ZY_ok P) 2 rfl trivial ?_
    exact ih (by omega) () _ _ ⟨rfl, rfl, rfl, rfl, rfl, rfl, nIs i, trivial⟩ ⟨hv, g2⟩
  refine RQ_n (ZY_ok P) 2 rfl trivial ?_
  by_cases y : zsno sl (zgT G) (yy k pl) = i
  · refine RQ_b rfl (fun _ => p90 w g1 (by rw [hq]; exact zdm_f3 (by omega) y)) (fun r => absurd ((zq_eq (a := i) (b := zsno sl (zgT G) (yy k pl)) rfl rfl (by omega) (by omega)).mpr y.symm) r)
  refine RQ_b rfl (fun r => absurd ((zq_eq (a := i) (b := zsno sl (zgT G) (yy k pl)) rfl rfl (by omega) (by omega)).mp r).symm y) (fun _ => ?_)
  have hqi : q (1 + i) = decide ((zcan G (zN A) p 0 (zcl1 (ln k) 1 (some i)) (zci (fun i => zsno sl (zgT G) (yy k i)) pl 1 (some i))).1 = 1) := by rw [hq]; exact zdm_1 hz (by omega) (by omega) y
  refine RQ_n (ZY_ok P) 6 rfl trivial ?_
  refine RQ_V vX11_endsWellChanged (y_endsWellChanged (e := some i) (out := 1) hZ g1.1 g1.2.1 g1.2.2.1 (hS.k g1.2.2.2.1) (hTX.k g1.2.2.2.1) hk (show pl + 1 ≤ ln k by omega) (show ln k - 1 + 1 ≤ 24 by omega) (fun s e => by have := Option.some.inj e; omega)) rfl k11_375 rfl rfl rfl (zy0 _ rfl) (fun _ s1 q => by show 3 * s1.2.2.2.2.1 + 99 = 3 * w.2.2.2.2.1 + 99; rw [q.2.2.2.2.2]) ?_
  rintro r3 v3 ⟨rfl, M3⟩
  rw [← hqi]
  cases e : q (1 + i) with
  | false => exact RQ_b rfl (fun _ => p90 v3 (g1.tr M3) e) (fun z => absurd rfl z)
  | true =>
    rw [show 19 + zgT G - i = (19 + zgT G - (i + 1)) + 1 by omega, zft_s, e] at g2
    refine RQ_b rfl (fun z => absurd (show (1 : Int32) = 0 from z) (by decide)) (fun _ => ?_)
    refine RQ_n (ZY_ok P) 3 rfl trivial ?_
    rw [show (1 : Int32) + nI i = nI (1 + i) from nI_add 1 i, hQ]
    exact RQ_to (Rn_iret rfl rfl) ⟨by rw [← g2]; rfl, g1.tr M3⟩
end XMend2
