/-! Calls by a kind and a state: goesTo, action, bridge, look. -/
noncomputable def zvG (G : ZGT) (o : Option ZAS) (x1 x2 : Int32) : Int32 := match zste o x1 with
  | none => -1
  | some (A, k) => match zix x2 (zgT G) with
    | some b => fI ((zN A).2.2 k b)
    | none => match zix (x2 - 100) (zgN G) with
      | some m => fI ((zN A).2.2 k (8 + m))
      | none => -1
noncomputable def zvA (G : ZGT) (o : Option ZAS) (p x1 x2 : Int32) (d : Bool) : Int32 := match zste o x1 with
  | none => -1000000
  | some (A, k) => match zix x2 (zgT G + 1) with
    | none => -1000000
    | some t => ztl G (zcl G (zE0 G) (zF0 G) ((zN A).2.1 k)) ((zN A).2.2 k) p t d
noncomputable def zvB (G : ZGT) (o : Option ZAS) (p x1 x2 x3 : Int32) : Int32 := match zste o x1 with
  | none => -1
  | some (A, k) => match zix x2 (zgN G) with
    | none => -1
    | some m => match zix x3 (zgT G + 1) with
      | none => -1
      | some t => fI (zaxs G (zN A) p k t 6 ((zN A).2.2 k (8 + m)))
noncomputable def zvL (G : ZGT) (o : Option ZAS) (x1 x2 x3 : Int32) (c : Bool) : Int32 := match zste o x1 with
  | none => -1
  | some (A, k) => match zix x2 (zgR G + 1) with
    | none => -1
    | some r => match zix x3 (zgn G r + 1) with
      | none => -1
      | some d => if c = true then zcl G (zE0 G) (zF0 G) ((zN A).2.1 k) (6 * r + d) else (zN A).2.1 k (6 * r + d)
theorem x100 {x : Int32} {m : Nat} (hm : m < 6) (h : x - 100 = nI m) : x = nI (100 + m) := by
  have : x = x - 100 + 100 := (Int32.sub_add_cancel x 100).symm
  rw [this, h, show (100 : Int32) = nI 100 from rfl, nI_add, Nat.add_comm]
section Pub2
variable {P : YP} {G : ZGT} {kd : Nat} {o : Option ZAS} {u : SX} {os : Nat → Option ZAS} {s : SM}
set_option maxHeartbeats 1000000 in
theorem y_goesTo (hP : P.2.1 kd = some 36) (hk : P.1 0 = nI kd) (hk3 : kd < 3) (hZ : ZAt G kd o) (h : XK P G o u) (x1 x2 : Int32) : EvQ (ZY P) mX11_goesTo [.ref 0, .int (nI kd), .int x1, .int x2] u (kdQ P G o u (zvG G o x1 x2)) := by
  refine EQ_V vX11_goesTo rfl ?_
  have hin : vp_in (nI kd) 3 := nI_in (by omega) (by omega)
  have hic : (nI kd).toNatClampNeg = kd := nI_clamp (by omega)
  refine RQ_n (ZY_ok P) 2 rfl trivial ?_
  refine RQ_VN vX11_isThere (y_isThere hP hk hk3 hZ h) rfl k11_251 rfl rfl rfl (zy0 _ rfl) ?_ ?_
  · show (((Nat.blt 0 (3 * u.2.2.2.2.1 + 99)) && true) && true) = true
    rw [zblt (show 0 < 3 * u.2.2.2.2.1 + 99 by omega)]; rfl
  rintro r1 v1 ⟨rfl, h1, h3, h4, h5⟩
  cases o with
  | none =>
    refine RQ_b rfl (fun _ => ?_) (fun z => absurd rfl z)
    refine RQ_n (ZY_ok P) 1 rfl trivial ?_
    exact RQ_to (Rn_iret rfl rfl) ⟨rfl, h1, h5⟩
  | some A =>
  obtain ⟨w1, w2, w3, w4⟩ := h1.v hZ h3
  have hN := w2.1.2
  have hG := h1.2.1.1
  have hb := hG.b
  refine RQ_b rfl (fun z => absurd (show (1 : Int32) = 0 from z) (by decide)) (fun _ => ?_)
  refine RQ_n (ZY_ok P) 4 rfl ⟨hin, trivial⟩ ?_
  rw [hic, hP]
  refine RQ_n (ZY_ok P) 1 rfl trivial ?_
  refine RQ_v vX1_hasState (y_hasState hN w3 x1) rfl k11_267 rfl rfl rfl (zy36 _ rfl) rfl ?_
  unfold zvG zste
  dsimp only
  cases hz : zix x1 (zN A).1 with
  | none =>
    refine RQ_b rfl (fun z => absurd rfl z) (fun _ => ?_)
    refine RQ_n (ZY_ok P) 1 rfl trivial ?_
    exact RQ_to (Rn_iret rfl rfl) ⟨rfl, h1, h5⟩
  | some k =>
  obtain ⟨hk1, hk2⟩ := zix_s hz
  subst hk2
  dsimp only
  refine RQ_b rfl (fun _ => ?_) (fun z => absurd (Classical.not_not.mp z) (show ¬ (1 : Int32) = 0 by decide))
  refine RQ_n (ZY_ok P) 1 rfl trivial ?_
  -- not a sign
  have p50 : zix x2 (zgT G) = none → RnQ (ZY P) mX11_goesTo (50, [some (.ref 0), some (.int (nI kd)), some (.int (nI k)), some (.int x2)], [], v1) (kdQ P G (some A) u (match zix (x2 - 100) (zgN G) with | some m => fI ((zN A).2.2 k (8 + m)) | none => -1)) := by
    intro _
    refine RQ_n (ZY_ok P) 2 rfl trivial ?_
    have no : zix (x2 - 100) (zgN G) = none → RnQ (ZY P) mX11_goesTo (85, [some (.ref 0), some (.int (nI kd)), some (.int (nI k)), some (.int x2)], [], v1) (kdQ P G (some A) u (match zix (x2 - 100) (zgN G) with | some m => fI ((zN A).2.2 k (8 + m)) | none => -1)) := by
      intro e
      rw [e]
      refine RQ_n (ZY_ok P) 1 rfl trivial ?_
      exact RQ_to (Rn_iret rfl rfl) ⟨rfl, h1, h5⟩
    cases e : zix (x2 - 100) (zgN G) with
    | none =>
      rw [e] at no
      refine RQ_b rfl (fun _ => no rfl) (fun _ => ?_)
      refine RQ_n (ZY_ok P) 4 rfl trivial ?_
      refine RQ_v vX11_isName (y_isName hG (x2 - 100)) rfl k11_176 rfl rfl rfl (zy0 _ rfl) rfl ?_
      rw [e]
      exact RQ_b rfl (fun _ => no rfl) (fun z => absurd rfl z)
    | some m =>
      obtain ⟨m1, m2⟩ := zix_s e
      have m3 := x100 (by omega) m2
      refine RQ_b rfl (fun z => ?_) (fun _ => ?_)
      · have := (zq_lt (a := 100 + m) (b := 100) m3 rfl (by omega) (by omega)).mp z
        omega
      refine RQ_n (ZY_ok P) 4 rfl trivial ?_
      refine RQ_v vX11_isName (y_isName hG (x2 - 100)) rfl k11_176 rfl rfl rfl (zy0 _ rfl) rfl ?_
      rw [e]
      refine RQ_b rfl (fun z => absurd (show (1 : Int32) = 0 from z) (by decide)) (fun _ => ?_)
      refine RQ_n (ZY_ok P) 4 rfl ⟨hin, trivial⟩ ?_
      rw [hic, hP]
      refine RQ_n (ZY_ok P) 6 rfl trivial ?_
      rw [show (8 : Int32) + x2 - 100 = nI (8 + m) by rw [m3, show (8 : Int32) = nI 8 from rfl, nI_add, show (100 : Int32) = nI 100 from rfl, nI_sub (by omega), show 8 + (100 + m) - 100 = 8 + m by omega]]
      refine RQ_v vX1_goal (y_goal hN w3 hk1 (show 8 + m < 14 by omega)) rfl k11_309 rfl rfl rfl (zy36 _ rfl) rfl ?_
      exact RQ_to (Rn_iret rfl rfl) ⟨rfl, h1, h5⟩
  cases e : zix x2 (zgT G) with
  | none =>
    rw [e] at p50
    refine RQ_b rfl (fun _ => p50 rfl) (fun z => ?_)
    refine RQ_n (ZY_ok P) 4 rfl trivial ?_
    rw [hG.2.1.2.2]
    exact RQ_b rfl (fun _ => p50 rfl) (fun y => absurd (zix_ge (by omega) e z) y)
  | some b =>
    obtain ⟨b1, b2⟩ := zix_s e
    obtain ⟨z1, z2⟩ := zix_lt (by omega) e
    refine RQ_b rfl (fun z => absurd z z1) (fun _ => ?_)
    refine RQ_n (ZY_ok P) 4 rfl trivial ?_
    rw [hG.2.1.2.2]
    refine RQ_b rfl (fun z => absurd z z2) (fun _ => ?_)
    refine RQ_n (ZY_ok P) 4 rfl ⟨hin, trivial⟩ ?_
    rw [hic, hP]
    refine RQ_n (ZY_ok P) 2 rfl trivial ?_
    rw [b2]
    refine RQ_v vX1_goal (y_goal hN w3 hk1 (show b < 14 by omega)) rfl k11_309 rfl rfl rfl (zy36 _ rfl) rfl ?_
    exact RQ_to (Rn_iret rfl rfl) ⟨rfl, h1, h5⟩
theorem m_isLetter (h : ZGM G s) (x : Int32) : Ev ZR mX12_isLetter [.ref 0, .int x] s (some (.int (bI ((zix x (zgT G)).isSome || (zix (x - 100) (zgN G)).isSome)))) s := by
  have hb := h.b
  refine EQ_ev ?_
  refine EQ_V vX12_isLetter rfl ?_
  refine RQ_n ZR_ok 6 rfl trivial ?_
  rw [h.2.1.2.2]
  refine RQ_s vX12_in (e_in s x 0 (nI (zgT G) - 1)) rfl k12_170 rfl rfl rfl rfl ?_
  rw [zix_in (by omega)]
  refine RQ_b rfl (fun z => ?_) (fun z => ?_)
  · have z := bI_t z
    refine RQ_n ZR_ok 2 rfl trivial ?_
    rw [z]
    exact RQ_to (Rn_zret rfl rfl (Or.inr rfl)) ⟨rfl, rfl⟩
  · have z := bI_0.mp (Classical.not_not.mp z)
    rw [z, Bool.false_or]
    refine RQ_n ZR_ok 4 rfl trivial ?_
    refine RQ_v vX12_isNamed (m_isNamed h (x - 100)) rfl k12_310 rfl rfl rfl rfl rfl ?_
    refine RQ_b rfl (fun y => ?_) (fun y => ?_)
    · have y := bI_0.mp y
      refine RQ_n ZR_ok 1 rfl trivial ?_
      rw [y]
      exact RQ_to (Rn_zret rfl rfl (Or.inl rfl)) ⟨rfl, rfl⟩
    · have y := bI_t y
      refine RQ_n ZR_ok 2 rfl trivial ?_
      rw [y]
      exact RQ_to (Rn_zret rfl rfl (Or.inr rfl)) ⟨rfl, rfl⟩
theorem m_goesTo (hk3 : kd < 3) (hZ : ∀ kd, kd < 3 → ZAt G kd (os kd)) (h : RGr G os s) (x1 x2 : Int32) : EvQ ZR mX12_goesTo [.ref 0, .int (nI kd), .int x1, .int x2] s (rfQ G os s (zvG G (os kd) x1 x2)) := by
  refine EQ_V vX12_goesTo rfl ?_
  refine RQ_n ZR_ok 3 rfl trivial ?_
  refine RQ_V vX12_isState (m_isState hk3 hZ h x1) rfl k12_427 rfl rfl rfl rfl (fun _ _ _ => rfl) (fun r1 v h1 => ?_)
  obtain ⟨rfl, a1, a2, a3⟩ := h1
  have hb := a1.1.b
  cases hz : zste (os kd) x1 with
  | none =>
    refine RQ_b rfl (fun _ => ?_) (fun z => absurd rfl z)
    refine RQ_n ZR_ok 1 rfl trivial ?_
    refine RQ_to (Rn_iret rfl rfl) ⟨?_, a1, a3⟩
    unfold zvG
    rw [hz]
  | some Ak =>
  obtain ⟨A, k⟩ := Ak
  obtain ⟨ho, hk1, hk2⟩ := zste_s hz
  subst hk2
  obtain ⟨b1, b2⟩ := a1.a hk3 a2 ho
  have hF := zN_F (ZAt_all a1.1.1 b2 (ho ▸ hZ kd hk3)) (show ZAt G kd (some A) from ho ▸ hZ kd hk3).2
  have hN := hF.1.2
  refine RQ_b rfl (fun z => absurd (show (1 : Int32) = 0 from z) (by decide)) (fun _ => ?_)
  have hgb : ∀ b, b < 14 → Ev ZR mX12_goesBy [.ref 0, .int (nI kd), .int (nI k), .int (nI b)] v (some (.int (fI ((zN A).2.2 k b)))) v := fun b hb => by
    have := m_goesBy v hk3 (show k < 200 by omega) hb
    rw [b1.1.2.2 k hk1 b hb] at this
    exact this
  refine RQ_n ZR_ok 2 rfl trivial ?_
  refine RQ_v vX12_isLetter (m_isLetter a1.1 x2) rfl k12_440 rfl rfl rfl rfl rfl ?_
  have val : ∀ r, r = (match zix x2 (zgT G) with | some b => fI ((zN A).2.2 k b) | none => match zix (x2 - 100) (zgN G) with | some m => fI ((zN A).2.2 k (8 + m)) | none => -1) → r = zvG G (os kd) (nI k) x2 := fun r hr => by
    unfold zvG
    rw [hz]
    exact hr
  cases e : zix x2 (zgT G) with
  | some b =>
    obtain ⟨c1, c2⟩ := zix_s e
    rw [e] at val
    refine RQ_b rfl (fun z => absurd (show (1 : Int32) = 0 from z) (by decide)) (fun _ => ?_)
    refine RQ_n ZR_ok 5 rfl trivial ?_
    have hbo := m_byOf v (l := b) (by omega)
    rw [show zlm b = b by unfold zlm; rw [if_pos (by omega)], ← c2] at hbo
    refine RQ_v vX12_byOf hbo rfl k12_361 rfl rfl rfl rfl rfl ?_
    rw [c2] at val ⊢
    refine RQ_v vX12_goesBy (hgb b (by omega)) rfl k12_386 rfl rfl rfl rfl rfl ?_
    refine RQ_n ZR_ok 1 rfl trivial ?_
    exact RQ_to (Rn_iret rfl rfl) ⟨congrArg (fun r => some (Value.int r)) (val _ rfl), a1, a3⟩
  | none =>
    rw [e] at val
    cases e2 : zix (x2 - 100) (zgN G) with
    | some m =>
      obtain ⟨m1, m2⟩ := zix_s e2
      have m3 := x100 (by omega) m2
      rw [e2] at val
      refine RQ_b rfl (fun z => absurd (show (1 : Int32) = 0 from z) (by decide)) (fun _ => ?_)
      refine RQ_n ZR_ok 5 rfl trivial ?_
      have hbo := m_byOf v (l := 8 + m) (by omega)
      rw [show zlm (8 + m) = 100 + m by unfold zlm; rw [if_neg (by omega)]; omega, ← m3] at hbo
      refine RQ_v vX12_byOf hbo rfl k12_361 rfl rfl rfl rfl rfl ?_
      refine RQ_v vX12_goesBy (hgb (8 + m) (by omega)) rfl k12_386 rfl rfl rfl rfl rfl ?_
      refine RQ_n ZR_ok 1 rfl trivial ?_
      exact RQ_to (Rn_iret rfl rfl) ⟨congrArg (fun r => some (Value.int r)) (val _ rfl), a1, a3⟩
    | none =>
      rw [e2] at val
      refine RQ_b rfl (fun _ => ?_) (fun z => absurd rfl z)
      refine RQ_n ZR_ok 1 rfl trivial ?_
      exact RQ_to (Rn_iret rfl rfl) ⟨congrArg (fun r => some (Value.int r)) (val _ rfl), a1, a3⟩
set_option maxHeartbeats 1000000 in
theorem y_action (hP : P.2.1 kd = some 36) (hP2 : P.2.2 kd = some 47) (hk : P.1 0 = nI kd) (hk3 : kd < 3) (hZ : ZAt G kd o) (h : XK P G o u) (x1 x2 : Int32) (d : Bool) : EvQ (ZY P) mX11_action [.ref 0, .int (nI kd), .int x1, .int x2, .int (bI d)] u (kdQ P G o u (zvA G o (u.1 3 4) x1 x2 d)) := by
  refine EQ_V vX11_action rfl ?_
  have hin : vp_in (nI kd) 3 := nI_in (by omega) (by omega)
  have hic : (nI kd).toNatClampNeg = kd := nI_clamp (by omega)
  refine RQ_n (ZY_ok P) 2 rfl trivial ?_
  refine RQ_VN vX11_isThere (y_isThere hP hk hk3 hZ h) rfl k11_251 rfl rfl rfl (zy0 _ rfl) ?_ ?_
  · show (((Nat.blt 0 (3 * u.2.2.2.2.1 + 99)) && true) && true) = true
    rw [zblt (show 0 < 3 * u.2.2.2.2.1 + 99 by omega)]; rfl
  rintro r1 v1 ⟨rfl, h1, h3, h4, h5⟩
  cases o with
  | none =>
    refine RQ_b rfl (fun _ => ?_) (fun z => absurd rfl z)
    refine RQ_n (ZY_ok P) 1 rfl trivial ?_
    exact RQ_to (Rn_iret rfl rfl) ⟨rfl, h1, h5⟩
  | some A =>
  obtain ⟨w1, w2, w3, w4⟩ := h1.v hZ h3
  have hN := w2.1.2
  have hG := h1.2.1.1
  have hb := hG.b
  refine RQ_b rfl (fun z => absurd (show (1 : Int32) = 0 from z) (by decide)) (fun _ => ?_)
  refine RQ_n (ZY_ok P) 4 rfl ⟨hin, trivial⟩ ?_
  rw [hic, hP]
  refine RQ_n (ZY_ok P) 1 rfl trivial ?_
  refine RQ_v vX1_hasState (y_hasState hN w3 x1) rfl k11_267 rfl rfl rfl (zy36 _ rfl) rfl ?_
  unfold zvA zste
  dsimp only
  cases hz : zix x1 (zN A).1 with
  | none =>
    refine RQ_b rfl (fun _ => ?_) (fun z => absurd rfl z)
    refine RQ_n (ZY_ok P) 1 rfl trivial ?_
    exact RQ_to (Rn_iret rfl rfl) ⟨rfl, h1, h5⟩
  | some k =>
  obtain ⟨hk1, hk2⟩ := zix_s hz
  subst hk2
  dsimp only
  refine RQ_b rfl (fun z => absurd (show (1 : Int32) = 0 from z) (by decide)) (fun _ => ?_)
  refine RQ_n (ZY_ok P) 2 rfl trivial ?_
  refine RQ_v vX11_isEnding (y_isEnding hG x2) rfl k11_219 rfl rfl rfl (zy0 _ rfl) rfl ?_
  cases e : zix x2 (zgT G + 1) with
  | none =>
    refine RQ_b rfl (fun z => absurd rfl z) (fun _ => ?_)
    refine RQ_n (ZY_ok P) 1 rfl trivial ?_
    exact RQ_to (Rn_iret rfl rfl) ⟨rfl, h1, h5⟩
  | some t =>
    obtain ⟨t1, t2⟩ := zix_s e
    refine RQ_b rfl (fun _ => ?_) (fun z => absurd (Classical.not_not.mp z) (show ¬ (1 : Int32) = 0 by decide))
    refine RQ_n (ZY_ok P) 2 rfl trivial ?_
    refine RQ_V vX11_actionsOf (y_actionsOf hP2 hk3 hZ h1 h3) rfl k11_282 rfl rfl rfl (zy0 _ rfl) (fun _ s1 q => by show 3 * s1.2.2.2.2.1 + 99 = 3 * v1.2.2.2.2.1 + 99; rw [q.2.2.2.2.2.1.2.2]) ?_
    rintro r2 v2 ⟨rfl, q1, q2, q3, q4, q5, q6⟩
    rw [t2]
    have e34 : v2.1 3 4 = u.1 3 4 := q4.trans h4
    rw [e34] at q3
    refine RQ_n (ZY_ok P) 3 rfl trivial ?_
    refine RQ_v vX0_told (y_told q1.2.1.1 hN q3 hk1 (by omega) d) rfl k11_313 rfl rfl rfl (zy47 _ rfl) rfl ?_
    exact RQ_to (Rn_iret rfl rfl) ⟨rfl, q1, h5.tr q6⟩
theorem m_action (hk3 : kd < 3) (hZ : ∀ kd, kd < 3 → ZAt G kd (os kd)) (h : RGr G os s) (x1 x2 : Int32) (d : Bool) : EvQ ZR mX12_action [.ref 0, .int (nI kd), .int x1, .int x2, .int (bI d)] s (rfQ G os s (zvA G (os kd) (s.1 24) x1 x2 d)) := by
  refine EQ_V vX12_action rfl ?_
  refine RQ_n ZR_ok 3 rfl trivial ?_
  refine RQ_V vX12_isState (m_isState hk3 hZ h x1) rfl k12_427 rfl rfl rfl rfl (fun _ _ _ => rfl) (fun r1 v h1 => ?_)
  obtain ⟨rfl, a1, a2, a3⟩ := h1
  have hb := a1.1.b
  cases hz : zste (os kd) x1 with
  | none =>
    refine RQ_b rfl (fun _ => ?_) (fun z => absurd rfl z)
    refine RQ_n ZR_ok 1 rfl trivial ?_
    refine RQ_to (Rn_iret rfl rfl) ⟨?_, a1, a3⟩
    unfold zvA
    rw [hz]
  | some Ak =>
  obtain ⟨A, k⟩ := Ak
  obtain ⟨ho, hk1, hk2⟩ := zste_s hz
  subst hk2
  obtain ⟨b1, b2⟩ := a1.a hk3 a2 ho
  have hF := zN_F (ZAt_all a1.1.1 b2 (ho ▸ hZ kd hk3)) (show ZAt G kd (some A) from ho ▸ hZ kd hk3).2
  have hN := hF.1.2
  refine RQ_b rfl (fun z => absurd (show (1 : Int32) = 0 from z) (by decide)) (fun _ => ?_)
  have e24 : v.1 24 = s.1 24 := a3.1 24 (by decide)
  rw [e24] at b1
  refine RQ_n ZR_ok 4 rfl trivial ?_
  rw [a1.1.2.1.2.2]
  refine RQ_s vX12_in (e_in v x2 0 (nI (zgT G))) rfl k12_170 rfl rfl rfl rfl ?_
  rw [zix_in1 (by omega)]
  have val : ∀ r, r = (match zix x2 (zgT G + 1) with | none => -1000000 | some t => ztl G (zcl G (zE0 G) (zF0 G) ((zN A).2.1 k)) ((zN A).2.2 k) (s.1 24) t d) → r = zvA G (os kd) (s.1 24) (nI k) x2 d := fun r hr => by
    unfold zvA
    rw [hz]
    exact hr
  cases e : zix x2 (zgT G + 1) with
  | none =>
    rw [e] at val
    refine RQ_b rfl (fun _ => ?_) (fun z => absurd rfl z)
    refine RQ_n ZR_ok 1 rfl trivial ?_
    exact RQ_to (Rn_iret rfl rfl) ⟨congrArg (fun r => some (Value.int r)) (val _ rfl), a1, a3⟩
  | some t =>
    obtain ⟨t1, t2⟩ := zix_s e
    rw [e] at val
    refine RQ_b rfl (fun z => absurd (show (1 : Int32) = 0 from z) (by decide)) (fun _ => ?_)
    rw [t2] at val ⊢
    refine RQ_n ZR_ok 5 rfl trivial ?_
    refine RQ_v vX12_actionOf (m_actionOf a1.1 hk3 hN b1 hk1 (Or.inl (show t ≤ zgT G by omega)) d) rfl k12_443 rfl rfl rfl rfl rfl ?_
    refine RQ_n ZR_ok 1 rfl trivial ?_
    exact RQ_to (Rn_iret rfl rfl) ⟨congrArg (fun r => some (Value.int r)) (val _ rfl), a1, a3⟩
set_option maxHeartbeats 1000000 in
theorem y_bridge (hP : P.2.1 kd = some 36) (hP2 : P.2.2 kd = some 47) (hk : P.1 0 = nI kd) (hk3 : kd < 3) (hZ : ZAt G kd o) (h : XK P G o u) (x1 x2 x3 : Int32) : EvQ (ZY P) mX11_bridge [.ref 0, .int (nI kd), .int x1, .int x2, .int x3] u (kdQ P G o u (zvB G o (u.1 3 4) x1 x2 x3)) := by
  refine EQ_V vX11_bridge rfl ?_
  have hin : vp_in (nI kd) 3 := nI_in (by omega) (by omega)
  have hic : (nI kd).toNatClampNeg = kd := nI_clamp (by omega)
  refine RQ_n (ZY_ok P) 2 rfl trivial ?_
  refine RQ_VN vX11_isThere (y_isThere hP hk hk3 hZ h) rfl k11_251 rfl rfl rfl (zy0 _ rfl) ?_ ?_
  · show (((Nat.blt 0 (3 * u.2.2.2.2.1 + 99)) && true) && true) = true
    rw [zblt (show 0 < 3 * u.2.2.2.2.1 + 99 by omega)]; rfl
  rintro r1 v1 ⟨rfl, h1, h3, h4, h5⟩
  cases o with
  | none =>
    refine RQ_b rfl (fun _ => ?_) (fun z => absurd rfl z)
    refine RQ_n (ZY_ok P) 1 rfl trivial ?_
    exact RQ_to (Rn_iret rfl rfl) ⟨rfl, h1, h5⟩
  | some A =>
  obtain ⟨w1, w2, w3, w4⟩ := h1.v hZ h3
  have hN := w2.1.2
  have hG := h1.2.1.1
  have hb := hG.b
  refine RQ_b rfl (fun z => absurd (show (1 : Int32) = 0 from z) (by decide)) (fun _ => ?_)
  refine RQ_n (ZY_ok P) 4 rfl ⟨hin, trivial⟩ ?_
  rw [hic, hP]
  refine RQ_n (ZY_ok P) 1 rfl trivial ?_
  refine RQ_v vX1_hasState (y_hasState hN w3 x1) rfl k11_267 rfl rfl rfl (zy36 _ rfl) rfl ?_
  unfold zvB zste
  dsimp only
  cases hz : zix x1 (zN A).1 with
  | none =>
    refine RQ_b rfl (fun _ => ?_) (fun z => absurd rfl z)
    refine RQ_n (ZY_ok P) 1 rfl trivial ?_
    exact RQ_to (Rn_iret rfl rfl) ⟨rfl, h1, h5⟩
  | some k =>
  obtain ⟨hk1, hk2⟩ := zix_s hz
  subst hk2
  dsimp only
  refine RQ_b rfl (fun z => absurd (show (1 : Int32) = 0 from z) (by decide)) (fun _ => ?_)
  refine RQ_n (ZY_ok P) 2 rfl trivial ?_
  refine RQ_v vX11_isName (y_isName hG x2) rfl k11_176 rfl rfl rfl (zy0 _ rfl) rfl ?_
  cases e : zix x2 (zgN G) with
  | none =>
    refine RQ_b rfl (fun _ => ?_) (fun z => absurd rfl z)
    refine RQ_n (ZY_ok P) 1 rfl trivial ?_
    exact RQ_to (Rn_iret rfl rfl) ⟨rfl, h1, h5⟩
  | some m =>
  obtain ⟨m1, m2⟩ := zix_s e
  refine RQ_b rfl (fun z => absurd (show (1 : Int32) = 0 from z) (by decide)) (fun _ => ?_)
  refine RQ_n (ZY_ok P) 2 rfl trivial ?_
  refine RQ_v vX11_isEnding (y_isEnding hG x3) rfl k11_219 rfl rfl rfl (zy0 _ rfl) rfl ?_
  cases e3 : zix x3 (zgT G + 1) with
  | none =>
    refine RQ_b rfl (fun z => absurd rfl z) (fun _ => ?_)
    refine RQ_n (ZY_ok P) 1 rfl trivial ?_
    exact RQ_to (Rn_iret rfl rfl) ⟨rfl, h1, h5⟩
  | some t =>
    obtain ⟨t1, t2⟩ := zix_s e3
    refine RQ_b rfl (fun _ => ?_) (fun z => absurd (Classical.not_not.mp z) (show ¬ (1 : Int32) = 0 by decide))
    refine RQ_n (ZY_ok P) 2 rfl trivial ?_
    refine RQ_V vX11_actionsOf (y_actionsOf hP2 hk3 hZ h1 h3) rfl k11_282 rfl rfl rfl (zy0 _ rfl) (fun _ s1 q => by show 3 * s1.2.2.2.2.1 + 99 = 3 * v1.2.2.2.2.1 + 99; rw [q.2.2.2.2.2.1.2.2]) ?_
    rintro r2 v2 ⟨rfl, q1, q2, q3, q4, q5, q6⟩
    rw [t2, m2]
    have e34 : v2.1 3 4 = u.1 3 4 := q4.trans h4
    rw [e34] at q3
    obtain ⟨-, -, y3, -⟩ := q1.v hZ q2
    refine RQ_n (ZY_ok P) 3 rfl trivial ?_
    refine RQ_v vX0_across (y_across q1.2.1.1 w2 y3 q3 hk1 (show m < 6 by omega) (show t < 100 by omega)) rfl k11_317 rfl rfl rfl (zy47 _ rfl) rfl ?_
    exact RQ_to (Rn_iret rfl rfl) ⟨rfl, q1, h5.tr q6⟩
theorem m_bridge (hk3 : kd < 3) (hZ : ∀ kd, kd < 3 → ZAt G kd (os kd)) (h : RGr G os s) (x1 x2 x3 : Int32) : EvQ ZR mX12_bridge [.ref 0, .int (nI kd), .int x1, .int x2, .int x3] s (rfQ G os s (zvB G (os kd) (s.1 24) x1 x2 x3)) := by
  refine EQ_V vX12_bridge rfl ?_
  refine RQ_n ZR_ok 3 rfl trivial ?_
  refine RQ_V vX12_isState (m_isState hk3 hZ h x1) rfl k12_427 rfl rfl rfl rfl (fun _ _ _ => rfl) (fun r1 v h1 => ?_)
  obtain ⟨rfl, a1, a2, a3⟩ := h1
  have hb := a1.1.b
  cases hz : zste (os kd) x1 with
  | none =>
    refine RQ_b rfl (fun _ => ?_) (fun z => absurd rfl z)
    refine RQ_n ZR_ok 1 rfl trivial ?_
    refine RQ_to (Rn_iret rfl rfl) ⟨?_, a1, a3⟩
    unfold zvB
    rw [hz]
  | some Ak =>
  obtain ⟨A, k⟩ := Ak
  obtain ⟨ho, hk1, hk2⟩ := zste_s hz
  subst hk2
  obtain ⟨b1, b2⟩ := a1.a hk3 a2 ho
  have hF := zN_F (ZAt_all a1.1.1 b2 (ho ▸ hZ kd hk3)) (show ZAt G kd (some A) from ho ▸ hZ kd hk3).2
  have hN := hF.1.2
  refine RQ_b rfl (fun z => absurd (show (1 : Int32) = 0 from z) (by decide)) (fun _ => ?_)
  have e24 : v.1 24 = s.1 24 := a3.1 24 (by decide)
  rw [e24] at b1
  refine RQ_n ZR_ok 2 rfl trivial ?_
  refine RQ_v vX12_isNamed (m_isNamed a1.1 x2) rfl k12_310 rfl rfl rfl rfl rfl ?_
  have val : ∀ r, r = (match zix x2 (zgN G) with | none => -1 | some m => match zix x3 (zgT G + 1) with | none => -1 | some t => fI (zaxs G (zN A) (s.1 24) k t 6 ((zN A).2.2 k (8 + m)))) → r = zvB G (os kd) (s.1 24) (nI k) x2 x3 := fun r hr => by
    unfold zvB
    rw [hz]
    exact hr
  cases e : zix x2 (zgN G) with
  | none =>
    rw [e] at val
    refine RQ_b rfl (fun _ => ?_) (fun z => absurd rfl z)
    refine RQ_n ZR_ok 1 rfl trivial ?_
    exact RQ_to (Rn_iret rfl rfl) ⟨congrArg (fun r => some (Value.int r)) (val _ rfl), a1, a3⟩
  | some m =>
  obtain ⟨m1, m2⟩ := zix_s e
  rw [e] at val
  refine RQ_b rfl (fun z => absurd (show (1 : Int32) = 0 from z) (by decide)) (fun _ => ?_)
  refine RQ_n ZR_ok 4 rfl trivial ?_
  rw [a1.1.2.1.2.2]
  refine RQ_s vX12_in (e_in v x3 0 (nI (zgT G))) rfl k12_170 rfl rfl rfl rfl ?_
  rw [zix_in1 (by omega)]
  cases e3 : zix x3 (zgT G + 1) with
  | none =>
    rw [e3] at val
    refine RQ_b rfl (fun _ => ?_) (fun z => absurd rfl z)
    refine RQ_n ZR_ok 1 rfl trivial ?_
    exact RQ_to (Rn_iret rfl rfl) ⟨congrArg (fun r => some (Value.int r)) (val _ rfl), a1, a3⟩
  | some t =>
    obtain ⟨t1, t2⟩ := zix_s e3
    rw [e3] at val
    refine RQ_b rfl (fun z => absurd (show (1 : Int32) = 0 from z) (by decide)) (fun _ => ?_)
    rw [t2, m2] at val ⊢
    refine RQ_n ZR_ok 5 rfl trivial ?_
    refine RQ_v vX12_bridgeOf (m_bridgeOf a1.1 hk3 hF b1 hk1 (show m < 6 by omega) (Or.inl (show t ≤ zgT G by omega))) rfl k12_448 rfl rfl rfl rfl rfl ?_
    refine RQ_n ZR_ok 1 rfl trivial ?_
    exact RQ_to (Rn_iret rfl rfl) ⟨congrArg (fun r => some (Value.int r)) (val _ rfl), a1, a3⟩
end Pub2
