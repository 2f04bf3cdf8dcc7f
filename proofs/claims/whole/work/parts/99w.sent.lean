/-! Sentences, both sides; the class: readsSentence. -/
def SnX (m : Nat) (ln : Nat → Nat) (yy : Nat → Nat → Nat) (u : SX) : Prop := u.1 11 0 = nI m ∧ m ≤ 4 ∧ ∀ k, k < m → u.2.1 12 k = nI (ln k) ∧ ln k ≤ 24 ∧ ∀ j, j < ln k → u.2.1 13 (24 * k + j) = nI (yy k j) ∧ yy k j < 26
def SnM (m : Nat) (ln : Nat → Nat) (yy : Nat → Nat → Nat) (s : SM) : Prop := s.1 14 = nI m ∧ m ≤ 4 ∧ ∀ k, k < m → s.2.1 13 k = nI (ln k) ∧ ln k ≤ 24 ∧ ∀ j, j < ln k → s.2.1 12 (24 * k + j) = nI (97 + yy k j) ∧ yy k j < 26
/-- a sign's number, or 99 -/
def zsno (sl : Nat → Nat) (T y : Nat) : Nat := (fnd (fun k => nI (97 + sl k)) (nI (97 + y)) T).getD 99
theorem zsno_g (sl : Nat → Nat) (T y : Nat) : zsg sl T y = nI (zsno sl T y) := by
  unfold zsg zsno
  cases fnd (fun k => nI (97 + sl k)) (nI (97 + y)) T with
  | none => rfl
  | some k => rfl
theorem zsno_ok (sl : Nat → Nat) (T y : Nat) : zsno sl T y ≤ T ∨ zsno sl T y = 99 := by
  unfold zsno
  cases h : fnd (fun k => nI (97 + sl k)) (nI (97 + y)) T with
  | none => exact Or.inr rfl
  | some k => exact Or.inl (Nat.le_of_lt (fnd_lt h).1)
theorem SnX.k {m : Nat} {ln : Nat → Nat} {yy : Nat → Nat → Nat} {u v : SX} (h : SnX m ln yy u) (f : frK u v) : SnX m ln yy v := by
  unfold SnX at h ⊢
  rw [f.1 11 0 (Or.inl (by omega)), f.2.1 12 (Or.inl (by omega)), f.2.1 13 (Or.inl (by omega))]
  exact h
theorem TXc.k {G : ZGT} {nb : Nat → Int32} {sl : Nat → Nat} {u v : SX} (h : TXc G nb sl u) (f : frK u v) : TXc G nb sl v := by
  unfold TXc at h ⊢
  rw [f.2.1 7 (Or.inl (by omega)), f.2.1 9 (Or.inl (by omega)), f.2.1 10 (Or.inl (by omega))]
  exact h
section XSen
variable {P : YP} {G : ZGT} {kd m : Nat} {o : Option ZAS} {u : SX} {ln : Nat → Nat} {yy : Nat → Nat → Nat} {nb : Nat → Int32} {sl : Nat → Nat}
theorem y_rput (hl : u.1 87 3 = nI m) (h24 : m < 24) (x : Int32) : EvQ (ZY P) mX8_put [.ref 87, .int x] u (fun r v => r = none ∧ v.1 87 3 = nI (m + 1) ∧ v.2.1 88 = upd (u.2.1 88) m x ∧ frX [(87, 3)] [88] u v) := by
  refine EQ_V vX8_put rfl ?_
  refine RQ_n (ZY_ok P) 3 rfl trivial ?_
  rw [hl]
  refine RQ_b rfl (fun z => ?_) (fun _ => ?_)
  · have := (zq_le (a := 24) (b := m) rfl rfl (by omega) (by omega)).mp z
    omega
  refine RQ_n (ZY_ok P) 5 rfl trivial ?_
  rw [hl]
  refine RQ_n (ZY_ok P) 1 rfl ⟨nI_in (by omega) (by omega), trivial⟩ ?_
  rw [nI_clamp (show m < 2 ^ 31 by omega)]
  obtain ⟨v1, hv1⟩ : ∃ w : SX, w = (u.1, updA u.2.1 88 m x, u.2.2) := ⟨_, rfl⟩
  rw [← hv1]
  refine RQ_n (ZY_ok P) 6 rfl trivial ?_
  rw [show v1.1 87 3 = nI m by rw [hv1]; exact hl, show nI m + 1 = nI (m + 1) from nI_add m 1]
  refine RQ_to (Rn_vret rfl rfl) ⟨rfl, ?_, ?_, ?_⟩
  · show updI v1.1 87 3 (nI (m + 1)) 87 3 = _
    rw [updI_eq, updS_at]
  · show v1.2.1 88 = _
    rw [hv1]; rfl
  · refine frX.tr ?_ (frX.i 87 3 (by decide))
    rw [hv1]; exact frX.a 88 (by decide)
theorem y_isSentence (hG : ZGX G u) (h : SnX m ln yy u) (x : Int32) : Ev (ZY P) mX11_isSentence [.ref 0, .int x] u (some (.int (bI (zix x m).isSome))) u := by
  have hb := hG.b
  have h4 := h.2.1
  refine EQ_ev ?_
  refine EQ_V vX11_isSentence rfl ?_
  have no : zix x m = none → RnQ (ZY P) mX11_isSentence (29, [some (.ref 0), some (.int x)], [], u) (fun y v => y = some (.int (bI (zix x m).isSome)) ∧ v = u) := by
    intro e
    refine RQ_n (ZY_ok P) 1 rfl trivial ?_
    rw [e]
    exact RQ_to (Rn_zret rfl rfl (Or.inl rfl)) ⟨rfl, rfl⟩
  refine RQ_n (ZY_ok P) 3 rfl trivial ?_
  rw [hG.2.1.1]
  refine RQ_b rfl (fun z => ?_) (fun _ => ?_)
  · have := (zq_le (a := zgR G) (b := 0) rfl rfl (by omega) (by omega)).mp z
    omega
  refine RQ_n (ZY_ok P) 1 rfl trivial ?_
  cases e : zix x m with
  | none =>
    rw [e] at no
    refine RQ_b rfl (fun _ => no rfl) (fun z => ?_)
    refine RQ_n (ZY_ok P) 4 rfl trivial ?_
    rw [h.1]
    exact RQ_b rfl (fun _ => no rfl) (fun y => absurd (zix_ge (by omega) e z) y)
  | some k =>
    obtain ⟨z1, z2⟩ := zix_lt (by omega) e
    refine RQ_b rfl (fun z => absurd z z1) (fun _ => ?_)
    refine RQ_n (ZY_ok P) 4 rfl trivial ?_
    rw [h.1]
    refine RQ_b rfl (fun z => absurd z z2) (fun _ => ?_)
    refine RQ_n (ZY_ok P) 2 rfl trivial ?_
    exact RQ_to (Rn_zret rfl rfl (Or.inr rfl)) ⟨rfl, rfl⟩
theorem y_sletterAt (u : SX) {k j : Nat} (hk : k < 4) (hj : j < 24) : Ev (ZY P) mX9_letterAt [.ref 11, .int (nI k), .int (nI j)] u (some (.int (u.2.1 13 (24 * k + j)))) u := by
  refine EQ_ev ?_
  refine EQ_V vX9_letterAt rfl ?_
  refine RQ_n (ZY_ok P) 7 rfl trivial ?_
  rw [show nI k * 24 + nI j = nI (24 * k + j) by rw [show (24 : Int32) = nI 24 from rfl, nI_mul, nI_add, Nat.mul_comm]]
  refine RQ_n (ZY_ok P) 1 rfl ⟨nI_in (by omega) (by omega), trivial⟩ ?_
  rw [nI_clamp (show 24 * k + j < 2 ^ 31 by omega)]
  exact RQ_to (Rn_iret rfl rfl) ⟨rfl, rfl⟩
theorem zy11 (s : SX) {MX : MD} (h : MX.1 = 9) : zrc (ZY P) MX s 11 = true := zyr (ci := 9) rfl h (by omega)
/-- what a run changes leaves the kind as it was -/
theorem XK.run {v : SX} (h : XK P G o u) (h1 : ∀ b j, ¬ (b = 87 ∧ j ∈ [2, 5, 9, 11, 12, 13, 14]) → v.1 b j = u.1 b j) (h2 : ∀ a, a ∉ [89, 90, 91, 92, 93, 94, 95, 96] → v.2.1 a = u.2.1 a) (h3 : v.2.2.1 = u.2.2.1) (h4 : v.2.2.2.1 = updW u.2.2.2.1 87 1 (.ref 47)) (h5 : v.2.2.2.2 = u.2.2.2.2) : XK P G o v ∧ frK u v := by
  obtain ⟨hh, hR, -⟩ := h.1.2.1
  have hw : ∀ b j, b ≠ 87 → updW u.2.2.2.1 87 1 (.ref 47) b j = u.2.2.2.1 b j := fun b j hb => by rw [updW_ne hb]
  have H : XK P G o (u.1, u.2.1, u.2.2.1, updW u.2.2.2.1 87 1 (.ref 47), u.2.2.2.2) := by
    obtain ⟨⟨⟨y1, y2, y3⟩, hI2⟩, hF, hA, hT⟩ := h
    refine ⟨⟨⟨y1, fun b j => ?_, y3⟩, hI2⟩, hF, hA, hT⟩
    show zsv (3 * u.2.2.2.2.1 + 99) (updW u.2.2.2.1 87 1 (.ref 47) b j) = true
    by_cases e : b = 87
    · subst e
      rw [updW_eq]
      cases e1 : Nat.beq j 1 with
      | true =>
        show zsv (3 * u.2.2.2.2.1 + 99) (bif Nat.beq j 1 then .ref 47 else u.2.2.2.1 87 j) = true
        rw [e1]
        exact zblt (by omega)
      | false =>
        show zsv (3 * u.2.2.2.2.1 + 99) (bif Nat.beq j 1 then .ref 47 else u.2.2.2.1 87 j) = true
        rw [e1]
        exact y2 87 j
    · rw [hw b j e]; exact y2 b j
  have f : frX [(87, 2), (87, 5), (87, 9), (87, 11), (87, 12), (87, 13), (87, 14)] [89, 90, 91, 92, 93, 94, 95, 96] (u.1, u.2.1, u.2.2.1, updW u.2.2.2.1 87 1 (.ref 47), u.2.2.2.2) v := by
    refine ⟨fun b j hn => h1 b j (fun y => hn ?_), fun a ha => h2 a ha, ?_⟩
    · obtain ⟨y1, y2⟩ := y
      simp only [List.mem_cons, List.not_mem_nil, or_false, Prod.mk.injEq] at y2 ⊢; omega
    · show v.2.2 = (u.2.2.1, updW u.2.2.2.1 87 1 (.ref 47), u.2.2.2.2)
      rw [← h3, ← h4, ← h5]
  refine ⟨H.fr f (by decide) (by decide), fun b j hb => h1 b j (by omega), fun b hb => h2 b (fun y => ?_), h3, fun b j hb => by rw [h4, hw b j hb], fun a i _ => by rw [h5], fun a i c _ hc => ?_⟩
  · simp only [List.mem_cons, List.not_mem_nil, or_false] at y; omega
  · have hc99 : 99 ≤ c := (hR.lt hc).2.1
    refine ⟨h1 c 0 (by omega), h2 _ (fun y => ?_), h2 _ (fun y => ?_)⟩
    · simp only [List.mem_cons, List.not_mem_nil, or_false] at y; omega
    · simp only [List.mem_cons, List.not_mem_nil, or_false] at y; omega
/-- which sentence, which mode -/
def zrqs (m : Nat) (x1 x2 : Int32) : Option (Nat × Nat) := match zix x1 m with
  | none => none
  | some k => match zix x2 3 with
    | none => none
    | some md => some (k, md)
set_option maxHeartbeats 1000000 in
theorem y_readsSentence {A : ZAS} (hP2 : P.2.2 kd = some 47) (hk3 : kd < 3) (hZ : ZAt G kd (some A)) (h : XK P G (some A) u) (h3 : u.1 36 3 = 0) (hS : SnX m ln yy u) (hTX : TXc G nb sl u) (x1 x2 : Int32) :
    EvQ (ZY P) mX11_readsSentence [.ref 0, .int (nI kd), .int x1, .int x2] u (fun x v => x = some (.int (bI (zrqs m x1 x2).isSome)) ∧ XK P G (some A) v ∧ v.1 36 3 = 0 ∧ frK u v ∧ v.2.2.2.2.1 = u.2.2.2.2.1 ∧ ∀ k md, zrqs m x1 x2 = some (k, md) → ∃ w, XRn (xrt G (zN A) (u.1 3 4) md (ln k) (fun i => zsno sl (zgT G) (yy k i)) w) v ∧ XT G (zN A) (u.1 3 4) v ∧ v.2.2.2.1 87 1 = .ref 47 ∧ v.1 87 2 = nI md) := by
  obtain ⟨w1, w2, w3, w4⟩ := h.v hZ h3
  have hG := h.2.1.1
  have hb := hG.b
  have hm4 := hS.2.1
  obtain ⟨hh, hR, -⟩ := h.1.2.1
  refine EQ_V vX11_readsSentence rfl ?_
  have no : zrqs m x1 x2 = none → RnQ (ZY P) mX11_readsSentence (17, [some (.ref 0), some (.int (nI kd)), some (.int x1), some (.int x2), none], [], u) (fun x v => x = some (.int (bI (zrqs m x1 x2).isSome)) ∧ XK P G (some A) v ∧ v.1 36 3 = 0 ∧ frK u v ∧ v.2.2.2.2.1 = u.2.2.2.2.1 ∧ ∀ k md, zrqs m x1 x2 = some (k, md) → ∃ w, XRn (xrt G (zN A) (u.1 3 4) md (ln k) (fun i => zsno sl (zgT G) (yy k i)) w) v ∧ XT G (zN A) (u.1 3 4) v ∧ v.2.2.2.1 87 1 = .ref 47 ∧ v.1 87 2 = nI md) := by
    intro e
    refine RQ_n (ZY_ok P) 1 rfl trivial ?_
    refine RQ_to (Rn_zret rfl rfl (Or.inl rfl)) ⟨by rw [e]; rfl, h, h3, frK.rf, rfl, fun k md q => ?_⟩
    rw [e] at q; cases q
  refine RQ_n (ZY_ok P) 2 rfl trivial ?_
  refine RQ_v vX11_isSentence (y_isSentence hG hS x1) rfl k11_168 rfl rfl rfl (zy0 _ rfl) rfl ?_
  cases e1 : zix x1 m with
  | none =>
    have : zrqs m x1 x2 = none := by unfold zrqs; rw [e1]
    exact RQ_b rfl (fun _ => no this) (fun z => absurd rfl z)
  | some k =>
  obtain ⟨k1, k2⟩ := zix_s e1
  refine RQ_b rfl (fun z => absurd (show (1 : Int32) = 0 from z) (by decide)) (fun _ => ?_)
  refine RQ_n (ZY_ok P) 1 rfl trivial ?_
  cases e2 : zix x2 3 with
  | none =>
    have : zrqs m x1 x2 = none := by unfold zrqs; rw [e1, e2]
    refine RQ_b rfl (fun _ => no this) (fun z => ?_)
    refine RQ_n (ZY_ok P) 2 rfl trivial ?_
    exact RQ_b rfl (fun y => absurd (zix_ge (n := 3) (by omega) e2 z) (Int32.not_le.mpr y)) (fun _ => no this)
  | some md =>
  obtain ⟨m1, m2⟩ := zix_s e2
  have erq : zrqs m x1 x2 = some (k, md) := by unfold zrqs; rw [e1, e2]
  obtain ⟨z1, z2⟩ := zix_lt (by omega) e2
  refine RQ_b rfl (fun z => absurd z z1) (fun _ => ?_)
  refine RQ_n (ZY_ok P) 2 rfl trivial ?_
  refine RQ_b rfl (fun _ => ?_) (fun y => absurd (Int32.not_lt.mp y) z2)
  clear no
  subst k2
  subst m2
  obtain ⟨s1, s2, s3⟩ := hS.2.2 k k1
  refine RQ_n (ZY_ok P) 6 rfl trivial ?_
  obtain ⟨u1, hu1⟩ : ∃ x : SX, x = (updI u.1 87 3 0, u.2) := ⟨_, rfl⟩
  show RnQ (ZY P) mX11_readsSentence (30, _, _, ((updI u.1 87 3 0, u.2) : SX)) _
  rw [← hu1]
  have f1 : frX [(87, 3)] [88] u u1 := by rw [hu1]; exact frX.i 87 3 (by decide)
  refine loopU (ln k) (fun i (_ : Unit) => [some (.ref 0), some (.int (nI kd)), some (.int (nI k)), some (.int (nI md)), some (.int (nI i))]) (fun i _ w => w.1 87 3 = nI i ∧ (∀ j, j < i → w.2.1 88 j = nI (zsno sl (zgT G) (yy k j))) ∧ frX [(87, 3)] [88] u w) ?_ 0 () u1 (by omega) ⟨by rw [hu1]; rfl, fun j hj => by omega, f1⟩
  intro i _ w hi hJ ih
  obtain ⟨g1, g2, g3⟩ := hJ
  have hk4 : k < 4 := by omega
  refine RQ_n (ZY_ok P) 5 rfl trivial ?_
  refine RQ_n (ZY_ok P) 1 rfl ⟨nI_in (by omega) (by omega), trivial⟩ ?_
  rw [nI_clamp (show k < 2 ^ 31 by omega), g3.2.1 12 (by decide), s1]
  refine RQ_b rfl (fun z => ?_) (fun z => ?_)
  rotate_left
  · have z := (not_congr (zq_le (a := ln k) (b := i) rfl rfl (by omega) (by omega))).mp z
    obtain ⟨t1, t2⟩ := s3 i (by omega)
    refine RQ_n (ZY_ok P) 9 rfl trivial ?_
    have hla := y_sletterAt (P := P) w hk4 (show i < 24 by omega)
    rw [g3.2.1 13 (by decide), t1] at hla
    refine RQ_v vX9_letterAt hla rfl k11_175 rfl rfl rfl (zy11 _ rfl) rfl ?_
    refine RQ_n (ZY_ok P) 1 rfl ⟨nI_in (by omega) (by omega), trivial⟩ ?_
    rw [nI_clamp (show yy k i < 2 ^ 31 by omega), g3.2.1 10 (by decide), hTX.2.2 _ t2, zsno_g]
    refine RQ_V vX8_put (y_rput g1 (show i < 24 by omega) _) rfl k11_361 rfl rfl rfl (zy87 _ rfl) (fun _ s1 q => by show 3 * s1.2.2.2.2.1 + 99 = 3 * w.2.2.2.2.1 + 99; rw [q.2.2.2.2.2]) ?_
    rintro r2 v2 ⟨rfl, p1, p2, p3⟩
    refine RQ_n (ZY_ok P) 2 rfl trivial ?_
    refine ih (by omega) () _ _ ⟨rfl, rfl, rfl, rfl, nIs i, trivial⟩ ⟨p1, fun j hj => ?_, g3.tr p3⟩
    rw [p2]
    by_cases y : j = i
    · rw [y, upd_at]
    · rw [upd_ne y]; exact g2 j (by omega)
  have z := (zq_le (a := ln k) (b := i) rfl rfl (by omega) (by omega)).mp z
  have hie : i = ln k := by omega
  subst hie
  clear ih
  have hw : XK P G (some A) w := h.fr g3 (by decide) (by decide)
  have hw3 : w.1 36 3 = 0 := (g3.1 36 3 (by decide)).trans h3
  have hfw : frK u w := g3.k hR (by decide) (by decide)
  refine RQ_n (ZY_ok P) 4 rfl trivial ?_
  refine RQ_V vX11_actionsOf (y_actionsOf hP2 hk3 hZ hw hw3) rfl k11_282 rfl rfl rfl (zy0 _ rfl) (fun _ s1 q => by show 3 * s1.2.2.2.2.1 + 99 = 3 * w.2.2.2.2.1 + 99; rw [q.2.2.2.2.2.1.2.2]) ?_
  rintro r2 v2 ⟨rfl, q1, q2, q3, q4, q5, q6⟩
  have e34 : v2.1 3 4 = u.1 3 4 := q4.trans (g3.1 3 4 (by decide))
  rw [e34] at q3
  obtain ⟨-, -, y3, -⟩ := q1.v hZ q2
  refine RQ_n (ZY_ok P) 1 rfl trivial ?_
  refine RQ_V vX8_run (y_run (p := u.1 3 4) (len := ln k) (inp := fun i => zsno sl (zgT G) (yy k i)) q1.2.1.1 w2 y3 q3 m1 ((q5.1 87 3 (by decide)).trans g1) s2 (fun i hi => by rw [q5.2.1 88 (by decide)]; exact g2 i hi) (fun i _ => zsno_ok sl (zgT G) (yy k i))) rfl k11_362 rfl rfl rfl (zy87 _ rfl) (fun _ s1 q => by show 3 * s1.2.2.2.2.1 + 99 = 3 * v2.2.2.2.2.1 + 99; rw [q.2.2.2.2.2.2.2.2]) ?_
  rintro r4 v4 ⟨rfl, t1, t2, t3, t4, t5, t6, t7, t8⟩
  obtain ⟨b1, b2⟩ := q1.run t4 t5 t6 t7 t8
  refine RQ_n (ZY_ok P) 1 rfl trivial ?_
  refine RQ_to (Rn_zret rfl rfl (Or.inr rfl)) ⟨by rw [erq]; rfl, b1, (t4 36 3 (by simp)).trans q2, hfw.tr (q6.tr b2), ?_, fun k' md' e => ?_⟩
  · rw [t8, q5.2.2, g3.2.2]
  · rw [erq] at e
    cases e
    refine ⟨v2, t1, ?_, t2, t3⟩
    unfold XT at q3 ⊢
    rw [t5 48 (by decide), t5 49 (by decide), t5 50 (by decide)]
    exact q3
end XSen
