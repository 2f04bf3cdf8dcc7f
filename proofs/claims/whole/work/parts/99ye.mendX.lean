/-! What mends: the class. -/
section XMend
variable {P : YP} {G : ZGT} {p : Int32} {kd m : Nat} {o : Option ZAS} {A : ZAS} {u : SX} {ln : Nat → Nat} {yy : Nat → Nat → Nat} {nb : Nat → Int32} {sl : Nat → Nat}
/-- what a reading leaves -/
def XMo (P : YP) (G : ZGT) (A : ZAS) (p : Int32) (u v : SX) : Prop := XK P G (some A) v ∧ v.1 36 3 = 0 ∧ XT G (zN A) p v ∧ frK u v ∧ v.2.2.2.2.1 = u.2.2.2.2.1
def zoI (e : Option Nat) : Int32 := match e with
  | none => -1
  | some s => nI s
theorem zci_ok {T len pl out : Nat} {inp : Nat → Nat} {e : Option Nat} (hi : ∀ i, inp i ≤ T ∨ inp i = 99) (he : ∀ s, e = some s → s < T) (i : Nat) : zci inp pl out e i ≤ T ∨ zci inp pl out e i = 99 := by
  unfold zci
  split
  · exact hi i
  · cases e with
    | none => exact hi _
    | some s =>
      dsimp only
      split
      · exact Or.inl (Nat.le_of_lt (he s rfl))
      · exact hi _
set_option maxHeartbeats 2000000 in
theorem y_endsWellChanged (hZ : ZAt G kd (some A)) (h : XK P G (some A) u) (h3 : u.1 36 3 = 0) (hXT : XT G (zN A) p u) (hS : SnX m ln yy u) (hTX : TXc G nb sl u) {k pl out : Nat} {e : Option Nat} (hk : k < m) (hp : pl + out ≤ ln k) (hc : zcl1 (ln k) out e ≤ 24) (he : ∀ s, e = some s → s < zgT G) :
    EvQ (ZY P) mX11_endsWellChanged [.ref 0, .ref 47, .int (nI k), .int (nI pl), .int (nI out), .int (zoI e)] u (fun x v => x = some (.int (bI (decide ((zcan G (zN A) p 0 (zcl1 (ln k) out e) (zci (fun i => zsno sl (zgT G) (yy k i)) pl out e)).1 = 1)))) ∧ XMo P G A p u v) := by
  obtain ⟨w1, w2, w3, w4⟩ := h.v hZ h3
  have hG := h.2.1.1
  have hb := hG.b
  have hm4 := hS.2.1
  obtain ⟨hh, hR, -⟩ := h.1.2.1
  obtain ⟨s1, s2, s3⟩ := hS.2.2 k hk
  have hk4 : k < 4 := by omega
  obtain ⟨ne, hne⟩ : ∃ ne : Nat, zcl1 (ln k) out e = ln k - out + ne ∧ (e = none ∧ ne = 0 ∨ ∃ s, e = some s ∧ ne = 1) := by
    cases e with
    | none => exact ⟨0, rfl, Or.inl ⟨rfl, rfl⟩⟩
    | some s => exact ⟨1, rfl, Or.inr ⟨s, rfl, rfl⟩⟩
  obtain ⟨hne, hne2⟩ := hne
  obtain ⟨I, hI⟩ : ∃ I, I = zci (fun i => zsno sl (zgT G) (yy k i)) pl out e := ⟨_, rfl⟩
  obtain ⟨L, hL⟩ : ∃ L, L = zcl1 (ln k) out e := ⟨_, rfl⟩
  rw [← hI, ← hL]
  rw [← hL] at hne hc
  have hIok : ∀ i, I i ≤ zgT G ∨ I i = 99 := fun i => by rw [hI]; exact zci_ok (len := 0) (fun j => zsno_ok sl (zgT G) (yy k j)) he i
  have hI1 : ∀ i, i < pl → I i = zsno sl (zgT G) (yy k i) := fun i hi => by rw [hI]; unfold zci; rw [if_pos hi]
  have hI2 : ∀ s, e = some s → I pl = s := fun s q => by rw [hI, q]; unfold zci; rw [if_neg (Nat.lt_irrefl _)]; dsimp only; rw [if_pos rfl]
  have hI3 : ∀ i, pl + out ≤ i → I (i - out + ne) = zsno sl (zgT G) (yy k i) := fun i hi => by
    rw [hI]
    rcases hne2 with ⟨q1, q2⟩ | ⟨s, q1, q2⟩
    · rw [q1, q2]; unfold zci; rw [if_neg (by omega)]; dsimp only; rw [show i - out + 0 + out = i by omega]
    · rw [q1, q2]; unfold zci; rw [if_neg (by omega)]; dsimp only; rw [if_neg (by omega), show i - out + 1 - 1 + out = i by omega]
  have hple : pl + ne ≤ 24 := by omega
  obtain ⟨Q, hQ⟩ : ∃ Q : Option Value → SX → Prop, Q = (fun x v => x = some (.int (bI (decide ((zcan G (zN A) p 0 L I).1 = 1)))) ∧ XMo P G A p u v) := ⟨_, rfl⟩
  rw [← hQ]
  refine EQ_V vX11_endsWellChanged rfl ?_
  -- the rest of the sentence, and the run
  have p63 : ∀ w, w.1 87 3 = nI (pl + ne) → (∀ j, j < pl + ne → w.2.1 88 j = nI (I j)) → frX [(87, 3)] [88] u w → RnQ (ZY P) mX11_endsWellChanged (63, [some (.ref 0), some (.ref 47), some (.int (nI k)), some (.int (nI pl)), some (.int (nI out)), some (.int (zoI e)), some (.int (nI pl))], [], w) Q := by
    intro w g1 g2 g3
    refine RQ_n (ZY_ok P) 4 rfl trivial ?_
    rw [nI_add]
    refine loopU (ln k) (fun i (_ : Unit) => [some (.ref 0), some (.ref 47), some (.int (nI k)), some (.int (nI pl)), some (.int (nI out)), some (.int (zoI e)), some (.int (nI i))]) (fun i _ w => pl + out ≤ i ∧ w.1 87 3 = nI (i - out + ne) ∧ (∀ j, j < i - out + ne → w.2.1 88 j = nI (I j)) ∧ frX [(87, 3)] [88] u w) ?_ (pl + out) () w (by omega) ⟨Nat.le_refl _, by rw [g1, show pl + out - out = pl by omega], fun j hj => g2 j (by omega), g3⟩
    clear g1 g2 g3
    intro i _ w hi hJ ih
    obtain ⟨g0, g1, g2, g3⟩ := hJ
    refine RQ_n (ZY_ok P) 5 rfl trivial ?_
    refine RQ_n (ZY_ok P) 1 rfl ⟨nI_in (by omega) (by omega), trivial⟩ ?_
    rw [nI_clamp (show k < 2 ^ 31 by omega), g3.2.1 12 (by decide), s1]
    refine RQ_b rfl (fun z => ?_) (fun z => ?_)
    rotate_left
    · have z := (not_congr (zq_le (a := ln k) (b := i) rfl rfl (by omega) (by omega))).mp z
      obtain ⟨t1, t2⟩ := s3 i (by omega)
      refine RQ_n (ZY_ok P) 9 rfl trivial ?_
      have hla := y_sletterAt (P := P) w hk4 (show i < 24 by omega)
      rw [g3.2.1 13 (by decide), t1] at hla
      refine RQ_v vX9_letterAt hla rfl k11_175 rfl rfl rfl (zy11 _ rfl) rfl ?_
      refine RQ_n (ZY_ok P) 1 rfl ⟨nI_in (by omega) (by omega), trivial⟩ ?_
      rw [nI_clamp (show yy k i < 2 ^ 31 by omega), g3.2.1 10 (by decide), hTX.2.2 _ t2, zsno_g]
      refine RQ_V vX8_put (y_rput g1 (show i - out + ne < 24 by omega) _) rfl k11_361 rfl rfl rfl (zy87 _ rfl) (fun _ s1 q => by show 3 * s1.2.2.2.2.1 + 99 = 3 * w.2.2.2.2.1 + 99; rw [q.2.2.2.2.2]) ?_
      rintro r2 v2 ⟨rfl, p1, p2, p3⟩
      refine RQ_n (ZY_ok P) 2 rfl trivial ?_
      refine ih (by omega) () _ _ ⟨rfl, rfl, rfl, rfl, rfl, rfl, nIs i, trivial⟩ ⟨by omega, by rw [p1, show i + 1 - out + ne = i - out + ne + 1 by omega], fun j hj => ?_, g3.tr p3⟩
      rw [p2]
      by_cases y : j = i - out + ne
      · rw [y, upd_at, hI3 i g0]
      · rw [upd_ne y]; exact g2 j (by omega)
    have z := (zq_le (a := ln k) (b := i) rfl rfl (by omega) (by omega)).mp z
    have hie : i = ln k := by omega
    subst hie
    clear ih
    have hw : XK P G (some A) w := h.fr g3 (by decide) (by decide)
    have hw3 : w.1 36 3 = 0 := (g3.1 36 3 (by decide)).trans h3
    have hfw : frK u w := g3.k hR (by decide) (by decide)
    obtain ⟨-, -, y3, -⟩ := hw.v hZ hw3
    refine RQ_n (ZY_ok P) 4 rfl trivial ?_
    refine RQ_V vX8_run (y_run (p := p) (md := 0) (len := L) (inp := I) hw.2.1.1 w2 y3 (hXT.fr g3 (by decide)) (by omega) (by rw [g1, hne]) hc (fun i hi => g2 i (by omega)) (fun i _ => hIok i)) rfl k11_362 rfl rfl rfl (zy87 _ rfl) (fun _ s1 q => by show 3 * s1.2.2.2.2.1 + 99 = 3 * w.2.2.2.2.1 + 99; rw [q.2.2.2.2.2.2.2.2]) ?_
    rintro r4 v4 ⟨rfl, t1, t2, t3, t4, t5, t6, t7, t8⟩
    obtain ⟨b1, b2⟩ := hw.run t4 t5 t6 t7 t8
    have E1 : (xrt G (zN A) p 0 L I w).1 = (zcan G (zN A) p 0 L I).1 := (xr_rr (p := p) (md := 0) hG.1 w2 (fun i _ => hIok i) w zt0).1
    have hM : XMo P G A p u v4 := by
      refine ⟨b1, (t4 36 3 (by simp)).trans hw3, ?_, hfw.tr b2, by rw [t8, g3.2.2]⟩
      have q3 := hXT.fr g3 (by decide)
      unfold XT at q3 ⊢
      rw [t5 48 (by decide), t5 49 (by decide), t5 50 (by decide)]
      exact q3
    refine RQ_n (ZY_ok P) 4 rfl trivial ?_
    rw [t1.1, E1]
    have hlt : (zcan G (zN A) p 0 L I).1 < 3 := by
      unfold zcan rrt
      exact (zrt_end hG.1 w2 (fun i _ => hIok i) 301 _ ⟨rr0_W w2.1.1 zt0, (rr0_W w2.1.1 zt0).k, Nat.zero_le _⟩ (fun _ => rfl)).1
    by_cases y : (zcan G (zN A) p 0 L I).1 = 1
    · refine RQ_b rfl (fun q => absurd ((zq_eq (a := (zcan G (zN A) p 0 L I).1) (b := 1) rfl rfl (by omega) (by omega)).mpr y) q) (fun _ => ?_)
      refine RQ_n (ZY_ok P) 2 rfl trivial ?_
      rw [hQ]
      refine RQ_to (Rn_zret rfl rfl (Or.inr rfl)) ⟨by rw [decide_eq_true y]; rfl, hM⟩
    · refine RQ_b rfl (fun _ => ?_) (fun q => absurd ((zq_eq (a := (zcan G (zN A) p 0 L I).1) (b := 1) rfl rfl (by omega) (by omega)).mp (Classical.not_not.mp q)) y)
      refine RQ_n (ZY_ok P) 1 rfl trivial ?_
      rw [hQ]
      refine RQ_to (Rn_zret rfl rfl (Or.inl rfl)) ⟨by rw [decide_eq_false y]; rfl, hM⟩
  -- the one that is put in
  have p48 : ∀ w, w.1 87 3 = nI pl → (∀ j, j < pl → w.2.1 88 j = nI (I j)) → frX [(87, 3)] [88] u w → RnQ (ZY P) mX11_endsWellChanged (48, [some (.ref 0), some (.ref 47), some (.int (nI k)), some (.int (nI pl)), some (.int (nI out)), some (.int (zoI e)), some (.int (nI pl))], [], w) Q := by
    intro w g1 g2 g3
    refine RQ_n (ZY_ok P) 2 rfl trivial ?_
    rcases hne2 with ⟨q1, q2⟩ | ⟨s, q1, q2⟩
    · subst q2
      refine RQ_b rfl (fun _ => p63 w g1 g2 g3) (fun z => absurd (by rw [q1]; rfl) z)
    · subst q2
      have hs := he s q1
      refine RQ_b rfl (fun z => ?_) (fun _ => ?_)
      · rw [q1] at z
        exact absurd z (nI_m1 (by omega))
      refine RQ_n (ZY_ok P) 3 rfl trivial ?_
      refine RQ_V vX8_put (y_rput g1 (show pl < 24 by omega) _) rfl k11_361 rfl rfl rfl (zy87 _ rfl) (fun _ s1 q => by show 3 * s1.2.2.2.2.1 + 99 = 3 * w.2.2.2.2.1 + 99; rw [q.2.2.2.2.2]) ?_
      rintro r2 v2 ⟨rfl, p1, p2, p3⟩
      refine p63 v2 p1 (fun j hj => ?_) (g3.tr p3)
      rw [p2]
      by_cases y : j = pl
      · rw [y, upd_at, hI2 s q1, q1]; rfl
      · rw [upd_ne y]; exact g2 j (by omega)
  refine RQ_n (ZY_ok P) 6 rfl trivial ?_
  obtain ⟨u1, hu1⟩ : ∃ x : SX, x = (updI u.1 87 3 0, u.2) := ⟨_, rfl⟩
  show RnQ (ZY P) mX11_endsWellChanged (11, _, _, ((updI u.1 87 3 0, u.2) : SX)) _
  rw [← hu1]
  have f1 : frX [(87, 3)] [88] u u1 := by rw [hu1]; exact frX.i 87 3 (by decide)
  refine loopU pl (fun i (_ : Unit) => [some (.ref 0), some (.ref 47), some (.int (nI k)), some (.int (nI pl)), some (.int (nI out)), some (.int (zoI e)), some (.int (nI i))]) (fun i _ w => w.1 87 3 = nI i ∧ (∀ j, j < i → w.2.1 88 j = nI (I j)) ∧ frX [(87, 3)] [88] u w) ?_ 0 () u1 (by omega) ⟨by rw [hu1]; rfl, fun j hj => by omega, f1⟩
  intro i _ w hi hJ ih
  obtain ⟨g1, g2, g3⟩ := hJ
  refine RQ_n (ZY_ok P) 2 rfl trivial ?_
  refine RQ_b rfl (fun z => ?_) (fun z => ?_)
  · have z := (zq_le (a := pl) (b := i) rfl rfl (by omega) (by omega)).mp z
    have hie : i = pl := by omega
    subst hie
    exact p48 w g1 g2 g3
  have z := (not_congr (zq_le (a := pl) (b := i) rfl rfl (by omega) (by omega))).mp z
  obtain ⟨t1, t2⟩ := s3 i (by omega)
  refine RQ_n (ZY_ok P) 9 rfl trivial ?_
  have hla := y_sletterAt (P := P) w hk4 (show i < 24 by omega)
  rw [g3.2.1 13 (by decide), t1] at hla
  refine RQ_v vX9_letterAt hla rfl k11_175 rfl rfl rfl (zy11 _ rfl) rfl ?_
  refine RQ_n (ZY_ok P) 1 rfl ⟨nI_in (by omega) (by omega), trivial⟩ ?_
  rw [nI_clamp (show yy k i < 2 ^ 31 by omega), g3.2.1 10 (by decide), hTX.2.2 _ t2, zsno_g]
  refine RQ_V vX8_put (y_rput g1 (show i < 24 by omega) _) rfl k11_361 rfl rfl rfl (zy87 _ rfl) (fun _ s1 q => by show 3 * s1.2.2.2.2.1 + 99 = 3 * w.2.2.2.2.1 + 99; rw [q.2.2.2.2.2]) ?_
  rintro r2 v2 ⟨rfl, p1, p2, p3⟩
  refine RQ_n (ZY_ok P) 2 rfl trivial ?_
  refine ih (by omega) () _ _ ⟨rfl, rfl, rfl, rfl, rfl, rfl, nIs i, trivial⟩ ⟨p1, fun j hj => ?_, g3.tr p3⟩
  rw [p2]
  by_cases y : j = i
  · rw [y, upd_at, hI1 i (by omega)]
  · rw [upd_ne y]; exact g2 j (by omega)
end XMend
