/-! The class: isThere, actionsOf; what holds of one kind. -/
theorem zy0 {P : YP} {MX : MD} (s : SX) (h : MX.1 = 11) : zrc (ZY P) MX s 0 = true := zyr (ci := 11) rfl h (by omega)
/-- what calls by a kind may change -/
def frK (u v : SX) : Prop := (∀ b j, (b < 25 ∨ (33 < b ∧ b < 36) ∨ (52 < b ∧ b < 87)) → v.1 b j = u.1 b j) ∧ (∀ b, (b < 25 ∨ (33 < b ∧ b < 36) ∨ (52 < b ∧ b < 87)) → v.2.1 b = u.2.1 b) ∧ v.2.2.1 = u.2.2.1 ∧ (∀ b j, b ≠ 87 → v.2.2.2.1 b j = u.2.2.2.1 b j) ∧ (∀ a i, a ≠ 37 → v.2.2.2.2.2 a i = u.2.2.2.2.2 a i) ∧ ∀ a i c, a ≠ 37 → u.2.2.2.2.2 a i = some c → v.1 c 0 = u.1 c 0 ∧ v.2.1 (c + 1) = u.2.1 (c + 1) ∧ v.2.1 (c + 2) = u.2.1 (c + 2)
theorem frK.rf {u : SX} : frK u u := ⟨fun _ _ _ => rfl, fun _ _ => rfl, rfl, fun _ _ _ => rfl, fun _ _ _ => rfl, fun _ _ _ _ _ => ⟨rfl, rfl, rfl⟩⟩
theorem frK.tr {u v w : SX} (h1 : frK u v) (h2 : frK v w) : frK u w := by
  refine ⟨fun b j hb => (h2.1 b j hb).trans (h1.1 b j hb), fun b hb => (h2.2.1 b hb).trans (h1.2.1 b hb), h2.2.2.1.trans h1.2.2.1, fun b j hb => (h2.2.2.2.1 b j hb).trans (h1.2.2.2.1 b j hb), fun a i ha => (h2.2.2.2.2.1 a i ha).trans (h1.2.2.2.2.1 a i ha), fun a i c ha hc => ?_⟩
  obtain ⟨a1, a2, a3⟩ := h1.2.2.2.2.2 a i c ha hc
  obtain ⟨b1, b2, b3⟩ := h2.2.2.2.2.2 a i c ha (by rw [h1.2.2.2.2.1 a i ha]; exact hc)
  exact ⟨b1.trans a1, b2.trans a2, b3.trans a3⟩
theorem frD.k {u v : SX} (h : frD u v) : frK u v := by
  refine ⟨fun b j hb => h.1 b j (by omega) (fun y => ?_), fun b hb => h.2.1 b (by omega) (fun y => ?_), h.2.2.1, fun b j _ => by rw [h.2.2.2.1], h.2.2.2.2.1, h.2.2.2.2.2⟩
  · simp only [List.mem_cons, List.not_mem_nil, or_false, Prod.mk.injEq] at y; omega
  · simp only [List.mem_cons, List.not_mem_nil, or_false] at y; omega
theorem frX.k {h : Nat → Nat} {u v : SX} {ks : List (Nat × Nat)} {as : List Nat} (f : frX ks as u v) (hR : KRw h u) (h1 : ∀ x ∈ ks, x.1 < 99 ∧ ¬ (x.1 < 25 ∨ (33 < x.1 ∧ x.1 < 36) ∨ (52 < x.1 ∧ x.1 < 87))) (h2 : ∀ a ∈ as, a < 99 ∧ ¬ (a < 25 ∨ (33 < a ∧ a < 36) ∨ (52 < a ∧ a < 87))) : frK u v := by
  refine ⟨fun b j hb => f.1 b j (fun y => (h1 _ y).2 hb), fun b hb => f.2.1 b (fun y => (h2 _ y).2 hb), by rw [f.2.2], fun b j _ => by rw [f.2.2], fun a i _ => by rw [f.2.2], fun a i c _ hc => ?_⟩
  have hc99 : 99 ≤ c := (hR.lt hc).2.1
  refine ⟨f.1 c 0 (fun y => ?_), f.2.1 (c + 1) (fun y => ?_), f.2.1 (c + 2) (fun y => ?_)⟩
  · have := (h1 _ y).1; dsimp only at this; omega
  · have := (h2 _ y).1; omega
  · have := (h2 _ y).1; omega
theorem ZFX.k {G : ZGT} {u v : SX} (h : ZFX G u) (h1 : ∀ b j, b < 25 → v.1 b j = u.1 b j) (h2 : ∀ b, b < 25 → v.2.1 b = u.2.1 b) : ZFX G v := by
  unfold ZFX ZGX RSX SR at h ⊢
  rw [h1 3 0 (by omega), h1 3 1 (by omega), h1 3 2 (by omega), h1 3 3 (by omega), h1 14 1 (by omega), h1 14 2 (by omega), h1 14 3 (by omega), h2 4 (by omega), h2 5 (by omega), h2 6 (by omega), h2 15 (by omega), h2 16 (by omega), h2 17 (by omega), h2 18 (by omega)]
  exact h
theorem ZFX.fk {G : ZGT} {u v : SX} (h : ZFX G u) (f : frK u v) : ZFX G v := h.k (fun b j hb => f.1 b j (Or.inl hb)) (fun b hb => f.2.1 b (Or.inl hb))
theorem XI.fr {P : YP} {u v : SX} {ks : List (Nat × Nat)} {as : List Nat} (h : XI P u) (f : frX ks as u v) (h1 : (25, 3) ∉ ks) : XI P v := by
  obtain ⟨a1, ⟨k, a2, a3⟩, hd, a4, a5⟩ := h
  exact ⟨a1.fr f.2.2, ⟨k, a2.fr f.2.2, a3⟩, hd, a4, (f.1 25 3 h1).trans a5⟩
/-- the automaton, if it is not stale; the actions, if they are not -/
def XKa (G : ZGT) (o : Option ZAS) (v : SX) : Prop := v.1 36 3 = 1 ∨ (v.1 36 3 = 0 ∧ match o with | none => v.1 36 4 = 0 | some A => v.1 36 4 = 1 ∧ XF G A v)
def XKt (G : ZGT) (o : Option ZAS) (v : SX) : Prop := v.1 47 3 = 1 ∨ (v.1 47 3 = 0 ∧ v.1 36 3 = 0 ∧ ∃ A, o = some A ∧ XT G (zN A) (v.1 3 4) v)
def XK (P : YP) (G : ZGT) (o : Option ZAS) (v : SX) : Prop := XI P v ∧ ZFX G v ∧ XKa G o v ∧ XKt G o v
theorem ZFX.c {G : ZGT} {u : SX} (h : ZFX G u) : zlE G (zE0 G) ∧ zlF G (zE0 G) (zF0 G) ∧ u.1 14 1 = zE0 G ∧ ∀ n, n < 6 → u.2.1 15 n = zF0 G n := by
  obtain ⟨-, h1, h2, -⟩ := h
  have e := zE0_eq h1
  rw [e] at h2
  exact ⟨zE0_ok h1, zF0_ok h2, e, zF0_eq h2⟩
theorem ZFX.fe {G : ZGT} {u : SX} (h : ZFX G u) : FE G (u.1 14 1) (u.2.1 15) u := ⟨rfl, rfl, h.2.2.2.1⟩
theorem ZFX.f5 {G : ZGT} {u : SX} (h : ZFX G u) : ∀ n, n < 6 → bsub (u.2.1 15 n) 511 := h.2.2.1.2 _ (zcF_511 h.1.1 _)
/-- what build leaves, by the grammar alone -/
theorem bdR.k {P : YP} {G : ZGT} {kd : Nat} {o : Option ZAS} {E : Int32} {F : Nat → Int32} {v : SX} (hG : GW G) (hE : E = zE0 G) (hF : ∀ n, n < 6 → F n = zF0 G n) (hZ : ZAt G kd o) (h3 : v.1 36 3 = 0) (h : bdR P G E F kd v) : XKa G o v := by
  subst hE
  refine Or.inr ⟨h3, ?_⟩
  rcases h with ⟨j, A, b1, b2, b3, b4, b5, b6, b7, b8, b9⟩ | ⟨j, b1, b2⟩
  · rw [zitr_F hG hF] at b1
    have e : o = some A := ZAt_un hZ (show ZAt G kd (some A) from ⟨⟨j, b1⟩, b2⟩)
    subst e
    exact ⟨b5, b3.1, b3.2.1, b3.2.2.1, b3.2.2.2.1, fun s hs hq => zlO_F hG hF (b8 s hs hq), b9⟩
  · rw [zitr_F hG hF] at b1
    have e : o = none := ZAt_un hZ (show ZAt G kd none from ⟨j, b1⟩)
    subst e
    exact b2
section XTh
variable {P : YP} {G : ZGT} {kd : Nat} {o : Option ZAS} {u : SX}
theorem y_isThere (hP : P.2.1 kd = some 36) (hk : P.1 0 = nI kd) (hk3 : kd < 3) (hZ : ZAt G kd o) (h : XK P G o u) : EvQ (ZY P) mX11_isThere [.ref 0, .int (nI kd)] u (fun x v => x = some (.int (bI o.isSome)) ∧ XK P G o v ∧ v.1 36 3 = 0 ∧ v.1 3 4 = u.1 3 4 ∧ frK u v) := by
  obtain ⟨hI, hF, hA, hT⟩ := h
  have hb := hF.1.b
  have hin : vp_in (nI kd) 3 := nI_in (by omega) (by omega)
  have hic : (nI kd).toNatClampNeg = kd := nI_clamp (by omega)
  -- the end
  have fin : ∀ v : SX, XK P G o v → v.1 36 3 = 0 → v.1 3 4 = u.1 3 4 → frK u v → RnQ (ZY P) mX11_isThere (46, [some (.ref 0), some (.int (nI kd))], [], v) (fun x v => x = some (.int (bI o.isSome)) ∧ XK P G o v ∧ v.1 36 3 = 0 ∧ v.1 3 4 = u.1 3 4 ∧ frK u v) := by
    intro v hv h3 h34 hf
    refine RQ_n (ZY_ok P) 4 rfl ⟨hin, trivial⟩ ?_
    rw [hic, hP]
    refine RQ_n (ZY_ok P) 1 rfl trivial ?_
    have e : v.1 36 4 = bI o.isSome := by
      rcases hv.2.2.1 with y | ⟨-, y⟩
      · rw [h3] at y; exact absurd y (by decide)
      · cases o with
        | none => exact y
        | some A => exact y.1
    rw [e]
    exact RQ_to (Rn_zret rfl rfl (bI_01 _)) ⟨rfl, hv, h3, h34, hf⟩
  refine EQ_V vX11_isThere rfl ?_
  refine RQ_n (ZY_ok P) 3 rfl trivial ?_
  rw [hF.1.2.1.1]
  refine RQ_b rfl (fun z => ?_) (fun _ => ?_)
  · have := (zq_eq (a := zgR G) (b := 0) rfl rfl (by omega) (by omega)).mp z
    omega
  refine RQ_n (ZY_ok P) 1 rfl trivial ?_
  refine RQ_b rfl (fun z => ?_) (fun _ => ?_)
  · have := (zq_lt (a := kd) (b := 0) rfl rfl (by omega) (by omega)).mp z
    omega
  refine RQ_n (ZY_ok P) 2 rfl trivial ?_
  refine RQ_b rfl (fun _ => ?_) (fun z => absurd ((zq_lt (a := kd) (b := 3) rfl rfl (by omega) (by omega)).mpr hk3) z)
  refine RQ_n (ZY_ok P) 4 rfl ⟨hin, trivial⟩ ?_
  rw [hic, hP]
  refine RQ_n (ZY_ok P) 1 rfl trivial ?_
  rcases hA with h3 | ⟨h3, hA⟩
  · rw [h3]
    refine RQ_b rfl (fun z => absurd (show (1 : Int32) = 0 from z) (by decide)) (fun _ => ?_)
    refine RQ_n (ZY_ok P) 5 rfl trivial ?_
    refine RQ_n (ZY_ok P) 1 rfl ⟨hin, trivial⟩ ?_
    rw [hic, hP]
    refine RQ_VN vX2_build (y_build hF.1 hF.fe hF.f5 hk hk3 hI) rfl k11_257 rfl rfl rfl (zy25 _ rfl) ?_ ?_
    · show (((Nat.blt 0 (3 * u.2.2.2.2.1 + 99)) && true) && true) = true
      rw [zblt (show 0 < 3 * u.2.2.2.2.1 + 99 by omega)]; rfl
    rintro r1 v1 ⟨rfl, d1, d2, d3, d4⟩
    have fk := d1.k
    refine fin v1 ⟨d3, hF.fk fk, bdR.k hF.1.1 hF.c.2.2.1 hF.c.2.2.2 hZ d2 d4, Or.inl ?_⟩ d2 (fk.1 3 4 (Or.inl (by omega))) fk
    rw [d1.1 47 3 (by omega) (by decide)]
    rcases hT with y | ⟨-, y, -⟩
    · exact y
    · rw [h3] at y; exact absurd y (by decide)
  · rw [h3]
    refine RQ_b rfl (fun _ => ?_) (fun z => absurd rfl z)
    exact fin u ⟨hI, hF, Or.inr ⟨h3, hA⟩, hT⟩ h3 rfl frK.rf
theorem XK.v {A : ZAS} (hZ : ZAt G kd (some A)) (h : XK P G (some A) u) (h3 : u.1 36 3 = 0) : XF G A u ∧ ZNF G (zN A) ∧ XV G (zN A) u ∧ ZAll G (zE0 G) (zF0 G) A := by
  rcases h.2.2.1 with y | ⟨-, y⟩
  · rw [h3] at y; exact absurd y (by decide)
  · have ha := ZAt_all h.2.1.1.1 h.2.1.c.2.1 hZ
    exact ⟨y.2, zN_F ha hZ.2, y.2.v ha.1 hZ.2, ha⟩
theorem XF.fr {A : ZAS} {v : SX} {ks : List (Nat × Nat)} {as : List Nat} (h : XF G A u) (f : frX ks as u v) (h1 : ∀ x ∈ ks, x.1 < 99 ∧ x ∉ [(36, 5), (36, 10)]) (h2 : ∀ a ∈ as, a < 99 ∧ a ∉ [38, 39, 40, 41, 42, 43, 44, 45]) : XF G A v := by
  obtain ⟨g1, ⟨kc, hks⟩, g3, g4, g5, g6⟩ := h
  have n1 : ∀ c j, (99 ≤ c ∨ (c, j) ∈ [(36, 5), (36, 10)]) → (c, j) ∉ ks := fun c j hc y => by
    rcases hc with hc | hc
    · have := (h1 _ y).1; dsimp only at this; omega
    · exact (h1 _ y).2 hc
  have n2 : ∀ c, (99 ≤ c ∨ c ∈ [38, 39, 40, 41, 42, 43, 44, 45]) → c ∉ as := fun c hc y => by
    rcases hc with hc | hc
    · have := (h2 _ y).1; omega
    · exact (h2 _ y).2 hc
  have e : ∀ c ∈ [38, 39, 40, 41, 42, 43, 44, 45], v.2.1 c = u.2.1 c := fun c hc => f.2.1 c (n2 c (Or.inr hc))
  refine ⟨(f.1 36 5 (n1 _ _ (Or.inr (by decide)))).trans g1, ⟨kc, fun i hi => ?_, hks.2⟩, fun i hi => ?_, fun s hs b hb => ?_, fun s hs hq => ?_, ?_⟩
  · obtain ⟨i1, i2, i3⟩ := hks.1 i hi
    have hc99 : 99 ≤ kc i := i2.1
    exact ⟨by rw [f.2.2]; exact i1, by rw [f.2.2]; exact i2, i3.fr (f.1 _ _ (n1 _ _ (Or.inl hc99))) (f.2.1 _ (n2 _ (Or.inl (by omega)))) (f.2.1 _ (n2 _ (Or.inl (by omega))))⟩
  · obtain ⟨c, c1, c2⟩ := g3 i hi
    exact ⟨c, by rw [e 38 (by decide)]; exact c1, c2⟩
  · rw [e 40 (by decide)]; exact g4 s hs b hb
  · have := g5 s hs hq
    unfold yO at this ⊢
    rw [e 39 (by decide)]; exact this
  · unfold XNb at g6 ⊢
    rw [f.1 36 10 (n1 _ _ (Or.inr (by decide))), e 41 (by decide), e 42 (by decide), e 43 (by decide), e 44 (by decide), e 45 (by decide)]
    exact g6
theorem XT.fr {N : ZNM} {p : Int32} {v : SX} {ks : List (Nat × Nat)} {as : List Nat} (h : XT G N p u) (f : frX ks as u v) (h2 : ∀ a ∈ [48, 49, 50], a ∉ as) : XT G N p v := fun k hk => by
  obtain ⟨a, b, c⟩ := h k hk
  refine ⟨fun t ht => by rw [f.2.1 48 (h2 _ (by decide))]; exact a t ht, by rw [f.2.1 49 (h2 _ (by decide))]; exact b, by rw [f.2.1 50 (h2 _ (by decide))]; exact c⟩
/-- a call that touches neither the automaton nor the actions -/
theorem XK.fr {v : SX} {ks : List (Nat × Nat)} {as : List Nat} (h : XK P G o u) (f : frX ks as u v) (h1 : ∀ x ∈ ks, x.1 < 99 ∧ 25 ≤ x.1 ∧ x ∉ [(25, 3), (36, 3), (36, 4), (36, 5), (36, 10), (47, 3)]) (h2 : ∀ a ∈ as, a < 99 ∧ 25 ≤ a ∧ a ∉ [38, 39, 40, 41, 42, 43, 44, 45, 48, 49, 50]) : XK P G o v := by
  obtain ⟨hI, hF, hA, hT⟩ := h
  have n1 : ∀ c j, (c, j) ∈ [(25, 3), (36, 3), (36, 4), (36, 5), (36, 10), (47, 3)] → (c, j) ∉ ks := fun c j hc y => (h1 _ y).2.2 hc
  have e3 := f.1 36 3 (n1 _ _ (by decide))
  have e4 := f.1 36 4 (n1 _ _ (by decide))
  have e5 := f.1 47 3 (n1 _ _ (by decide))
  have e34 : v.1 3 4 = u.1 3 4 := f.1 3 4 (fun y => by have := (h1 _ y).2.1; dsimp only at this; omega)
  refine ⟨hI.fr f (n1 _ _ (by decide)), hF.k (fun b j hb => f.1 b j (fun y => ?_)) (fun b hb => f.2.1 b (fun y => ?_)), ?_, ?_⟩
  · have := (h1 _ y).2.1; dsimp only at this; omega
  · have := (h2 _ y).2.1; omega
  · unfold XKa at hA ⊢
    rw [e3, e4]
    rcases hA with y | ⟨y, hA⟩
    · exact Or.inl y
    · refine Or.inr ⟨y, ?_⟩
      cases o with
      | none => exact hA
      | some A =>
        refine ⟨hA.1, hA.2.fr f (fun x hx => ⟨(h1 x hx).1, fun y => (h1 x hx).2.2 ?_⟩) (fun a ha => ⟨(h2 a ha).1, fun y => (h2 a ha).2.2 ?_⟩)⟩
        · simp only [List.mem_cons, List.not_mem_nil, or_false] at y ⊢
          rcases y with y | y <;> rw [y] <;> simp
        · simp only [List.mem_cons, List.not_mem_nil, or_false] at y ⊢; omega
  · unfold XKt at hT ⊢
    rw [e3, e5, e34]
    rcases hT with y | ⟨y1, y2, A, y3, y4⟩
    · exact Or.inl y
    · exact Or.inr ⟨y1, y2, A, y3, y4.fr f (fun a ha y => (h2 a y).2.2 (by simp only [List.mem_cons, List.not_mem_nil, or_false] at ha ⊢; omega))⟩
theorem y_actionsOf {A : ZAS} (hP : P.2.2 kd = some 47) (hk3 : kd < 3) (hZ : ZAt G kd (some A)) (h : XK P G (some A) u) (h3 : u.1 36 3 = 0) : EvQ (ZY P) mX11_actionsOf [.ref 0, .int (nI kd)] u (fun x v => x = some (.ref 47) ∧ XK P G (some A) v ∧ v.1 36 3 = 0 ∧ XT G (zN A) (v.1 3 4) v ∧ v.1 3 4 = u.1 3 4 ∧ frX [(47, 3), (47, 7), (47, 8), (47, 9)] [48, 49, 50, 51, 52] u v ∧ frK u v) := by
  have hin : vp_in (nI kd) 3 := nI_in (by omega) (by omega)
  have hic : (nI kd).toNatClampNeg = kd := nI_clamp (by omega)
  obtain ⟨x1, x2, x3, x4⟩ := h.v hZ h3
  obtain ⟨hI, hF, hA, hT⟩ := id h
  obtain ⟨hh, hR, -⟩ := hI.2.1
  refine EQ_V vX11_actionsOf rfl ?_
  refine RQ_n (ZY_ok P) 4 rfl ⟨hin, trivial⟩ ?_
  rw [hic, hP]
  refine RQ_n (ZY_ok P) 1 rfl trivial ?_
  have fin : ∀ v : SX, XK P G (some A) v → v.1 36 3 = 0 → XT G (zN A) (v.1 3 4) v → v.1 3 4 = u.1 3 4 → frX [(47, 3), (47, 7), (47, 8), (47, 9)] [48, 49, 50, 51, 52] u v → frK u v → RnQ (ZY P) mX11_actionsOf (21, [some (.ref 0), some (.int (nI kd))], [], v) (fun x v => x = some (.ref 47) ∧ XK P G (some A) v ∧ v.1 36 3 = 0 ∧ XT G (zN A) (v.1 3 4) v ∧ v.1 3 4 = u.1 3 4 ∧ frX [(47, 3), (47, 7), (47, 8), (47, 9)] [48, 49, 50, 51, 52] u v ∧ frK u v) := by
    intro v a1 a2 a3 a4 a5 a6
    refine RQ_n (ZY_ok P) 4 rfl ⟨hin, trivial⟩ ?_
    rw [hic, hP]
    exact RQ_to (Rn_aret rfl rfl) ⟨rfl, a1, a2, a3, a4, a5, a6⟩
  rcases hT with y | ⟨y1, y2, A', y3, y4⟩
  · rw [y]
    refine RQ_b rfl (fun z => absurd (show (1 : Int32) = 0 from z) (by decide)) (fun _ => ?_)
    refine RQ_n (ZY_ok P) 4 rfl ⟨hin, trivial⟩ ?_
    rw [hic, hP]
    refine RQ_V vX0_fill (y_fillA hF.1 hF.c.2.1 x2 x3) rfl k11_264 rfl rfl rfl (zy47 _ rfl) (fun _ s1 q => by show 3 * s1.2.2.2.2.1 + 99 = 3 * u.2.2.2.2.1 + 99; rw [q.2.2.2.2.2]) ?_
    rintro r1 v1 ⟨rfl, t1, t2, t3⟩
    have e34 : v1.1 3 4 = u.1 3 4 := t3.1 3 4 (by decide)
    have e33 : v1.1 36 3 = 0 := (t3.1 36 3 (by decide)).trans h3
    have hT1 : XT G (zN A) (v1.1 3 4) v1 := by rw [e34]; exact t1
    refine fin v1 ⟨hI.fr t3 (by decide), hF.k (fun b j hb => t3.1 b j (fun y => ?_)) (fun b hb => t3.2.1 b (fun y => ?_)), Or.inr ⟨e33, ?_, x1.fr t3 (by decide) (by decide)⟩, Or.inr ⟨t2, e33, A, rfl, hT1⟩⟩ e33 hT1 e34 t3 (t3.k hR (by decide) (by decide))
    · simp only [List.mem_cons, List.not_mem_nil, or_false, Prod.mk.injEq] at y; omega
    · simp only [List.mem_cons, List.not_mem_nil, or_false] at y; omega
    · rw [t3.1 36 4 (by decide)]
      rcases hA with q | ⟨-, q⟩
      · rw [h3] at q; exact absurd q (by decide)
      · exact q.1
  · rw [y1]
    refine RQ_b rfl (fun _ => ?_) (fun z => absurd rfl z)
    have : A' = A := (Option.some.inj y3).symm
    subst this
    exact fin u h h3 y4 rfl frX.rf frK.rf
end XTh
