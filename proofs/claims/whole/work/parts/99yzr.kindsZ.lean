/-! The class, all kinds: calls by a kind are its own world's calls. -/
theorem EQ_sw {d : Nat} (hd : d < 3) {M : MD} {as : List Value} {u : SX} {Q : Option Value → SX → Prop} (e : EvQ (ZY (YPd d)) M as (swX d u) Q) : EvQ (ZY YP0) M (as.map (ze (zsw d))) u (fun x v => ∃ y w, x = y.map (ze (zsw d)) ∧ v = swX d w ∧ u.2.2.2.2.1 ≤ w.2.2.2.2.1 ∧ Q y w) := by
  rw [ZY_0]
  obtain ⟨x, w, q, he⟩ := e
  have hn : u.2.2.2.2.1 ≤ w.2.2.2.2.1 := by
    have : 3 * u.2.2.2.2.1 + 99 ≤ 3 * w.2.2.2.2.1 + 99 := he.1.1
    omega
  exact ⟨_, _, ⟨x, w, rfl, rfl, hn, q⟩, Ev_sw hd he⟩
theorem zes0 {d k : Nat} (hd : d < 3) (h : k < 36 ∨ 86 < k) : ze (zsw d) (.ref k) = .ref k := by show Value.ref (zsw d k) = _; rw [zsw_99 hd h]
/-- the other kinds' blocks are as they were (d = 3: all kinds') -/
def frO (d : Nat) (u v : SX) : Prop := ∀ d', d' < 3 → d' ≠ d → (∀ b j, 36 ≤ b → b < 53 → (swX d' v).1 b j = (swX d' u).1 b j) ∧ ∀ b, 36 ≤ b → b < 53 → (swX d' v).2.1 b = (swX d' u).2.1 b
theorem frO.rf {d : Nat} {u : SX} : frO d u u := fun _ _ _ => ⟨fun _ _ _ _ => rfl, fun _ _ _ => rfl⟩
theorem frO.tr {d : Nat} {u v w : SX} (h1 : frO d u v) (h2 : frO d v w) : frO d u w := fun d' hd hn => ⟨fun b j x y => ((h2 d' hd hn).1 b j x y).trans ((h1 d' hd hn).1 b j x y), fun b x y => ((h2 d' hd hn).2 b x y).trans ((h1 d' hd hn).2 b x y)⟩
theorem frO.up {d : Nat} {u v : SX} (h : frO 3 u v) : frO d u v := fun d' hd _ => h d' hd (by omega)
theorem frK.o {d : Nat} (hd : d < 3) {u w : SX} (f : frK (swX d u) w) : frO d u (swX d w) := by
  intro d' hd' hne
  refine ⟨fun b j h1 h2 => ?_, fun b h1 h2 => ?_⟩
  · have o := zsw_o hd hd' hne h1 h2
    show w.1 (zsw d (zsw d' b)) j = u.1 (zsw d' b) j
    rw [f.1 _ j (by omega)]
    show u.1 (zsw d (zsw d (zsw d' b))) j = _
    rw [zsw_sw]
  · have o := zsw_o hd hd' hne h1 h2
    show w.2.1 (zsw d (zsw d' b)) = u.2.1 (zsw d' b)
    rw [f.2.1 _ (by omega)]
    show u.2.1 (zsw d (zsw d (zsw d' b))) = _
    rw [zsw_sw]
theorem zsw_r {d b : Nat} (hd : d < 3) (h1 : 36 ≤ b) (h2 : b < 53) : 36 ≤ zsw d b ∧ zsw d b < 87 := by
  rw [zsw_a h1 h2]; omega
theorem frX.o {u v : SX} {ks : List (Nat × Nat)} {as : List Nat} (f : frX ks as u v) (h1 : ∀ x ∈ ks, x.1 < 36 ∨ 86 < x.1) (h2 : ∀ a ∈ as, a < 36 ∨ 86 < a) : frO 3 u v := by
  intro d' hd' _
  refine ⟨fun b j x1 x2 => ?_, fun b x1 x2 => ?_⟩
  · have := zsw_r hd' x1 x2
    exact f.1 _ j (fun y => by have := h1 _ y; dsimp only at this; omega)
  · have := zsw_r hd' x1 x2
    exact f.2.1 _ (fun y => by have := h2 _ y; omega)
theorem frX.z {u v : SX} {ks : List (Nat × Nat)} {as : List Nat} (f : frX ks as u v) (h1 : ∀ x ∈ ks, 24 < x.1) (h2 : ∀ a ∈ as, 24 < a) : frZ u v := ⟨fun b j hb => f.1 b j (fun y => by have := h1 _ y; dsimp only at this; omega), fun b hb => f.2.1 b (fun y => by have := h2 _ y; omega), by rw [f.2.2], fun b j _ => by rw [f.2.2]⟩
section KnZ
variable {G : ZGT} {os : Nat → Option ZAS} {u : SX} {d : Nat} {A : ZAS}
theorem X3.f (h : X3 G os u) : ZFX G u := by
  have := (h 0 (by omega)).2.1.sw (d := 0) (by omega)
  rw [swX_sw] at this
  exact this
theorem X3.in (h : X3 G os u) {v : SX} (f : frX [(87, 3)] [88] u v) : X3 G os v := fun d hd => (h d hd).fr f.sw (by rcases lt3c hd with rfl | rfl | rfl <;> decide) (by rcases lt3c hd with rfl | rfl | rfl <;> decide)
theorem ZFX.s19 {v : SX} (h : ZFX G u) (f : frX [] [19] u v) : ZFX G v := by
  unfold ZFX ZGX RSX SR at h ⊢
  rw [f.1 3 0 (by decide), f.1 3 1 (by decide), f.1 3 2 (by decide), f.1 3 3 (by decide), f.1 14 1 (by decide), f.1 14 2 (by decide), f.1 14 3 (by decide), f.2.1 4 (by decide), f.2.1 5 (by decide), f.2.1 6 (by decide), f.2.1 15 (by decide), f.2.1 16 (by decide), f.2.1 17 (by decide), f.2.1 18 (by decide)]
  exact h
theorem X3.s19 (h : X3 G os u) {v : SX} (f : frX [] [19] u v) : X3 G os v := by
  intro d hd
  have hF := (h.f.s19 f).sw hd
  have fs := f.sw (d := d)
  have fs : frX [] [19] (swX d u) (swX d v) := fs.up (fun x hx => by cases hx) (by rcases lt3c hd with rfl | rfl | rfl <;> decide)
  refine (h d hd).oth ((h d hd).1.fr fs (by decide)) hF (fs.1 3 4 (by decide)) (fun b j _ _ => fs.1 b j (by simp)) (fun b hb1 hb2 => fs.2.1 b (fun y => by have := List.mem_singleton.mp y; omega)) (fun i => by rw [fs.2.2]) (fun i c hc => ?_) (by rw [fs.2.2]; exact Nat.le_refl _)
  obtain ⟨k, hk, -⟩ := (h d hd).1.2.1
  have h99 := (hk.lt hc).2.1
  exact ⟨fs.1 c 0 (by simp), fs.2.1 _ (fun y => by have := List.mem_singleton.mp y; omega), fs.2.1 _ (fun y => by have := List.mem_singleton.mp y; omega)⟩
theorem z_isThere (hd : d < 3) (hZ : ZAt G d (os d)) (h : X3 G os u) : EvQ (ZY YP0) mX11_isThere [.ref 0, .int (nI d)] u (fun x v => x = some (.int (bI (os d).isSome)) ∧ X3 G os v ∧ frZ u v ∧ frO d u v ∧ (swX d v).1 36 3 = 0) := by
  obtain ⟨p1, p2, p3⟩ := YPd_k hd
  have e := EQ_sw hd (y_isThere p1 p3 hd hZ (h d hd))
  rw [List.map_cons, zes0 hd (by omega)] at e
  refine EQ_mono e ?_
  rintro x v ⟨y, w, rfl, rfl, hn, rfl, q1, q2, q3, q4⟩
  exact ⟨rfl, X3_step hd h q1 q4 hn, q4.z hd, q4.o hd, by rw [swX_sw]; exact q2⟩
theorem z_actionsOf (hd : d < 3) (ho : os d = some A) (hZ : ZAt G d (os d)) (h : X3 G os u) (h3 : (swX d u).1 36 3 = 0) : EvQ (ZY YP0) mX11_actionsOf [.ref 0, .int (nI d)] u (fun x v => x = some (.ref (zsw d 47)) ∧ X3 G os v ∧ frZ u v ∧ frO d u v ∧ (swX d v).1 36 3 = 0 ∧ XT G (zN A) (u.1 3 4) (swX d v) ∧ v.2.2.2.2.1 = u.2.2.2.2.1) := by
  obtain ⟨p1, p2, p3⟩ := YPd_k hd
  have hh := h d hd
  rw [ho] at hZ hh
  have e := EQ_sw hd (y_actionsOf p2 hd hZ hh h3)
  rw [List.map_cons, zes0 hd (by omega)] at e
  refine EQ_mono e ?_
  rintro x v ⟨y, w, rfl, rfl, hn, rfl, q1, q2, q3, q4, q5, q6⟩
  rw [← ho] at q1
  have e34 : w.1 3 4 = u.1 3 4 := by
    rw [q4]
    show u.1 (zsw d 3) 4 = _
    rw [zsw_99 hd (by omega)]
  rw [e34] at q3
  refine ⟨rfl, X3_step hd h q1 q6 hn, q6.z hd, q6.o hd, by rw [swX_sw]; exact q2, by rw [swX_sw]; exact q3, ?_⟩
  show w.2.2.2.2.1 = _
  rw [q5.2.2]; rfl
theorem X3.vv (hd : d < 3) (ho : os d = some A) (hZ : ZAt G d (os d)) (h : X3 G os u) (h3 : (swX d u).1 36 3 = 0) : ZNF G (zN A) ∧ XV G (zN A) (swX d u) := by
  have hh := h d hd
  rw [ho] at hZ hh
  obtain ⟨-, a, b, -⟩ := hh.v hZ h3
  exact ⟨a, b⟩
theorem XT.o {N : ZNM} {p : Int32} {d' : Nat} {v : SX} (h : XT G N p (swX d' u)) (hd' : d' < 3) (hne : d' ≠ d) (f : frO d u v) : XT G N p (swX d' v) := by
  unfold XT at h ⊢
  rw [(f d' hd' hne).2 48 (by omega) (by omega), (f d' hd' hne).2 49 (by omega) (by omega), (f d' hd' hne).2 50 (by omega) (by omega)]; exact h
theorem frO.f3 {d' : Nat} {v : SX} (f : frO d u v) (hd' : d' < 3) (hne : d' ≠ d) (h : (swX d' u).1 36 3 = 0) : (swX d' v).1 36 3 = 0 := by rw [(f d' hd' hne).1 36 3 (by omega) (by omega)]; exact h
set_option maxHeartbeats 1000000 in
theorem z_run (hd : d < 3) (ho : os d = some A) (hZ : ZAt G d (os d)) (h : X3 G os u) (h3 : (swX d u).1 36 3 = 0) {p : Int32} (hT : XT G (zN A) p (swX d u)) {len : Nat} {inp : Nat → Nat} (hlen : u.1 87 3 = nI len) (hl24 : len ≤ 24) (hinp : ∀ i, i < len → u.2.1 88 i = nI (inp i)) (hi : ∀ i, i < len → inp i ≤ zgT G ∨ inp i = 99) :
    EvQ (ZY YP0) mX8_run [.ref 87, .ref (zsw d 47), .int (nI 0)] u (fun x v => x = none ∧ v.1 87 11 = nI (zcan G (zN A) p 0 len inp).1 ∧ v.1 87 13 = nI ((zcan G (zN A) p 0 len inp).2.1.1 2) ∧ X3 G os v ∧ frZ u v ∧ frO 3 u v ∧ v.1 87 3 = u.1 87 3 ∧ v.2.1 88 = u.2.1 88 ∧ v.2.2.2.2.1 = u.2.2.2.2.1) := by
  obtain ⟨hF, hV⟩ := h.vv hd ho hZ h3
  have f99 : ∀ b, b < 36 ∨ 86 < b → zsw d b = b := fun b hb => zsw_99 hd hb
  have e := EQ_sw hd (y_run (P := YPd d) (u := swX d u) (md := 0) (len := len) (inp := inp) (p := p) (h d hd).2.1.1 hF hV hT (by omega) (by show u.1 (zsw d 87) 3 = _; rw [f99 87 (by omega)]; exact hlen) hl24 (fun i hi => by show u.2.1 (zsw d 88) i = _; rw [f99 88 (by omega)]; exact hinp i hi) hi)
  rw [List.map_cons, zes0 hd (by omega)] at e
  refine EQ_mono e ?_
  rintro x v ⟨y, w, rfl, rfl, hn, rfl, t1, t2, t3, t4, t5, t6, t7, t8⟩
  obtain ⟨b1, b2⟩ := (h d hd).run t4 t5 t6 t7 t8
  have hEq := xr_rr (p := p) (md := 0) (h d hd).2.1.1.1 hF hi (swX d u) zt0
  have hc : EqT (xrt G (zN A) p 0 len inp (swX d u)) (zcan G (zN A) p 0 len inp) := hEq
  refine ⟨rfl, ?_, ?_, X3_step hd h b1 b2 hn, b2.z hd, fun d' hd' _ => ⟨fun b j x1 x2 => ?_, fun b x1 x2 => ?_⟩, ?_, ?_, ?_⟩
  · show w.1 (zsw d 87) 11 = _
    rw [f99 87 (by omega), t1.1, hc.1]
  · show w.1 (zsw d 87) 13 = _
    rw [f99 87 (by omega), t1.2.1.1.2.2.1, hc.2.1.1 2 (by omega)]
  · have r1 := zsw_r hd' x1 x2
    have r2 : zsw d (zsw d' b) ≠ 87 := fun y => by
      have : zsw d' b = 87 := by rw [← zsw_sw d (zsw d' b), y, f99 87 (by omega)]
      omega
    show w.1 (zsw d (zsw d' b)) j = u.1 (zsw d' b) j
    rw [t4 _ j (fun y => r2 y.1)]
    show u.1 (zsw d (zsw d (zsw d' b))) j = _
    rw [zsw_sw]
  · have r1 := zsw_r hd' x1 x2
    have r2 : zsw d (zsw d' b) < 87 := by
      apply Classical.byContradiction
      intro y
      have : zsw d' b = zsw d (zsw d' b) := by rw [← f99 (zsw d (zsw d' b)) (by omega), zsw_sw]
      omega
    show w.2.1 (zsw d (zsw d' b)) = u.2.1 (zsw d' b)
    rw [t5 _ (fun y => by simp only [List.mem_cons, List.not_mem_nil, or_false] at y; omega)]
    show u.2.1 (zsw d (zsw d (zsw d' b))) = _
    rw [zsw_sw]
  · show w.1 (zsw d 87) 3 = _
    rw [f99 87 (by omega), t4 87 3 (by decide)]
    show u.1 (zsw d 87) 3 = _
    rw [f99 87 (by omega)]
  · show w.2.1 (zsw d 88) = _
    rw [f99 88 (by omega), t5 88 (by decide)]
    show u.2.1 (zsw d 88) = _
    rw [f99 88 (by omega)]
  · show w.2.2.2.2.1 = _
    rw [t8]; rfl
end KnZ
