/-! The class: sorts. -/
theorem zsf3 {n : Nat} {a b : Int32} : zsf (3 * n + 99) [some (.ref 0), some (.int a), some (.int b)] [] = true := by
  show ((Nat.blt 0 (3 * n + 99) && (true && (true && true))) && true) = true
  rw [zblt (show 0 < 3 * n + 99 by omega)]; rfl
theorem zsf2 {n : Nat} {a : Int32} : zsf (3 * n + 99) [some (.ref 0), some (.int a), none] [] = true := by
  show ((Nat.blt 0 (3 * n + 99) && (true && (true && true))) && true) = true
  rw [zblt (show 0 < 3 * n + 99 by omega)]; rfl
theorem zyk47 {MX : MD} (s : SX) {k : Nat} (hk : k < 3) (h : MX.1 = 0) : zrc (ZY YP0) MX s (zsw k 47) = true := by
  rcases lt3c hk with rfl | rfl | rfl
  · exact zyr (b := 47) (ci := 0) rfl h (by omega)
  · exact zyr (b := 64) (ci := 0) rfl h (by omega)
  · exact zyr (b := 81) (ci := 0) rfl h (by omega)
/-- what sorts may change -/
def frZs (u v : SX) : Prop := (∀ b j, b < 25 → v.1 b j = u.1 b j) ∧ (∀ b, b < 25 → b ≠ 19 → v.2.1 b = u.2.1 b) ∧ v.2.2.1 = u.2.2.1 ∧ ∀ b j, b ≠ 87 → v.2.2.2.1 b j = u.2.2.2.1 b j
theorem frZ.zs {u v : SX} (f : frZ u v) : frZs u v := ⟨f.1, fun b hb _ => f.2.1 b hb, f.2.2.1, f.2.2.2⟩
theorem frZs.tr {u v w : SX} (h1 : frZs u v) (h2 : frZs v w) : frZs u w := ⟨fun b j hb => (h2.1 b j hb).trans (h1.1 b j hb), fun b hb hn => (h2.2.1 b hb hn).trans (h1.2.1 b hb hn), h2.2.2.1.trans h1.2.2.1, fun b j hb => (h2.2.2.2 b j hb).trans (h1.2.2.2 b j hb)⟩
section SoX
variable {G : ZGT} {os : Nat → Option ZAS} {u : SX} {d : Nat} {A : ZAS}
theorem z_statesInConflict (hd : d < 3) (ho : os d = some A) (hZ : ZAt G d (os d)) (h : X3 G os u) (h3 : (swX d u).1 36 3 = 0) {p : Int32} (hT : XT G (zN A) p (swX d u)) : EvQ (ZY YP0) mX0_statesInConflict [.ref (zsw d 47)] u (fun x v => x = some (.int (zsm (zcv G (zN A) p 1) (zN A).1)) ∧ v = u) := by
  obtain ⟨hF, hV⟩ := h.vv hd ho hZ h3
  have e := EQ_sw hd (EQ_of (Q := fun x v => x = some (.int (zsm (zcv G (zN A) p 1) (zN A).1)) ∧ v = swX d u) (y_statesInConflict (P := YPd d) hF hV hT) ⟨rfl, rfl⟩)
  refine EQ_mono e ?_
  rintro x v ⟨y, w, rfl, rfl, hn, rfl, rfl⟩
  exact ⟨rfl, swX_sw d u⟩
theorem z_followsSettle (hd : d < 3) (ho : os d = some A) (hZ : ZAt G d (os d)) (h : X3 G os u) (h3 : (swX d u).1 36 3 = 0) : EvQ (ZY YP0) mX0_followsSettle [.ref (zsw d 47)] u (fun x v => x = some (.int (bI (zal (zsk G (zN A)) (zN A).1))) ∧ X3 G os v ∧ frZ u v ∧ v.2.2.2.2.1 = u.2.2.2.2.1) := by
  obtain ⟨hF, hV⟩ := h.vv hd ho hZ h3
  have e := EQ_sw hd (y_followsSettle (P := YPd d) (h d hd).2.1 hF hV)
  refine EQ_mono e ?_
  rintro x v ⟨y, w, rfl, rfl, hn, rfl, q⟩
  obtain ⟨k, hk, -⟩ := (h d hd).1.2.1
  have fk := q.k hk (by decide) (by decide)
  refine ⟨rfl, X3_step hd h ((h d hd).fr q (by decide) (by decide)) fk hn, fk.z hd, ?_⟩
  show w.2.2.2.2.1 = _
  rw [q.2.2]; rfl
set_option maxHeartbeats 1000000 in
theorem y_sorts (hZ : ∀ kd, kd < 3 → ZAt G kd (os kd)) (h : X3 G os u) : EvQ (ZY YP0) mX11_sorts [.ref 0] u (fun x v => x = some (.int (zvSo G os)) ∧ X3 G os v ∧ frZs u v) := by
  have hb := h.f.1.b
  obtain ⟨t1, ht1⟩ : ∃ t, t = ztd G (zS0 G) (zgR G) := ⟨_, rfl⟩
  obtain ⟨t2, ht2⟩ : ∃ t, t = zsi G (os 2) := ⟨_, rfl⟩
  have hv : zvSo G os = zso t1 t2 (zcq G (os 2)) (zcq G (os 1)) (zcq G (os 0)) := by rw [ht1, ht2]; rfl
  rw [hv]
  obtain ⟨Q, hQ⟩ : ∃ Q : Option Value → SX → Prop, Q = (fun x v => x = some (.int (zso t1 t2 (zcq G (os 2)) (zcq G (os 1)) (zcq G (os 0)))) ∧ X3 G os v ∧ frZs u v) := ⟨_, rfl⟩
  rw [← hQ]
  refine EQ_V vX11_sorts rfl ?_
  -- one kind
  have one : ∀ (k : Nat) (_ : k < 3) (acc : Int32) (v : SX), X3 G os v → frZs u v → (∀ v', X3 G os v' → frZs u v' → RnQ (ZY YP0) mX11_sorts (84, [some (.ref 0), some (.int (if zcq G (os k) = true then acc ||| (16 >>> (nI k &&& 31)) else acc)), some (.int (nI k))], [], v') Q) → RnQ (ZY YP0) mX11_sorts (58, [some (.ref 0), some (.int acc), some (.int (nI k))], [], v) Q := by
    intro k hk acc v hv hf kk
    refine RQ_n (ZY_ok YP0) 2 rfl trivial ?_
    refine RQ_VN vX11_isThere (z_isThere hk (hZ k hk) hv) rfl k11_251 rfl rfl rfl (zy0 _ rfl) zsf3 ?_
    rintro r1 v1 ⟨rfl, q1, q2, q3, q4⟩
    cases ho : os k with
    | none =>
      rw [ho] at kk
      refine RQ_b rfl (fun _ => ?_) (fun z => absurd rfl z)
      exact kk v1 q1 (hf.tr q2.zs)
    | some A =>
    rw [ho] at kk
    refine RQ_b rfl (fun z => absurd (show (1 : Int32) = 0 from z) (by decide)) (fun _ => ?_)
    refine RQ_n (ZY_ok YP0) 2 rfl trivial ?_
    refine RQ_V vX11_actionsOf (z_actionsOf hk ho (hZ k hk) q1 q4) rfl k11_282 rfl rfl rfl (zy0 _ rfl) (fun _ s1 q => by show 3 * s1.2.2.2.2.1 + 99 = 3 * v1.2.2.2.2.1 + 99; rw [q.2.2.2.2.2.2]) ?_
    rintro r2 v2 ⟨rfl, p1, p2, p3, p4, p5, p6⟩
    have hN : (zN A).1 ≤ 200 := (p1.vv hk ho (hZ k hk) p4).1.1.2
    refine RQ_V vX0_statesInConflict (z_statesInConflict hk ho (hZ k hk) p1 p4 p5) rfl k11_323 rfl rfl rfl (zyk47 _ hk rfl) (fun _ s1 q => by rw [q.2]) ?_
    rintro r3 v3 ⟨rfl, rfl⟩
    have hf2 := (hf.tr q2.zs).tr p2.zs
    have hc := zsm_c1 (G := G) (N := zN A) (p := v1.1 3 4) hN
    by_cases e : zsm (zcv G (zN A) (v1.1 3 4) 1) (zN A).1 = 0
    · have ec : zcq G (some A) = true := zcB_t (hc.mp e)
      rw [ec] at kk
      refine RQ_b rfl (fun z => absurd e z) (fun _ => ?_)
      refine RQ_n (ZY_ok YP0) 6 rfl trivial ?_
      exact kk v3 p1 hf2
    · have ec : zcq G (some A) = false := zcB_f (fun q => e (hc.mpr q))
      rw [ec] at kk
      refine RQ_b rfl (fun _ => ?_) (fun z => absurd e z)
      exact kk v3 p1 hf2
  have lt : ∀ (k : Nat) (_ : k < 3) (acc : Int32) (v : SX), RnQ (ZY YP0) mX11_sorts (58, [some (.ref 0), some (.int acc), some (.int (nI k))], [], v) Q → RnQ (ZY YP0) mX11_sorts (53, [some (.ref 0), some (.int acc), some (.int (nI k))], [], v) Q := by
    intro k hk acc v kk
    refine RQ_n (ZY_ok YP0) 2 rfl trivial ?_
    refine RQ_b rfl (fun z => ?_) (fun _ => kk)
    have z := (zq_le (a := 3) (b := k) rfl rfl (by omega) (by omega)).mp z
    omega
  have p51 : ∀ acc v, X3 G os v → frZs u v → acc = (if t2 = true then (if t1 = true then 1 else 0) ||| 2 else (if t1 = true then 1 else 0)) → RnQ (ZY YP0) mX11_sorts (51, [some (.ref 0), some (.int acc), none], [], v) Q := by
    intro acc v hv hf he
    refine RQ_n (ZY_ok YP0) 2 rfl trivial ?_
    refine lt 0 (by omega) acc v (one 0 (by omega) acc v hv hf (fun v1 h1 f1 => ?_))
    refine RQ_n (ZY_ok YP0) 2 rfl trivial ?_
    refine lt 1 (by omega) _ v1 (one 1 (by omega) _ v1 h1 f1 (fun v2 h2 f2 => ?_))
    refine RQ_n (ZY_ok YP0) 2 rfl trivial ?_
    refine lt 2 (by omega) _ v2 (one 2 (by omega) _ v2 h2 f2 (fun v3 h3 f3 => ?_))
    refine RQ_n (ZY_ok YP0) 2 rfl trivial ?_
    refine RQ_n (ZY_ok YP0) 2 rfl trivial ?_
    refine RQ_b rfl (fun _ => ?_) (fun z => absurd (show (3 : Int32) ≤ nI 2 + 1 by decide) z)
    refine RQ_n (ZY_ok YP0) 1 rfl trivial ?_
    refine RQ_to (Rn_iret rfl rfl) ?_
    rw [hQ]
    refine ⟨?_, h3, f3⟩
    rw [he]
    generalize zcq G (os 0) = b0
    generalize zcq G (os 1) = b1
    generalize zcq G (os 2) = b2
    cases t1 <;> cases t2 <;> cases b0 <;> cases b1 <;> cases b2 <;> rfl
  have p27 : ∀ acc v, X3 G os v → frZs u v → acc = (if t1 = true then 1 else 0) → RnQ (ZY YP0) mX11_sorts (27, [some (.ref 0), none, none], [.int acc], v) Q := by
    intro acc v hv hf he
    refine RQ_n (ZY_ok YP0) 3 rfl trivial ?_
    refine RQ_VN vX11_isThere (z_isThere (d := 2) (by omega) (hZ 2 (by omega)) hv) rfl k11_251 rfl rfl rfl (zy0 _ rfl) zsf2 ?_
    rintro r1 v1 ⟨rfl, q1, q2, q3, q4⟩
    cases ho : os 2 with
    | none =>
      refine RQ_b rfl (fun _ => ?_) (fun z => absurd rfl z)
      refine p51 acc v1 q1 (hf.tr q2.zs) ?_
      rw [ht2, ho, he]; rfl
    | some A =>
    refine RQ_b rfl (fun z => absurd (show (1 : Int32) = 0 from z) (by decide)) (fun _ => ?_)
    refine RQ_n (ZY_ok YP0) 2 rfl trivial ?_
    refine RQ_V vX11_actionsOf (z_actionsOf (d := 2) (by omega) ho (hZ 2 (by omega)) q1 q4) rfl k11_282 rfl rfl rfl (zy0 _ rfl) (fun _ s1 q => by show 3 * s1.2.2.2.2.1 + 99 = 3 * v1.2.2.2.2.1 + 99; rw [q.2.2.2.2.2.2]) ?_
    rintro r2 v2 ⟨rfl, p1, p2, p3, p4, p5, p6⟩
    refine RQ_V vX0_followsSettle (z_followsSettle (d := 2) (by omega) ho (hZ 2 (by omega)) p1 p4) rfl k11_392 rfl rfl rfl (zyk47 _ (by omega) rfl) (fun _ s1 q => by show 3 * s1.2.2.2.2.1 + 99 = 3 * v2.2.2.2.2.1 + 99; rw [q.2.2.2]) ?_
    rintro r3 v3 ⟨rfl, g1, g2, g3⟩
    have hf3 := ((hf.tr q2.zs).tr p2.zs).tr g2.zs
    have e2 : t2 = zal (zsk G (zN A)) (zN A).1 := by rw [ht2, ho]; rfl
    rw [← e2]
    cases et : t2 with
    | false =>
      refine RQ_b rfl (fun _ => ?_) (fun z => absurd rfl z)
      exact p51 acc v3 g1 hf3 (by rw [et, he]; rfl)
    | true =>
      refine RQ_b rfl (fun z => absurd (show (1 : Int32) = 0 from z) (by decide)) (fun _ => ?_)
      refine RQ_n (ZY_ok YP0) 4 rfl trivial ?_
      exact p51 _ v3 g1 hf3 (by rw [et, he]; rfl)
  refine RQ_n (ZY_ok YP0) 3 rfl trivial ?_
  rw [h.f.1.2.1.1]
  refine RQ_b rfl (fun _ => ?_) (fun z => absurd (fun y => by have := (zq_eq (a := zgR G) (b := 0) rfl rfl (by omega) (by omega)).mp y; omega) z)
  refine RQ_n (ZY_ok YP0) 2 rfl trivial ?_
  refine RQ_V vX4_rulesAreSelected (y_rulesAreSelected h.f) rfl k11_388 rfl rfl rfl (zy14 _ rfl) (fun _ s1 q => by show 3 * s1.2.2.2.2.1 + 99 = 3 * u.2.2.2.2.1 + 99; rw [q.2.2.2]) ?_
  rintro r1 v1 ⟨rfl, q⟩
  rw [← ht1]
  have hf : frZs u v1 := ⟨fun b j _ => q.1 b j (by simp), fun b _ hn => q.2.1 b (fun y => hn (List.mem_singleton.mp y)), by rw [q.2.2], fun b j _ => by rw [q.2.2]⟩
  cases et : t1 with
  | false =>
    refine RQ_b rfl (fun _ => ?_) (fun z => absurd rfl z)
    refine RQ_n (ZY_ok YP0) 1 rfl trivial ?_
    exact p27 _ v1 (h.s19 q) hf (by rw [et]; rfl)
  | true =>
    refine RQ_b rfl (fun z => absurd (show (1 : Int32) = 0 from z) (by decide)) (fun _ => ?_)
    refine RQ_n (ZY_ok YP0) 2 rfl trivial ?_
    exact p27 _ v1 (h.s19 q) hf (by rw [et]; rfl)
end SoX
