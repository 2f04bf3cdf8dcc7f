/-! Goals fit the cores: all letters of a slot. -/
theorem zbys_CG {G : ZGT} (hG : GW G) {E : Int32} {F : Nat → Int32} {kd s : Nat} {A : ZAS} (hA : ZAI G A) (hs : s < A.1) (h : zCG G E F A) : ∀ (b : Nat) (A' : ZAS), zbys G kd s (zcl G E F (A.2.1 s)) A b = some A' → zCG G E F A'
  | 0, A', e => by
    have e := Option.some.inj e
    rw [← e]
    exact h
  | b + 1, A', e => by
    rw [zbys] at e
    cases hz : zbys G kd s (zcl G E F (A.2.1 s)) A b with
    | none => rw [hz] at e; cases e
    | some A1 =>
      rw [hz] at e
      dsimp only at e
      obtain ⟨i1, i2, i3, i4⟩ := zbys_kp hG hA hs b A1 hz
      exact zby_CG hG i1 (by omega) (i3 s hs) (zbys_CG hG hA hs h b A1 hz) e
/-- one slot out of the queue: the invariants go on -/
theorem zexp_CG {G : ZGT} (hG : GW G) {E : Int32} {F : Nat → Int32} {kd m s : Nat} {K : Nat → Nat → Int32} {go : Nat → Nat → Option Nat} {q : List Nat} {A' : ZAS} (hA : ZAI G (m, K, go, s :: q)) (h : zCG G E F (m, K, go, s :: q)) (e : zexp G E F kd (m, K, go, s :: q) = some A') : ZAI G A' ∧ zCG G E F A' := by
  have hs : s < m := hA.2.1 s (List.mem_cons_self ..)
  have hA2 : ZAI G (m, K, go, q) := ⟨hA.1, fun x hx => hA.2.1 x (List.mem_cons_of_mem _ hx), (List.nodup_cons.mp hA.2.2.1).2, hA.2.2.2⟩
  have e : zbys G kd s (zcl G E F (K s)) (m, K, go, q) 14 = some A' := e
  exact ⟨(zbys_kp hG hA2 hs 14 A' e).1, zbys_CG hG hA2 hs h 14 A' e⟩
