/-! What is left to do falls with every slot; the queue's first is taken out. -/
theorem zbys_mu {G : ZGT} (hG : GW G) {kd s : Nat} {C : Nat → Int32} {A : ZAS} (hA : ZAI G A) (hs : s < A.1) : ∀ (b : Nat) (A' : ZAS), zbys G kd s C A b = some A' → muA A' ≤ muA A
  | 0, A', e => by
    have e := Option.some.inj e
    rw [← e]
    exact Nat.le_refl _
  | b + 1, A', e => by
    rw [zbys] at e
    cases hz : zbys G kd s C A b with
    | none => rw [hz] at e; cases e
    | some A1 =>
      rw [hz] at e
      dsimp only at e
      obtain ⟨i1, i2, -⟩ := zbys_kp hG hA hs b A1 hz
      exact Nat.le_trans (zby_AI hG i1 (by omega) e).2.2 (zbys_mu hG hA hs b A1 hz)
theorem zexp_mu {G : ZGT} (hG : GW G) {E : Int32} {F : Nat → Int32} {kd m s : Nat} {K : Nat → Nat → Int32} {go : Nat → Nat → Option Nat} {q : List Nat} {A' : ZAS} (hA : ZAI G (m, K, go, s :: q)) (e : zexp G E F kd (m, K, go, s :: q) = some A') : muA A' + 1 ≤ muA (m, K, go, s :: q) := by
  have hs : s < m := hA.2.1 s (List.mem_cons_self ..)
  have hA2 : ZAI G (m, K, go, q) := ⟨hA.1, fun x hx => hA.2.1 x (List.mem_cons_of_mem _ hx), (List.nodup_cons.mp hA.2.2.1).2, hA.2.2.2⟩
  have e : zbys G kd s (zcl G E F (K s)) (m, K, go, q) 14 = some A' := e
  have h1 := zbys_mu hG hA2 hs 14 A' e
  have h2 : muA (m, K, go, s :: q) = muA (m, K, go, q) + 1 := by
    show (200 - m) * 3265 + sct K m + (s :: q).length = (200 - m) * 3265 + sct K m + q.length + 1
    rw [List.length_cons]
    omega
  omega
theorem XA_deq {P : YP} {m s : Nat} {K : Nat → Nat → Int32} {go : Nat → Nat → Option Nat} {q : List Nat} {u v : SX} (hX : XA P (m, K, go, s :: q) u) (hq : XQu q v) (hf : frX [(25, 3), (25, 4)] [27] u v) : XA P (m, K, go, q) v := by
  obtain ⟨h1, ⟨kc, hks⟩, h3, h4, -, h6, h, h7, h8⟩ := hX
  dsimp only at h1 hks h3 h4 h8
  refine ⟨(hf.1 36 5 (by decide)).trans h1, ⟨kc, fun i hi => ?_, hks.2⟩, fun i hi => ?_, fun s hs b hb => ?_, hq, h6.fr hf.2.2, h, h7.fr hf.2.2, h8⟩
  · obtain ⟨i1, i2, i3⟩ := hks.1 i hi
    have hc99 : 99 ≤ kc i := i2.1
    refine ⟨by rw [hf.2.2]; exact i1, by rw [hf.2.2]; exact i2, i3.fr (hf.1 _ _ ?_) (hf.2.1 _ ?_) (hf.2.1 _ ?_)⟩
    · simp only [List.mem_cons, List.not_mem_nil, or_false, Prod.mk.injEq]; omega
    · simp only [List.mem_cons, List.not_mem_nil, or_false]; omega
    · simp only [List.mem_cons, List.not_mem_nil, or_false]; omega
  · obtain ⟨c, c1, c2⟩ := h3 i hi
    exact ⟨c, by rw [hf.2.1 38 (by decide)]; exact c1, c2⟩
  · rw [hf.2.1 40 (by decide)]; exact h4 s hs b hb
