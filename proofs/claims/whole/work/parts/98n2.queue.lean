/-! What is not in the queue stays: kernels, closures by names, where a state goes. -/
theorem zby_qk {G : ZGT} {kd s b t : Nat} {C : Nat → Int32} {A A' : ZAS} (e : zby G kd s C b A = some A') (ht : t < A'.1) (hq : t ∉ A'.2.2.2) : t < A.1 ∧ t ∉ A.2.2.2 ∧ ∀ i, i < 102 → A'.2.1 t i = A.2.1 t i := by
  obtain ⟨m, K, go, q⟩ := A
  unfold zby at e
  dsimp only at e
  by_cases z : zcB (∀ i, i < 102 → zNX G C b i = 0) = true
  · rw [if_pos z] at e
    have e := Option.some.inj e
    rw [← e] at ht hq ⊢
    exact ⟨ht, hq, fun _ _ => rfl⟩
  rw [if_neg z] at e
  cases hk : ztk kd K m (zNX G C b) (go s b) with
  | some t0 =>
    rw [hk] at e
    dsimp only at e
    have e := Option.some.inj e
    rw [← e] at ht hq ⊢
    dsimp only at ht hq ⊢
    by_cases w : (∃ i, i < 102 ∧ K t0 i ||| zNX G C b i ≠ K t0 i) ∧ t0 ∉ q
    · rw [zcB_t w, if_pos rfl] at hq
      have hne : t ≠ t0 := fun y => hq (List.mem_append.mpr (Or.inr (by rw [y]; exact List.mem_singleton.mpr rfl)))
      refine ⟨ht, fun y => hq (List.mem_append.mpr (Or.inl y)), fun i _ => ?_⟩
      unfold zKU
      rw [if_neg hne]
    · rw [zcB_f w, if_neg (by decide)] at hq
      refine ⟨ht, hq, fun i hi => ?_⟩
      unfold zKU
      by_cases y : t = t0
      · rw [if_pos y, y]
        exact Classical.byContradiction (fun v => w ⟨⟨i, hi, v⟩, by rw [← y]; exact hq⟩)
      · rw [if_neg y]
  | none =>
    rw [hk] at e
    dsimp only at e
    by_cases y : m = 200
    · rw [if_pos y] at e; cases e
    rw [if_neg y] at e
    have e := Option.some.inj e
    rw [← e] at ht hq ⊢
    dsimp only at ht hq ⊢
    have hne : t ≠ m := fun y => hq (List.mem_append.mpr (Or.inr (by rw [y]; exact List.mem_singleton.mpr rfl)))
    refine ⟨by omega, fun y => hq (List.mem_append.mpr (Or.inl y)), fun i _ => ?_⟩
    unfold zKU
    rw [if_neg hne]
theorem zbys_qk {G : ZGT} {kd s t : Nat} {C : Nat → Int32} {A : ZAS} : ∀ (b : Nat) (A' : ZAS), zbys G kd s C A b = some A' → t < A'.1 → t ∉ A'.2.2.2 → t < A.1 ∧ t ∉ A.2.2.2 ∧ ∀ i, i < 102 → A'.2.1 t i = A.2.1 t i
  | 0, A', e, ht, hq => by
    have e := Option.some.inj e
    rw [← e] at ht hq ⊢
    exact ⟨ht, hq, fun _ _ => rfl⟩
  | b + 1, A', e, ht, hq => by
    rw [zbys] at e
    cases hz : zbys G kd s C A b with
    | none => rw [hz] at e; cases e
    | some A1 =>
      rw [hz] at e
      dsimp only at e
      obtain ⟨a1, a2, a3⟩ := zby_qk e ht hq
      obtain ⟨b1, b2, b3⟩ := zbys_qk b A1 hz a1 a2
      exact ⟨b1, b2, fun i hi => (a3 i hi).trans (b3 i hi)⟩
theorem zby_go {G : ZGT} {kd s b : Nat} {C : Nat → Int32} {A A' : ZAS} (e : zby G kd s C b A = some A') : (∀ s' b', s' < A.1 → ¬ (s' = s ∧ b' = b) → A'.2.2.1 s' b' = A.2.2.1 s' b') ∧ (A'.2.2.1 s b = none → ∀ i, i < 102 → zNX G C b i = 0) := by
  obtain ⟨m, K, go, q⟩ := A
  unfold zby at e
  dsimp only at e
  by_cases z : zcB (∀ i, i < 102 → zNX G C b i = 0) = true
  · rw [if_pos z] at e
    have e := Option.some.inj e
    rw [← e]
    exact ⟨fun _ _ _ _ => rfl, fun _ => zcB_iff.mp z⟩
  rw [if_neg z] at e
  cases hk : ztk kd K m (zNX G C b) (go s b) with
  | some t0 =>
    rw [hk] at e
    dsimp only at e
    have e := Option.some.inj e
    rw [← e]
    dsimp only
    unfold zgU
    refine ⟨fun s' b' _ hn => if_neg hn, fun h => ?_⟩
    rw [if_pos ⟨rfl, rfl⟩] at h
    cases h
  | none =>
    rw [hk] at e
    dsimp only at e
    by_cases y : m = 200
    · rw [if_pos y] at e; cases e
    rw [if_neg y] at e
    have e := Option.some.inj e
    rw [← e]
    dsimp only
    unfold zgU
    refine ⟨fun s' b' hs hn => ?_, fun h => ?_⟩
    · rw [if_neg hn]
      exact if_neg (by omega)
    · rw [if_pos ⟨rfl, rfl⟩] at h
      cases h
theorem zbys_go {G : ZGT} (hG : GW G) {kd s : Nat} {C : Nat → Int32} {A : ZAS} (hA : ZAI G A) (hs : s < A.1) : ∀ (b : Nat) (A' : ZAS), zbys G kd s C A b = some A' → (∀ s' b', s' < A.1 → s' ≠ s → A'.2.2.1 s' b' = A.2.2.1 s' b') ∧ ∀ b', b' < b → A'.2.2.1 s b' = none → ∀ i, i < 102 → zNX G C b' i = 0
  | 0, A', e => by
    have e := Option.some.inj e
    rw [← e]
    exact ⟨fun _ _ _ _ => rfl, fun b' hb' => by omega⟩
  | b + 1, A', e => by
    rw [zbys] at e
    cases hz : zbys G kd s C A b with
    | none => rw [hz] at e; cases e
    | some A1 =>
      rw [hz] at e
      dsimp only at e
      obtain ⟨a1, a2⟩ := zby_go e
      obtain ⟨b1, b2⟩ := zbys_go hG hA hs b A1 hz
      obtain ⟨-, i2, -, -⟩ := zbys_kp hG hA hs b A1 hz
      refine ⟨fun s' b' hs' hn => (a1 s' b' (by omega) (fun y => hn y.1)).trans (b1 s' b' hs' hn), fun b' hb' h => ?_⟩
      by_cases y : b' = b
      · rw [y] at h ⊢; exact a2 h
      · exact b2 b' (by omega) ((a1 s b' (by omega) (fun w => y w.2)).symm.trans h)
/-- a state that is not in the queue goes by all letters that stand behind a dot -/
def ZQI (G : ZGT) (E : Int32) (F : Nat → Int32) (A : ZAS) : Prop := ∀ s, s < A.1 → s ∉ A.2.2.2 → ∀ b, b < 14 → A.2.2.1 s b = none → ∀ i, i < 102 → zNX G (zcl G E F (A.2.1 s)) b i = 0
theorem zco_eq {k k' : Nat → Int32} (h : ∀ i, i < 102 → k i = k' i) : zco k k' := fun i hi => by rw [h i hi]
theorem zexp_QI {G : ZGT} (hG : GW G) {E : Int32} {F : Nat → Int32} {kd m s : Nat} {K : Nat → Nat → Int32} {go : Nat → Nat → Option Nat} {q : List Nat} {A' : ZAS} (hA : ZAI G (m, K, go, s :: q)) (h : ZQI G E F (m, K, go, s :: q)) (e : zexp G E F kd (m, K, go, s :: q) = some A') : ZQI G E F A' := by
  intro t ht hq b hb hg i hi
  have e : zbys G kd s (zcl G E F (K s)) (m, K, go, q) 14 = some A' := e
  have hs : s < m := hA.2.1 s (List.mem_cons_self ..)
  have hA2 : ZAI G (m, K, go, q) := ⟨hA.1, fun x hx => hA.2.1 x (List.mem_cons_of_mem _ hx), (List.nodup_cons.mp hA.2.2.1).2, hA.2.2.2⟩
  obtain ⟨a1, a2, a3⟩ := zbys_qk 14 A' e ht hq
  obtain ⟨b1, b2⟩ := zbys_go hG hA2 hs 14 A' e
  have hco : zco (A'.2.1 t) (K t) := zco_eq a3
  refine (zNX_cl hG hco i hi).mpr ?_
  by_cases y : t = s
  · rw [y] at hg ⊢; exact b2 b hb hg i hi
  · exact h t a1 (fun w => (List.mem_cons.mp w).elim y a2) b hb ((b1 t b a1 y).symm.trans hg) i hi
theorem zcO_cg {G : ZGT} (hG : GW G) {E : Int32} {F k k' O O' : Nat → Int32} (h1 : ∀ i, i < 102 → k i = k' i) (h2 : ∀ n, n < 6 → O n = O' n) (h : zcO G E F k O) : zcO G E F k' O' := by
  obtain ⟨⟨g1, g2, g3, g4, g5⟩, g6, g7, -⟩ := hG
  refine ⟨fun r hr d hd h8 hk => ?_, fun r hr hi hO hn h8 => ?_⟩
  · have := g7 r hr
    have h6 : 6 * r + d < 102 := by omega
    have ht := this.2 d hd
    rw [← h1 _ h6] at hk ⊢
    rw [← h2 _ (by omega)]
    exact h.1 r hr d hd h8 hk
  · have ht := (g7 r (by omega)).2 0 hn
    have hl := g6 r hr
    rw [← h2 _ (by omega)] at hO ⊢
    rw [← h2 _ (by omega)]
    exact h.2 r hr hi hO hn h8
theorem zlO_cg {G : ZGT} (hG : GW G) {E : Int32} {F k k' O O' : Nat → Int32} (h1 : ∀ i, i < 102 → k i = k' i) (h2 : ∀ n, n < 6 → O n = O' n) (h : zlO G E F k O) : zlO G E F k' O' :=
  ⟨zcO_cg hG h1 h2 h.1, fun Q hQ n hn => by rw [← h2 n hn]; exact h.2 Q (zcO_cg hG (fun i hi => (h1 i hi).symm) (fun _ _ => rfl) hQ) n hn⟩
/-- the class: opens of what is not in the queue are the least ones -/
def XOp (G : ZGT) (E : Int32) (F : Nat → Int32) (A : ZAS) (u : SX) : Prop := ∀ s, s < A.1 → s ∉ A.2.2.2 → zlO G E F (A.2.1 s) (yO s u)
theorem XOp_ex {G : ZGT} (hG : GW G) {E : Int32} {F : Nat → Int32} {kd m s : Nat} {K : Nat → Nat → Int32} {go : Nat → Nat → Option Nat} {q : List Nat} {A' : ZAS} {u v : SX} (h : XOp G E F (m, K, go, s :: q) u) (e : zbys G kd s (zcl G E F (K s)) (m, K, go, q) 14 = some A') (h1 : zlO G E F (K s) (yO s v)) (h2 : ∀ j, (j < 6 * s ∨ 6 * s + 6 ≤ j) → v.2.1 39 j = u.2.1 39 j) : XOp G E F A' v := by
  intro t ht hq
  obtain ⟨a1, a2, a3⟩ := zbys_qk 14 A' e ht hq
  by_cases y : t = s
  · rw [y] at a3 ⊢; exact zlO_cg hG (fun i hi => (a3 i hi).symm) (fun _ _ => rfl) h1
  · refine zlO_cg hG (fun i hi => (a3 i hi).symm) (fun n hn => ?_) (h t a1 (fun w => (List.mem_cons.mp w).elim y a2))
    unfold yO
    rw [h2 _ (by omega)]
