/-! Steps of the automaton, as values: what one letter keeps; what link leaves is one letter's step. -/
theorem zby_kp {G : ZGT} {kd s b : Nat} {C : Nat → Int32} {A A' : ZAS} (hA : ZAI G A) (hs : s < A.1) (e : zby G kd s C b A = some A') : A.1 ≤ A'.1 ∧ (∀ w, w < A.1 → zco (A'.2.1 w) (A.2.1 w)) ∧ ∀ b', b' ≠ b → A'.2.2.1 s b' = A.2.2.1 s b' := by
  obtain ⟨m, K, go, q⟩ := A
  obtain ⟨⟨h1, h2⟩, h3, h4, h5, h6⟩ := hA
  dsimp only at h1 h2 h3 h4 h5 h6 hs
  unfold zby at e
  dsimp only at e
  by_cases z : zcB (∀ i, i < 102 → zNX G C b i = 0) = true
  · rw [if_pos z] at e
    have e := Option.some.inj e
    rw [← e]
    exact ⟨Nat.le_refl _, fun _ _ => zco_rf, fun _ _ => rfl⟩
  rw [if_neg z] at e
  cases ht : ztk kd K m (zNX G C b) (go s b) with
  | some t =>
    rw [ht] at e
    dsimp only at e
    have e := Option.some.inj e
    obtain ⟨t1, t2⟩ := ztk_lt ht (fun w hw => h5 s hs b w hw)
    rw [← e]
    exact ⟨Nat.le_refl _, fun w _ => zKU_co (zdt_co t2) w, fun b' hb' => if_neg (fun y => hb' y.2)⟩
  | none =>
    rw [ht] at e
    dsimp only at e
    by_cases y : m = 200
    · rw [if_pos y] at e; cases e
    rw [if_neg y] at e
    have e := Option.some.inj e
    rw [← e]
    refine ⟨Nat.le_succ _, fun w hw => ?_, fun b' hb' => ?_⟩
    · have hw : w < m := hw
      show zco (if w = m then zNX G C b else K w) (K w)
      rw [if_neg (by omega)]
      exact zco_rf
    · show (if s = s ∧ b' = b then some m else if s = m then none else go s b') = go s b'
      rw [if_neg (fun y => hb' y.2), if_neg (by omega)]
/-- one letter's step, as the class leaves it -/
def stepR (P : YP) (o : Option ZAS) (w4 : Int32) (v : SX) : Prop := match o with
  | some A' => XA P A' v ∧ v.1 36 4 = w4
  | none => v.1 36 4 = 0 ∧ XI P v
theorem linkR_by {P : YP} {G : ZGT} {kd m s b : Nat} {K : Nat → Nat → Int32} {go : Nat → Nat → Option Nat} {q : List Nat} {C : Nat → Int32} {w4 : Int32} {v : SX} (hz : ¬ ∀ i, i < 102 → zNX G C b i = 0) (h : linkR P kd m K go q (zNX G C b) s b w4 v) : stepR P (zby G kd s C b (m, K, go, q)) w4 v := by
  unfold linkR at h
  unfold zby stepR
  dsimp only
  rw [zcB_f hz, if_neg (by decide)]
  cases ht : ztk kd K m (zNX G C b) (go s b) with
  | some t =>
    rw [ht] at h
    exact h
  | none =>
    rw [ht] at h
    dsimp only at h ⊢
    by_cases y : m = 200
    · rw [if_pos y] at h ⊢; exact h
    · rw [if_neg y] at h ⊢; exact h
/-- letters as far as b: what is kept -/
theorem zbys_kp {G : ZGT} (hG : GW G) {kd s : Nat} {C : Nat → Int32} {A : ZAS} (hA : ZAI G A) (hs : s < A.1) : ∀ (b : Nat) (A' : ZAS), zbys G kd s C A b = some A' → ZAI G A' ∧ A.1 ≤ A'.1 ∧ (∀ w, w < A.1 → zco (A'.2.1 w) (A.2.1 w)) ∧ ∀ b', b ≤ b' → A'.2.2.1 s b' = A.2.2.1 s b'
  | 0, A', e => by
    have e := Option.some.inj e
    rw [← e]
    exact ⟨hA, Nat.le_refl _, fun _ _ => zco_rf, fun _ _ => rfl⟩
  | b + 1, A', e => by
    rw [zbys] at e
    cases hz : zbys G kd s C A b with
    | none => rw [hz] at e; cases e
    | some A1 =>
      rw [hz] at e
      dsimp only at e
      obtain ⟨i1, i2, i3, i4⟩ := zbys_kp hG hA hs b A1 hz
      obtain ⟨j1, j2, j3⟩ := zby_kp i1 (by omega) e
      exact ⟨(zby_AI hG i1 (by omega) e).1, by omega, fun w hw => zco_tr (j2 w (by omega)) (i3 w hw), fun b' hb' => (j3 b' (by omega)).trans (i4 b' (by omega))⟩
