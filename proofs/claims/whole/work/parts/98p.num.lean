/-! States numbered anew, as a value: the order in which they are come to. -/
/-- by the letter b of the k-th one -/
def zns (go : Nat → Nat → Option Nat) (L : List Nat) (k b : Nat) : List Nat := match go (L.getD k 0) b with
  | some t => if t ∈ L then L else L ++ [t]
  | none => L
def znl (go : Nat → Nat → Option Nat) : Nat → List Nat
  | 0 => [0]
  | e + 1 => if e / 14 < (znl go e).length then zns go (znl go e) (e / 14) (e % 14) else znl go e
section ZNum
variable {go : Nat → Nat → Option Nat}
theorem zns_or (L : List Nat) (k b : Nat) : zns go L k b = L ∨ ∃ t, go (L.getD k 0) b = some t ∧ t ∉ L ∧ zns go L k b = L ++ [t] := by
  unfold zns
  cases h : go (L.getD k 0) b with
  | none => exact Or.inl rfl
  | some t =>
    dsimp only
    by_cases z : t ∈ L
    · rw [if_pos z]; exact Or.inl rfl
    · rw [if_neg z]; exact Or.inr ⟨t, rfl, z, rfl⟩
theorem znl_s {e : Nat} (h : e / 14 < (znl go e).length) : znl go (e + 1) = zns go (znl go e) (e / 14) (e % 14) := by rw [znl, if_pos h]
theorem znl_i {e : Nat} (h : ¬ e / 14 < (znl go e).length) : znl go (e + 1) = znl go e := by rw [znl, if_neg h]
theorem znl_or (e : Nat) : znl go (e + 1) = znl go e ∨ ∃ t, e / 14 < (znl go e).length ∧ go ((znl go e).getD (e / 14) 0) (e % 14) = some t ∧ t ∉ znl go e ∧ znl go (e + 1) = znl go e ++ [t] := by
  by_cases z : e / 14 < (znl go e).length
  · rw [znl_s z]
    rcases zns_or (go := go) (znl go e) (e / 14) (e % 14) with h | ⟨t, h1, h2, h3⟩
    · exact Or.inl h
    · exact Or.inr ⟨t, z, h1, h2, h3⟩
  · exact Or.inl (znl_i z)
theorem znl_idle {e : Nat} (h : (znl go e).length ≤ e / 14) : ∀ d, znl go (e + d) = znl go e
  | 0 => rfl
  | d + 1 => by
    have ih := znl_idle h d
    rw [show e + (d + 1) = e + d + 1 from rfl, znl_i, ih]
    rw [ih]
    have : e / 14 ≤ (e + d) / 14 := Nat.div_le_div_right (Nat.le_add_right _ _)
    omega
theorem znl_pre (e : Nat) : ∀ d, ∃ R, znl go (e + d) = znl go e ++ R
  | 0 => ⟨[], (List.append_nil _).symm⟩
  | d + 1 => by
    obtain ⟨R, hR⟩ := znl_pre e d
    rcases znl_or (go := go) (e + d) with h | ⟨t, -, -, -, h⟩
    · exact ⟨R, by rw [show e + (d + 1) = e + d + 1 from rfl, h]; exact hR⟩
    · exact ⟨R ++ [t], by rw [show e + (d + 1) = e + d + 1 from rfl, h, hR, List.append_assoc]⟩
theorem znl_le {e f : Nat} (h : e ≤ f) : (znl go e).length ≤ (znl go f).length := by
  obtain ⟨R, hR⟩ := znl_pre (go := go) e (f - e)
  rw [show e + (f - e) = f by omega] at hR
  rw [hR, List.length_append]
  omega
theorem getD_pre {L R : List Nat} {j : Nat} (h : j < L.length) : (L ++ R).getD j 0 = L.getD j 0 := by
  rw [List.getD_eq_getElem?_getD, List.getD_eq_getElem?_getD, List.getElem?_append_left h]
theorem znl_at {e f j : Nat} (h : e ≤ f) (hj : j < (znl go e).length) : (znl go f).getD j 0 = (znl go e).getD j 0 := by
  obtain ⟨R, hR⟩ := znl_pre (go := go) e (f - e)
  rw [show e + (f - e) = f by omega] at hR
  rw [hR, getD_pre hj]
theorem znl_ok {m : Nat} (h0 : 0 < m) (hgo : ∀ s, s < m → ∀ b t, go s b = some t → t < m) : ∀ e, (znl go e).Nodup ∧ (∀ x, x ∈ znl go e → x < m) ∧ 0 < (znl go e).length ∧ (znl go e).getD 0 0 = 0
  | 0 => ⟨by simp [znl], fun x hx => by rw [List.mem_singleton.mp hx]; exact h0, by simp [znl], rfl⟩
  | e + 1 => by
    obtain ⟨h1, h2, h3, h4⟩ := znl_ok h0 hgo e
    rcases znl_or (go := go) e with h | ⟨t, a1, a2, a3, h⟩
    · rw [h]; exact ⟨h1, h2, h3, h4⟩
    · rw [h]
      refine ⟨?_, fun x hx => ?_, by rw [List.length_append]; omega, by rw [getD_pre h3]; exact h4⟩
      · rw [List.nodup_append]
        exact ⟨h1, by simp, fun a ha c hc => by rw [List.mem_singleton.mp hc]; exact fun y => a3 (by rw [← y]; exact ha)⟩
      · rcases List.mem_append.mp hx with hx | hx
        · exact h2 x hx
        · rw [List.mem_singleton.mp hx]
          refine hgo _ (h2 _ ?_) _ t a2
          rw [List.getD_eq_getElem?_getD, List.getElem?_eq_getElem a1]
          exact List.getElem_mem a1
end ZNum
/-- the automaton with its states numbered anew -/
abbrev ZNM : Type := Nat × (Nat → Nat → Int32) × (Nat → Nat → Option Nat)
theorem zT28x : ∃ n : Nat, n = 2800 := ⟨2800, rfl⟩
/-- 2800, not to be unfolded -/
noncomputable def zT28 : Nat := Classical.choose zT28x
theorem zT28e : zT28 = 2800 := Classical.choose_spec zT28x
noncomputable def zL (A : ZAS) : List Nat := znl A.2.2.1 zT28
theorem zL_d (A : ZAS) : zL A = znl A.2.2.1 2800 := by unfold zL; rw [zT28e]
noncomputable def zN (A : ZAS) : ZNM := ((zL A).length, fun k => A.2.1 ((zL A).getD k 0), fun k b => (A.2.2.1 ((zL A).getD k 0) b).map (fun t => (zL A).idxOf t))
/-- how many are known before the step e -/
def zc0 (A : ZAS) (e : Nat) : Nat := (znl A.2.2.1 e).length
theorem mem_getD {L : List Nat} {k : Nat} (h : k < L.length) : L.getD k 0 ∈ L := by
  rw [List.getD_eq_getElem?_getD, List.getElem?_eq_getElem h]
  exact List.getElem_mem h
theorem idx_getD {L : List Nat} (hn : L.Nodup) {k : Nat} (h : k < L.length) : L.idxOf (L.getD k 0) = k := by
  rw [List.getD_eq_getElem?_getD, List.getElem?_eq_getElem h]
  exact hn.idxOf_getElem k h
theorem getD_idx {L : List Nat} {t : Nat} (h : t ∈ L) : L.getD (L.idxOf t) 0 = t := by
  have hl := List.idxOf_lt_length_of_mem h
  rw [List.getD_eq_getElem?_getD, List.getElem?_eq_getElem hl]
  exact List.getElem_idxOf hl
/-- states in the order in which they are come to: c e of them are known before the step e -/
def ZNO (n : Nat) (gn : Nat → Nat → Option Nat) (c : Nat → Nat) : Prop := 1 ≤ n ∧ n ≤ 200 ∧ c 0 = 1 ∧ (∀ e, c e ≤ c (e + 1) ∧ c (e + 1) ≤ c e + 1) ∧ (∀ k, k < n → k < c (14 * k)) ∧ c (14 * n) = n ∧
  ∀ k b, k < n → b < 14 → (gn k b = none ∧ c (14 * k + b + 1) = c (14 * k + b)) ∨ ∃ t, gn k b = some t ∧ ((t < c (14 * k + b) ∧ c (14 * k + b + 1) = c (14 * k + b)) ∨ (t = c (14 * k + b) ∧ c (14 * k + b + 1) = c (14 * k + b) + 1))
section ZNum2
variable {G : ZGT} {A : ZAS}
theorem zL_ok (hA : ZAI G A) (e : Nat) : (znl A.2.2.1 e).Nodup ∧ (∀ x, x ∈ znl A.2.2.1 e → x < A.1) ∧ 0 < (znl A.2.2.1 e).length ∧ (znl A.2.2.1 e).getD 0 0 = 0 := znl_ok (by have := hA.1.1; omega) (fun s hs b t h => hA.2.2.2.1 s hs b t h) e
theorem zL_len (hA : ZAI G A) (e : Nat) : (znl A.2.2.1 e).length ≤ 200 := Nat.le_trans (nodup_len (zL_ok hA e).1 (zL_ok hA e).2.1) hA.1.2
theorem zLo (hA : ZAI G A) : (zL A).Nodup ∧ (∀ x, x ∈ zL A → x < A.1) ∧ 0 < (zL A).length ∧ (zL A).getD 0 0 = 0 := by rw [zL_d]; exact zL_ok hA 2800
theorem zLl (hA : ZAI G A) : (zL A).length ≤ 200 := by rw [zL_d]; exact zL_len hA 2800
/-- what was known at a step stays -/
theorem zL_at {e j : Nat} (h : e ≤ 2800) (hj : j < (znl A.2.2.1 e).length) : (zL A).getD j 0 = (znl A.2.2.1 e).getD j 0 := by rw [zL_d]; exact znl_at h hj
theorem zL_le {e : Nat} (h : e ≤ 2800) : (znl A.2.2.1 e).length ≤ (zL A).length := by rw [zL_d]; exact znl_le h
/-- up to the one gone through now, all are known -/
theorem zL_k (hA : ZAI G A) {k : Nat} (hk : k < (zL A).length) : k < (znl A.2.2.1 (14 * k)).length := by
  have h200 := zLl hA
  refine Classical.byContradiction (fun y => ?_)
  have hi := znl_idle (go := A.2.2.1) (e := 14 * k) (by omega) (2800 - 14 * k)
  rw [show 14 * k + (2800 - 14 * k) = 2800 by omega] at hi
  have : (zL A).length = (znl A.2.2.1 (14 * k)).length := by rw [zL_d, hi]
  omega
theorem zL_end (hA : ZAI G A) : znl A.2.2.1 (14 * (zL A).length) = zL A := by
  have h200 := zLl hA
  have hle : (znl A.2.2.1 (14 * (zL A).length)).length ≤ (zL A).length := zL_le (by omega)
  have hi := znl_idle (go := A.2.2.1) (e := 14 * (zL A).length) (by omega) (2800 - 14 * (zL A).length)
  rw [show 14 * (zL A).length + (2800 - 14 * (zL A).length) = 2800 by omega] at hi
  rw [← zL_d] at hi
  exact hi.symm
theorem zN_ok (hA : ZAI G A) : ZNO (zN A).1 (zN A).2.2 (zc0 A) := by
  have h200 := zLl hA
  have h1 : 0 < (zL A).length := (zLo hA).2.2.1
  have hn : (zN A).1 = (zL A).length := rfl
  refine ⟨by rw [hn]; exact h1, by rw [hn]; exact h200, rfl, fun e => ?_, fun k hk => ?_, ?_, fun k b hk hb => ?_⟩
  · refine ⟨znl_le (by omega), ?_⟩
    unfold zc0
    rcases znl_or (go := A.2.2.1) e with h | ⟨t, -, -, -, h⟩
    · rw [h]; omega
    · rw [h, List.length_append]; exact Nat.le_refl _
  · rw [hn] at hk; exact zL_k hA hk
  · rw [hn]
    unfold zc0
    rw [zL_end hA]
  rw [hn] at hk
  have hk1 := zL_k hA hk
  have hk2 : (14 * k + b) / 14 < (znl A.2.2.1 (14 * k + b)).length := by
    have := znl_le (go := A.2.2.1) (e := 14 * k) (f := 14 * k + b) (by omega)
    omega
  have hs := znl_s hk2
  rw [show (14 * k + b) / 14 = k by omega, show (14 * k + b) % 14 = b by omega] at hs
  have hat : (zL A).getD k 0 = (znl A.2.2.1 (14 * k + b)).getD k 0 := zL_at (by omega) (by omega)
  unfold zns at hs
  rw [← hat] at hs
  show ((A.2.2.1 ((zL A).getD k 0) b).map (fun t => (zL A).idxOf t) = none ∧ _) ∨ ∃ t, (A.2.2.1 ((zL A).getD k 0) b).map (fun t => (zL A).idxOf t) = some t ∧ _
  cases hg : A.2.2.1 ((zL A).getD k 0) b with
  | none =>
    rw [hg] at hs
    exact Or.inl ⟨rfl, by unfold zc0; rw [hs]⟩
  | some t =>
    rw [hg] at hs
    dsimp only at hs
    refine Or.inr ⟨(zL A).idxOf t, rfl, ?_⟩
    by_cases z : t ∈ znl A.2.2.1 (14 * k + b)
    · rw [if_pos z] at hs
      have hl := List.idxOf_lt_length_of_mem z
      have e1 : (zL A).getD ((znl A.2.2.1 (14 * k + b)).idxOf t) 0 = t := (zL_at (by omega) hl).trans (getD_idx z)
      have e2 := idx_getD (L := zL A) (zLo hA).1 (k := (znl A.2.2.1 (14 * k + b)).idxOf t) (Nat.lt_of_lt_of_le hl (zL_le (by omega)))
      rw [e1] at e2
      exact Or.inl ⟨by rw [e2]; exact hl, by unfold zc0; rw [hs]⟩
    · rw [if_neg z] at hs
      have hl : (znl A.2.2.1 (14 * k + b)).length < (znl A.2.2.1 (14 * k + b + 1)).length := by rw [hs, List.length_append]; exact Nat.lt_succ_self _
      have e1 : (zL A).getD (znl A.2.2.1 (14 * k + b)).length 0 = t := by
        refine (zL_at (by omega) hl).trans ?_
        rw [hs, getD_app, if_neg (by omega), if_pos rfl]
      have e2 := idx_getD (L := zL A) (zLo hA).1 (k := (znl A.2.2.1 (14 * k + b)).length) (Nat.lt_of_lt_of_le hl (zL_le (by omega)))
      rw [e1] at e2
      exact Or.inr ⟨e2, by unfold zc0; rw [hs, List.length_append]; rfl⟩
end ZNum2
