/-! The invariant of class and reference. -/
theorem ZAt_ex {G : ZGT} (hG : GW G) (hF : zlF G (zE0 G) (zF0 G)) (kd : Nat) : ∃ o, ZAt G kd o := by
  have key : ∀ m j A, zitr G (zE0 G) (zF0 G) kd (zA0 G) j = some A → muA A ≤ m → ∃ o, ZAt G kd o := by
    intro m
    induction m with
    | zero =>
      intro j A hj hm
      by_cases hq : A.2.2.2 = []
      · exact ⟨some A, ⟨j, hj⟩, hq⟩
      cases e : zexp G (zE0 G) (zF0 G) kd A with
      | none => exact ⟨none, j + 1, by rw [zitr, hj]; exact e⟩
      | some A' =>
        have := (zexp_all hG (zlF_mk hG hF) (zitr_all hG (zlF_mk hG hF) j A hj) e).2 hq
        omega
    | succ m ih =>
      intro j A hj hm
      by_cases hq : A.2.2.2 = []
      · exact ⟨some A, ⟨j, hj⟩, hq⟩
      cases e : zexp G (zE0 G) (zF0 G) kd A with
      | none => exact ⟨none, j + 1, by rw [zitr, hj]; exact e⟩
      | some A' =>
        have := (zexp_all hG (zlF_mk hG hF) (zitr_all hG (zlF_mk hG hF) j A hj) e).2 hq
        exact ih (j + 1) A' (by rw [zitr, hj]; exact e) (by omega)
  exact key _ 0 _ rfl (Nat.le_refl _)
/-- the automata of a grammar -/
noncomputable def zos (G : ZGT) (kd : Nat) : Option ZAS := @Classical.epsilon (Option ZAS) ⟨none⟩ (ZAt G kd)
theorem zos_ok {G : ZGT} (hG : GW G) (hF : zlF G (zE0 G) (zF0 G)) : ∀ kd, kd < 3 → ZAt G kd (zos G kd) := fun kd _ => @Classical.epsilon_spec_aux (Option ZAS) ⟨none⟩ (ZAt G kd) (ZAt_ex hG hF kd)
theorem ZFX.os {G : ZGT} {u : SX} (h : ZFX G u) : ∀ kd, kd < 3 → ZAt G kd (zos G kd) := zos_ok h.1.1 h.c.2.1
/-- how many kernels there are -/
theorem XB.n {u : SX} (h : XB u) : u.2.2.2.2.1 ≤ 600 := by
  have key : ∀ d, d < 3 → ∃ k : Nat, k ≤ 200 ∧ ∀ i, i < k ↔ ∃ c, u.2.2.2.2.2 (zsw d 37) i = some c := by
    intro d hd
    obtain ⟨-, ⟨k, h1, h2⟩, -⟩ := h d hd
    refine ⟨k 37, h2, fun i => ⟨fun hi => ?_, fun hi => ?_⟩⟩
    · obtain ⟨c, c1, -⟩ := (h1.1 37 i).1 hi
      have c1 : (u.2.2.2.2.2 (zsw d 37) i).map (zsw d) = some c := c1
      cases e : u.2.2.2.2.2 (zsw d 37) i with
      | none => rw [e] at c1; cases c1
      | some c' => exact ⟨c', rfl⟩
    · apply Classical.byContradiction
      intro y
      obtain ⟨c, hc⟩ := hi
      have e := (h1.1 37 i).2 (by omega)
      have e : (u.2.2.2.2.2 (zsw d 37) i).map (zsw d) = none := e
      rw [hc] at e; cases e
  obtain ⟨-, ⟨k, h1, -⟩, -⟩ := h 0 (by omega)
  have hk : ∀ a b : Nat, (∀ i, i < a ↔ i < b) → a = b := fun a b q => by
    have q1 := q a
    have q2 := q b
    omega
  have row : ∀ d, d < 3 → k (zsw d 37) ≤ 200 := by
    intro d hd
    obtain ⟨m, m1, m2⟩ := key d hd
    have : k (zsw d 37) = m := hk _ _ (fun i => by
      rw [m2 i]
      refine ⟨fun hi => ?_, fun hi => ?_⟩
      · obtain ⟨c, c1, -⟩ := (h1.1 (zsw d 37) i).1 hi
        have c1 : (u.2.2.2.2.2 (zsw 0 (zsw d 37)) i).map (zsw 0) = some c := c1
        have e0 : zsw 0 (zsw d 37) = zsw d 37 := by rcases lt3c hd with rfl | rfl | rfl <;> rfl
        rw [e0] at c1
        cases e : u.2.2.2.2.2 (zsw d 37) i with
        | none => rw [e] at c1; cases c1
        | some c' => exact ⟨c', rfl⟩
      · apply Classical.byContradiction
        intro y
        obtain ⟨c, hc⟩ := hi
        have e := (h1.1 (zsw d 37) i).2 (by omega)
        have e : (u.2.2.2.2.2 (zsw 0 (zsw d 37)) i).map (zsw 0) = none := e
        have e0 : zsw 0 (zsw d 37) = zsw d 37 := by rcases lt3c hd with rfl | rfl | rfl <;> rfl
        rw [e0, hc] at e; cases e)
    omega
  have e := h1.2.2
  have e : u.2.2.2.2.1 = k 37 + k 54 + k 71 := e
  have r0 : k 37 ≤ 200 := row 0 (by omega)
  have r1 : k 54 ≤ 200 := row 1 (by omega)
  have r2 : k 71 ≤ 200 := row 2 (by omega)
  omega
/-- which rules are in, by the one; which are out, by the other -/
def CMk (R : Nat) (x y : Int32) : Prop := ∀ i, i < 32 → bt x i = (decide (i < R) && !bt y i) ∧ (R ≤ i → bt y i = false)
theorem zbi_bt {k : Nat} (hk : k < 32) (i : Nat) : bt (zbi k) i = decide (i = k) := sh1 k hk i
theorem CMk.x {R k : Nat} {x y : Int32} (h : CMk R x y) (hk : k < R) (hR : R ≤ 16) : CMk R (x ^^^ zbi k) (y ^^^ zbi k) := by
  intro i hi
  obtain ⟨a, b⟩ := h i hi
  rw [b_xor, b_xor, zbi_bt (by omega)]
  by_cases e : i = k
  · rw [decide_eq_true e]
    refine ⟨?_, fun y => by omega⟩
    rw [a, decide_eq_true (show i < R by omega)]
    cases bt y i <;> rfl
  · rw [decide_eq_false e, Bool.xor_false, Bool.xor_false]
    exact ⟨a, b⟩
theorem xor_2 (x b : Int32) : x ^^^ b ^^^ b = x := b_ext fun i _ => by rw [b_xor, b_xor]; cases bt x i <;> cases bt b i <;> rfl
theorem CMk.c {R : Nat} {x y : Int32} (h : CMk R x y) (hR : R ≤ 16) : bitC x = nI R - bitC y := by
  have key : ∀ k, k ≤ 32 → ctI x k + ctI y k = min k R := by
    intro k
    induction k with
    | zero => intro _; show 0 + 0 = _; omega
    | succ k ih =>
      intro hk
      have h1 := ih (by omega)
      obtain ⟨a, b⟩ := h k (by omega)
      show ctI x k + (if bt x k = true then 1 else 0) + (ctI y k + (if bt y k = true then 1 else 0)) = _
      rw [a]
      by_cases c : k < R
      · rw [decide_eq_true c]
        cases bt y k
        · show ctI x k + 1 + (ctI y k + 0) = _; omega
        · show ctI x k + 0 + (ctI y k + 1) = _; omega
      · rw [decide_eq_false c, b (by omega)]
        show ctI x k + 0 + (ctI y k + 0) = _
        omega
  have h32 := key 32 (by omega)
  rw [bitC_ct, bitC_ct, nI_sub (by omega)]
  congr 1
  omega
/-- acts kept by the one, states kept by the other -/
def hnx (a : Nat) (k : Nat → Int32) (y : Int32) (i : Nat) : Int32 := if i + 1 = a then y else k (i + 1)
def HsR (R T a : Nat) (ac : Nat → Nat) (ko kp : Nat → Int32) (y p : Int32) : Prop := ∀ i, i < a →
  (ac i < R ∧ ko i = hnx a ko y i ^^^ zbi (ac i) ∧ kp i = hnx a kp p i) ∨ (16 ≤ ac i ∧ ac i ≤ 16 + T ∧ ko i = hnx a ko y i ∧ kp i = hnx a kp p i ^^^ zbi (ac i - 16))
theorem hnx_n {a : Nat} {k : Nat → Int32} {y y' : Int32} (ha : a ≤ 40) {i : Nat} (hi : i < hsNn a) : (i + 1 = hsNn a ∧ hnx (hsNn a) (hmAn a k y) y' i = y' ∧ hmAn a k y i = y) ∨ (∃ j, j < a ∧ (∀ ac e, hsAn a ac e i = ac j) ∧ hmAn a k y i = k j ∧ hnx (hsNn a) (hmAn a k y) y' i = hnx a k y j) := by
  unfold hsNn at hi ⊢
  by_cases h40 : a = 40
  · rw [if_pos h40] at hi ⊢
    by_cases h39 : i = 39
    · refine Or.inl ⟨by omega, ?_, ?_⟩
      · unfold hnx; rw [if_pos (by omega)]
      · unfold hmAn; rw [if_pos h40, if_pos h39]
    · refine Or.inr ⟨i + 1, by omega, fun ac e => ?_, ?_, ?_⟩
      · unfold hsAn; rw [if_pos h40, if_neg h39]
      · unfold hmAn; rw [if_pos h40, if_neg h39]
      · unfold hnx
        rw [if_neg (by omega)]
        unfold hmAn
        rw [if_pos h40]
        by_cases h38 : i + 1 = 39
        · rw [if_pos h38, if_pos (by omega)]
        · rw [if_neg h38, if_neg (by omega)]
  · rw [if_neg h40] at hi ⊢
    by_cases hia : i = a
    · refine Or.inl ⟨by omega, ?_, ?_⟩
      · unfold hnx; rw [if_pos (by omega)]
      · unfold hmAn; rw [if_neg h40, if_pos hia]
    · refine Or.inr ⟨i, by omega, fun ac e => ?_, ?_, ?_⟩
      · unfold hsAn; rw [if_neg h40, if_neg hia]
      · unfold hmAn; rw [if_neg h40, if_neg hia]
      · unfold hnx
        rw [if_neg (by omega)]
        unfold hmAn
        rw [if_neg h40]
theorem hsAn_l {a : Nat} {ac : Nat → Nat} {e i : Nat} (ha : a ≤ 40) (hi : i + 1 = hsNn a) : hsAn a ac e i = e := by
  unfold hsNn at hi
  unfold hsAn
  by_cases h40 : a = 40
  · rw [if_pos h40] at hi ⊢; rw [if_pos (by omega)]
  · rw [if_neg h40] at hi ⊢; rw [if_pos (by omega)]
theorem HsR.rule {R T a : Nat} {ac : Nat → Nat} {ko kp : Nat → Int32} {y p : Int32} (h : HsR R T a ac ko kp y p) (ha : a ≤ 40) {k : Nat} (hk : k < R) : HsR R T (hsNn a) (hsAn a ac k) (hmAn a ko y) (hmAn a kp p) (y ^^^ zbi k) p := by
  intro i hi
  rcases hnx_n (k := ko) (y := y) (y' := y ^^^ zbi k) ha hi with ⟨e1, e2, e3⟩ | ⟨j, j1, j2, j3, j4⟩
  · have f2 := hnx_n (k := kp) (y := p) (y' := p) ha hi
    have e4 : hmAn a kp p i = p ∧ hnx (hsNn a) (hmAn a kp p) p i = p := by
      refine ⟨?_, by unfold hnx; rw [if_pos e1]⟩
      unfold hsNn at e1
      unfold hmAn
      by_cases h40 : a = 40
      · rw [if_pos h40] at e1 ⊢; rw [if_pos (by omega)]
      · rw [if_neg h40] at e1 ⊢; rw [if_pos (by omega)]
    refine Or.inl ⟨by rw [hsAn_l ha e1]; exact hk, ?_, ?_⟩
    · rw [e3, e2, hsAn_l ha e1, xor_2]
    · rw [e4.1, e4.2]
  · have g : hmAn a kp p i = kp j ∧ hnx (hsNn a) (hmAn a kp p) p i = hnx a kp p j := by
      rcases hnx_n (k := kp) (y := p) (y' := p) ha hi with ⟨e1, -, -⟩ | ⟨j', j1', j2', j3', j4'⟩
      · exfalso
        have u1 := j2 (fun i => i) a
        rw [hsAn_l ha e1] at u1
        omega
      · have u1 := j2 (fun i => i) 0
        have u2 := j2' (fun i => i) 0
        rw [u2] at u1
        have u1 : j' = j := u1
        rw [← u1]
        exact ⟨j3', j4'⟩
    rcases h j j1 with ⟨a1, a2, a3⟩ | ⟨a1, a2, a3, a4⟩
    · refine Or.inl ⟨by rw [j2]; exact a1, ?_, ?_⟩
      · rw [j3, j4, j2]; exact a2
      · rw [g.1, g.2]; exact a3
    · refine Or.inr ⟨by rw [j2]; exact a1, by rw [j2]; exact a2, ?_, ?_⟩
      · rw [j3, j4]; exact a3
      · rw [g.1, g.2, j2]; exact a4
theorem HsR.pref {R T a : Nat} {ac : Nat → Nat} {ko kp : Nat → Int32} {y p : Int32} (h : HsR R T a ac ko kp y p) (ha : a ≤ 40) {k : Nat} (hk : k ≤ T) : HsR R T (hsNn a) (hsAn a ac (16 + k)) (hmAn a ko y) (hmAn a kp p) y (p ^^^ zbi k) := by
  intro i hi
  rcases hnx_n (k := kp) (y := p) (y' := p ^^^ zbi k) ha hi with ⟨e1, e2, e3⟩ | ⟨j, j1, j2, j3, j4⟩
  · have e4 : hmAn a ko y i = y ∧ hnx (hsNn a) (hmAn a ko y) y i = y := by
      refine ⟨?_, by unfold hnx; rw [if_pos e1]⟩
      unfold hsNn at e1
      unfold hmAn
      by_cases h40 : a = 40
      · rw [if_pos h40] at e1 ⊢; rw [if_pos (by omega)]
      · rw [if_neg h40] at e1 ⊢; rw [if_pos (by omega)]
    refine Or.inr ⟨by rw [hsAn_l ha e1]; omega, by rw [hsAn_l ha e1]; omega, ?_, ?_⟩
    · rw [e4.1, e4.2]
    · rw [e3, e2, hsAn_l ha e1, show 16 + k - 16 = k by omega, xor_2]
  · have g : hmAn a ko y i = ko j ∧ hnx (hsNn a) (hmAn a ko y) y i = hnx a ko y j := by
      rcases hnx_n (k := ko) (y := y) (y' := y) ha hi with ⟨e1, -, -⟩ | ⟨j', j1', j2', j3', j4'⟩
      · exfalso
        have u1 := j2 (fun i => i) a
        rw [hsAn_l ha e1] at u1
        omega
      · have u1 := j2 (fun i => i) 0
        have u2 := j2' (fun i => i) 0
        rw [u2] at u1
        have u1 : j' = j := u1
        rw [← u1]
        exact ⟨j3', j4'⟩
    rcases h j j1 with ⟨a1, a2, a3⟩ | ⟨a1, a2, a3, a4⟩
    · refine Or.inl ⟨by rw [j2]; exact a1, ?_, ?_⟩
      · rw [g.1, g.2, j2]; exact a2
      · rw [j3, j4]; exact a3
    · refine Or.inr ⟨by rw [j2]; exact a1, by rw [j2]; exact a2, ?_, ?_⟩
      · rw [g.1, g.2]; exact a3
      · rw [j3, j4, j2]; exact a4
/-- the last act undone -/
theorem HsR.un {R T a : Nat} {ac : Nat → Nat} {ko kp : Nat → Int32} {y p : Int32} (h : HsR R T (a + 1) ac ko kp y p) : HsR R T a ac ko kp (ko a) (kp a) ∧ ((ac a < R ∧ ko a = y ^^^ zbi (ac a) ∧ kp a = p) ∨ (16 ≤ ac a ∧ ac a ≤ 16 + T ∧ ko a = y ∧ kp a = p ^^^ zbi (ac a - 16))) := by
  refine ⟨fun i hi => ?_, ?_⟩
  · have h1 := h i (by omega)
    have e : ∀ (k : Nat → Int32) z, hnx (a + 1) k z i = hnx a k (k a) i := by
      intro k z
      unfold hnx
      rw [if_neg (by omega)]
      by_cases c : i + 1 = a
      · rw [if_pos c, c]
      · rw [if_neg c]
    rw [e ko, e kp] at h1
    exact h1
  · have h1 := h a (by omega)
    have e : ∀ (k : Nat → Int32) z, hnx (a + 1) k z a = z := fun k z => by unfold hnx; rw [if_pos rfl]
    rw [e ko, e kp] at h1
    exact h1
