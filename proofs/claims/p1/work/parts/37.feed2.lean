theorem zle_0 : zle [] [] := trivial
theorem zle_s {v : Value} {a b : List (Option Value)} (h : zle a b) : zle (some v :: a) (some v :: b) := ⟨rfl, h⟩
theorem zle_n {x : Option Value} {a b : List (Option Value)} (h : zle a b) : zle (none :: a) (x :: b) := h
theorem apN_4 {f g : Nat → Int32} {t : Nat → Int32} {n m : Nat} (h : ∀ i, i < 4 → f (m + i) = g i) : ∀ k, k ≤ 4 → apN g (apN f t n m).1 (apN f t n m).2 k = apN f t n (m + k) ∧ cnN f m + cnN g k = cnN f (m + k) := by
  intro k
  induction k with
  | zero => intro _; exact ⟨rfl, rfl⟩
  | succ k ih =>
    intro hk
    obtain ⟨i1, i2⟩ := ih (by omega)
    have e := h k (by omega)
    rw [show m + (k + 1) = (m + k) + 1 from rfl, apN, apN, cnN, cnN, e, i1]
    by_cases q : g k = 0
    · rw [if_pos q, if_pos q, if_pos q]; exact ⟨rfl, i2⟩
    · rw [if_neg q, if_neg q, if_neg q]; exact ⟨rfl, by omega⟩
theorem xtp_xtp (s : SX) (t u : (Nat → Int32) × Nat) : xtp (xtp s t) u = xtp s u := by
  unfold xtp
  dsimp only
  rw [updI_updI]
  congr 2
  funext b
  unfold setA
  cases Nat.beq b 2 <;> rfl
theorem x_put4 (s : SX) (f t : Nat → Int32) (n m : Nat) (w : Int32) (h : ∀ i, i < 4 → f (m + i) = byW w i) (h240 : n + cnN f (m + 4) ≤ 240) : Ev ZX mX10_put [.ref 1, .int w] (xtp s (apN f t n m)) none (xtp s (apN f t n (m + 4))) := by
  obtain ⟨e1, e2⟩ := apN_4 (f := f) (g := byW w) (t := t) (n := n) (m := m) h 4 (Nat.le_refl 4)
  have hp := x_put (xtp s (apN f t n m)) w (apN f t n m).2 rfl (by rw [apN_n]; omega)
  refine Ev_to hp rfl ?_
  rw [xtp_xtp]
  show xtp s (apN (byW w) (apN f t n m).1 (apN f t n m).2 4) = _
  rw [e1]
set_option maxHeartbeats 4000000 in
theorem x_feed (s : SX) (a b c d e : Int32) (n : Nat) (hn : s.1 1 1 = nI n) (hn2 : n ≤ 240) : Ev ZX mX11_feed [.ref 0, .int a, .int b, .int c, .int d, .int e] s (some (.int (if n + cnN (byN a b c d e) 20 ≤ 240 then nI (n + cnN (byN a b c d e) 20) else -1))) (if n + cnN (byN a b c d e) 20 ≤ 240 then xtp s (apN (byN a b c d e) (s.2.1 2) n 20) else s) := by
  have q0 : ∀ i, i < 4 → byN a b c d e (0 + i) = byW a i := fun i hi => by
    match i, hi with
    | 0, _ => rfl
    | 1, _ => rfl
    | 2, _ => rfl
    | 3, _ => rfl
    | i + 4, hi => exact absurd hi (by omega)
  have q1 : ∀ i, i < 4 → byN a b c d e (4 + i) = byW b i := fun i hi => by
    match i, hi with
    | 0, _ => rfl
    | 1, _ => rfl
    | 2, _ => rfl
    | 3, _ => rfl
    | i + 4, hi => exact absurd hi (by omega)
  have q2 : ∀ i, i < 4 → byN a b c d e (8 + i) = byW c i := fun i hi => by
    match i, hi with
    | 0, _ => rfl
    | 1, _ => rfl
    | 2, _ => rfl
    | 3, _ => rfl
    | i + 4, hi => exact absurd hi (by omega)
  have q3 : ∀ i, i < 4 → byN a b c d e (12 + i) = byW d i := fun i hi => by
    match i, hi with
    | 0, _ => rfl
    | 1, _ => rfl
    | 2, _ => rfl
    | 3, _ => rfl
    | i + 4, hi => exact absurd hi (by omega)
  have q4 : ∀ i, i < 4 → byN a b c d e (16 + i) = byW e i := fun i hi => by
    match i, hi with
    | 0, _ => rfl
    | 1, _ => rfl
    | 2, _ => rfl
    | 3, _ => rfl
    | i + 4, hi => exact absurd hi (by omega)
  generalize byN a b c d e = f at q0 q1 q2 q3 q4 ⊢
  have z : cnN f 0 = 0 := rfl
  have r0 : cnN f 0 + cnN (byW a) 4 = cnN f 4 := (apN_4 (t := s.2.1 2) (n := n) q0 4 (Nat.le_refl 4)).2
  have r1 : cnN f 4 + cnN (byW b) 4 = cnN f 8 := (apN_4 (t := s.2.1 2) (n := n) q1 4 (Nat.le_refl 4)).2
  have r2 : cnN f 8 + cnN (byW c) 4 = cnN f 12 := (apN_4 (t := s.2.1 2) (n := n) q2 4 (Nat.le_refl 4)).2
  have r3 : cnN f 12 + cnN (byW d) 4 = cnN f 16 := (apN_4 (t := s.2.1 2) (n := n) q3 4 (Nat.le_refl 4)).2
  have r4 : cnN f 16 + cnN (byW e) 4 = cnN f 20 := (apN_4 (t := s.2.1 2) (n := n) q4 4 (Nat.le_refl 4)).2
  have hs0 : s = xtp s (apN f (s.2.1 2) n 0) := by
    show s = xtp s (s.2.1 2, n)
    unfold xtp
    rw [← hn, updI_self, setA_self]
  have hc20 := cnN_le f 20
  have m16 := cnN_mono f (show 16 ≤ 20 by omega)
  have m12 := cnN_mono f (show 12 ≤ 16 by omega)
  have m8 := cnN_mono f (show 8 ≤ 12 by omega)
  have m4 := cnN_mono f (show 4 ≤ 8 by omega)
  refine Ev_V vX11_feed rfl ?_
  refine Rn_n ZX_ok 1 rfl trivial ?_
  refine Rn_S vX10_solid (x_solid s a) rfl k11_87 rfl rfl rfl rfl ?_
  refine Rn_n ZX_ok 1 rfl trivial ?_
  refine Rn_S vX10_solid (x_solid s b) rfl k11_87 rfl rfl rfl rfl ?_
  refine Rn_n ZX_ok 2 rfl trivial ?_
  refine Rn_S vX10_solid (x_solid s c) rfl k11_87 rfl rfl rfl rfl ?_
  refine Rn_n ZX_ok 2 rfl trivial ?_
  refine Rn_S vX10_solid (x_solid s d) rfl k11_87 rfl rfl rfl rfl ?_
  refine Rn_n ZX_ok 2 rfl trivial ?_
  refine Rn_S vX10_solid (x_solid s e) rfl k11_87 rfl rfl rfl rfl ?_
  refine Rn_n ZX_ok 8 rfl trivial ?_
  have hsum : nI (cnN (byW a) 4) + nI (cnN (byW b) 4) + nI (cnN (byW c) 4) + nI (cnN (byW d) 4) + nI (cnN (byW e) 4) = nI (cnN f 20) := by
    rw [nI_add, nI_add, nI_add, nI_add]
    congr 1
    omega
  have hdiff : (240 : Int32) - s.1 1 1 = nI (240 - n) := by
    rw [hn, show (240 : Int32) = nI 240 from rfl]
    have h1 := nI_add (240 - n) n
    rw [show 240 - n + n = 240 by omega] at h1
    rw [← h1]
    exact Int32.add_sub_cancel _ _
  refine Rn_b rfl (fun q => ?_) (fun q => ?_)
  · have q : nI (cnN (byW a) 4) + nI (cnN (byW b) 4) + nI (cnN (byW c) 4) + nI (cnN (byW d) 4) + nI (cnN (byW e) 4) ≤ 240 - s.1 1 1 := q
    rw [hsum, hdiff] at q
    have hle : n + cnN f 20 ≤ 240 := by
      have := (nI_leI (by omega) (by omega)).mp q
      omega
    rw [if_pos hle, if_pos hle]
    have key : Rn ZX mX11_feed (46, [some (.ref 0), some (.int a), some (.int b), some (.int c), some (.int d), some (.int e), none], [], xtp s (apN f (s.2.1 2) n 0)) (some (.int (nI (n + cnN f 20)))) (xtp s (apN f (s.2.1 2) n 20)) := by
      refine Rn_n ZX_ok 3 rfl trivial ?_
      refine Rn_V vX10_put (x_put4 s f (s.2.1 2) n 0 a q0 (by show n + cnN f 4 ≤ 240; omega)) rfl k11_95 rfl rfl rfl rfl rfl ?_
      refine Rn_n ZX_ok 3 rfl trivial ?_
      refine Rn_V vX10_put (x_put4 s f (s.2.1 2) n 4 b q1 (by show n + cnN f 8 ≤ 240; omega)) rfl k11_95 rfl rfl rfl rfl rfl ?_
      refine Rn_n ZX_ok 3 rfl trivial ?_
      refine Rn_V vX10_put (x_put4 s f (s.2.1 2) n 8 c q2 (by show n + cnN f 12 ≤ 240; omega)) rfl k11_95 rfl rfl rfl rfl rfl ?_
      refine Rn_n ZX_ok 3 rfl trivial ?_
      refine Rn_V vX10_put (x_put4 s f (s.2.1 2) n 12 d q3 (by show n + cnN f 16 ≤ 240; omega)) rfl k11_95 rfl rfl rfl rfl rfl ?_
      refine Rn_n ZX_ok 3 rfl trivial ?_
      refine Rn_V vX10_put (x_put4 s f (s.2.1 2) n 16 e q4 (by show n + cnN f 20 ≤ 240; omega)) rfl k11_95 rfl rfl rfl rfl rfl ?_
      refine Rn_n ZX_ok 3 rfl trivial ?_
      exact Rn_to (Rn_iret rfl rfl) (by show some (Value.int (nI (apN f (s.2.1 2) n 20).2)) = _; rw [apN_n]) rfl
    rw [← hs0] at key
    exact Rn_le (zle_s (zle_s (zle_s (zle_s (zle_s (zle_s (zle_n zle_0))))))) key
  · have q : ¬ nI (cnN (byW a) 4) + nI (cnN (byW b) 4) + nI (cnN (byW c) 4) + nI (cnN (byW d) 4) + nI (cnN (byW e) 4) ≤ 240 - s.1 1 1 := q
    rw [hsum, hdiff] at q
    have hle : ¬ n + cnN f 20 ≤ 240 := fun z => q (nI_le (by omega) (by omega))
    rw [if_neg hle, if_neg hle]
    refine Rn_n ZX_ok 1 rfl trivial ?_
    exact Rn_iret rfl rfl
