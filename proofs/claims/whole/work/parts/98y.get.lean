/-! The numbered automaton as the class holds it, and what is asked of it. -/
/-- what holds of a numbered automaton -/
def ZNF (G : ZGT) (N : ZNM) : Prop := (1 ≤ N.1 ∧ N.1 ≤ 200) ∧ (∀ k, k < N.1 → zk0 G (N.2.1 k) ∧ zhi G (N.2.1 k) ∧ (∃ i, i < 102 ∧ N.2.1 k i ≠ 0) ∧ zlk G (N.2.1 k)) ∧
  (∀ k, k < N.1 → ∀ b, b < 14 → (N.2.2 k b = none ∧ ∀ i, i < 102 → zNX G (zcl G (zE0 G) (zF0 G) (N.2.1 k)) b i = 0) ∨ ∃ t, N.2.2 k b = some t ∧ t < N.1 ∧ zco (N.2.1 t) (zNX G (zcl G (zE0 G) (zF0 G) (N.2.1 k)) b)) ∧ zco (N.2.1 0) (zk00 G) ∧ ∃ c, ZNO N.1 N.2.2 c
theorem zN_mem {G : ZGT} {A : ZAS} (hI : ZAI G A) {k b t : Nat} (hk : k < (zL A).length) (hb : b < 14) (h : A.2.2.1 ((zL A).getD k 0) b = some t) : t ∈ zL A ∧ (zN A).2.2 k b = some ((zL A).idxOf t) := by
  have hg : (zN A).2.2 k b = some ((zL A).idxOf t) := by
    show (A.2.2.1 ((zL A).getD k 0) b).map (fun t => (zL A).idxOf t) = _
    rw [h]; rfl
  refine ⟨Classical.byContradiction (fun y => ?_), hg⟩
  have hl : (zL A).idxOf t < (zL A).length := zN_gl hI hk hb hg
  rw [List.idxOf_eq_length y] at hl
  omega
theorem zN_F {G : ZGT} {A : ZAS} (h : ZAll G (zE0 G) (zF0 G) A) (hq : A.2.2.2 = []) : ZNF G (zN A) := by
  obtain ⟨h1, h2, h3, h4, h5⟩ := h
  have hsl : ∀ k, k < (zL A).length → (zL A).getD k 0 < A.1 := fun k hk => (zLo h1).2.1 _ (mem_getD hk)
  refine ⟨⟨(zN_ok h1).1, (zN_ok h1).2.1⟩, fun k hk => ?_, fun k hk b hb => ?_, ?_, _, zN_ok h1⟩
  · have hs := hsl k hk
    exact ⟨(h1.2.2.2.2 _ hs).1, (h1.2.2.2.2 _ hs).2.1, (h1.2.2.2.2 _ hs).2.2, h4 _ hs⟩
  · have hs := hsl k hk
    cases hg : A.2.2.1 ((zL A).getD k 0) b with
    | none =>
      refine Or.inl ⟨?_, h3 _ hs (by rw [hq]; exact List.not_mem_nil) b hb hg⟩
      show (A.2.2.1 ((zL A).getD k 0) b).map (fun t => (zL A).idxOf t) = none
      rw [hg]; rfl
    | some t =>
      obtain ⟨m1, m2⟩ := zN_mem h1 hk hb hg
      refine Or.inr ⟨_, m2, List.idxOf_lt_length_of_mem m1, ?_⟩
      show zco (A.2.1 ((zL A).getD ((zL A).idxOf t) 0)) _
      rw [getD_idx m1]
      exact h2 _ hs b hb t hg
  · show zco (A.2.1 ((zL A).getD 0 0)) _
    rw [(zLo h1).2.2.2]
    exact h5
/-- the class holds it: sl the slots, kc the kernels' cells -/
def XV (G : ZGT) (N : ZNM) (v : SX) : Prop := v.1 36 10 = nI N.1 ∧ ∃ sl kc : Nat → Nat, (∀ k, k < N.1 → sl k < 200 ∧ v.2.1 41 k = nI (sl k) ∧ v.2.2.2.2.2 37 (sl k) = some (kc k) ∧ (99 ≤ kc k ∧ isKc (kc k) v.2.2.2.2.1) ∧ KX (N.2.1 k) (kc k) v ∧ zlO G (zE0 G) (zF0 G) (N.2.1 k) (yO (sl k) v)) ∧
  ∀ k, k < N.1 → ∀ b, b < 14 → (v.2.1 40 (14 * sl k + b) = -1 ∧ N.2.2 k b = none) ∨ ∃ t t', t < 200 ∧ t' < N.1 ∧ v.2.1 40 (14 * sl k + b) = nI t ∧ v.2.1 42 t = nI t' ∧ N.2.2 k b = some t'
/-- an automaton as it was built, the queue apart -/
def XF (G : ZGT) (A : ZAS) (v : SX) : Prop := v.1 36 5 = nI A.1 ∧ (∃ kc, KSl A.1 A.2.1 kc v) ∧ COr A.1 A.2.1 v ∧ (∀ s, s < A.1 → ∀ b, b < 14 → v.2.1 40 (14 * s + b) = fI (A.2.2.1 s b)) ∧ XOp G (zE0 G) (zF0 G) A v ∧ XNb A (14 * (zL A).length) v
theorem XF.v {G : ZGT} {A : ZAS} {v : SX} (h1 : ZAI G A) (hq : A.2.2.2 = []) (h : XF G A v) : XV G (zN A) v := by
  obtain ⟨g1, ⟨kc, hks⟩, g3, g4, g5, g6⟩ := h
  rw [XNb, zc0, zL_end h1] at g6
  obtain ⟨n1, n2, n3, n4, n5⟩ := g6
  have hsl : ∀ k, k < (zL A).length → (zL A).getD k 0 < A.1 := fun k hk => (zLo h1).2.1 _ (mem_getD hk)
  have hA := h1.1.2
  refine ⟨n1, fun k => (zL A).getD k 0, fun k => kc ((zL A).getD k 0), fun k hk => ?_, fun k hk b hb => ?_⟩
  · have hs := hsl k hk
    obtain ⟨k1, k2, k3⟩ := hks.1 _ hs
    refine ⟨Nat.lt_of_lt_of_le hs hA, (n2 k hk).1, k1, k2, k3, g5 _ hs (by rw [hq]; exact List.not_mem_nil)⟩
  · have hs := hsl k hk
    have hgo := g4 _ hs b hb
    cases hg : A.2.2.1 ((zL A).getD k 0) b with
    | none =>
      rw [hg] at hgo
      refine Or.inl ⟨hgo, ?_⟩
      show (A.2.2.1 ((zL A).getD k 0) b).map (fun t => (zL A).idxOf t) = none
      rw [hg]; rfl
    | some t =>
      rw [hg] at hgo
      obtain ⟨m1, m2⟩ := zN_mem h1 hk hb hg
      have hl := List.idxOf_lt_length_of_mem m1
      have hn := (n2 _ hl).2
      rw [getD_idx m1] at hn
      have := (zLo h1).2.1 t m1
      exact Or.inr ⟨t, _, by omega, hl, hgo, hn, m2⟩
section XGet
variable {P : YP} {G : ZGT} {N : ZNM} {v : SX}
theorem y_kernelOf (hN : N.1 ≤ 200) (h : XV G N v) {k : Nat} (hk : k < N.1) : ∃ c : Nat, Ev (ZY P) mX1_kernelOf [.ref 36, .int (nI k)] v (some (.ref c)) v ∧ (99 ≤ c ∧ isKc c v.2.2.2.2.1) ∧ KX (N.2.1 k) c v := by
  obtain ⟨-, sl, kc, h2, -⟩ := h
  obtain ⟨a1, a2, a3, a4, a5, -⟩ := h2 k hk
  refine ⟨kc k, ?_, a4, a5⟩
  refine EQ_ev ?_
  refine EQ_V vX1_kernelOf rfl ?_
  refine RQ_n (ZY_ok P) 4 rfl trivial ?_
  refine RQ_n (ZY_ok P) 1 rfl ⟨nI_in (by omega) (by omega), trivial⟩ ?_
  rw [nI_clamp (show k < 2 ^ 31 by omega), a2]
  refine RQ_v vX1_kernelIn (y_kernelIn a1 a3) rfl k1_64 rfl rfl rfl (zy36 _ rfl) rfl ?_
  exact RQ_to (Rn_aret rfl rfl) ⟨rfl, rfl⟩
theorem y_goal (hN : N.1 ≤ 200) (h : XV G N v) {k b : Nat} (hk : k < N.1) (hb : b < 14) : Ev (ZY P) mX1_goal [.ref 36, .int (nI k), .int (nI b)] v (some (.int (fI (N.2.2 k b)))) v := by
  obtain ⟨-, sl, kc, h2, h3⟩ := h
  obtain ⟨a1, a2, -⟩ := h2 k hk
  refine EQ_ev ?_
  refine EQ_V vX1_goal rfl ?_
  refine RQ_n (ZY_ok P) 5 rfl trivial ?_
  refine RQ_n (ZY_ok P) 1 rfl ⟨nI_in (by omega) (by omega), trivial⟩ ?_
  rw [nI_clamp (show k < 2 ^ 31 by omega), a2]
  refine RQ_n (ZY_ok P) 4 rfl trivial ?_
  rw [show nI (sl k) * 14 + nI b = nI (14 * sl k + b) by rw [show (14 : Int32) = nI 14 from rfl, nI_mul, nI_add, Nat.mul_comm]]
  refine RQ_n (ZY_ok P) 1 rfl ⟨nI_in (by omega) (by omega), trivial⟩ ?_
  rw [nI_clamp (show 14 * sl k + b < 2 ^ 31 by omega)]
  refine RQ_n (ZY_ok P) 3 rfl trivial ?_
  rcases h3 k hk b hb with ⟨e1, e2⟩ | ⟨t, t', e0, e0', e1, e2, e3⟩
  · rw [e1, e2]
    refine RQ_b rfl (fun z => absurd rfl z) (fun _ => ?_)
    refine RQ_n (ZY_ok P) 2 rfl trivial ?_
    exact RQ_to (Rn_iret rfl rfl) ⟨rfl, rfl⟩
  · rw [e1, e3]
    refine RQ_b rfl (fun _ => ?_) (fun z => absurd (Classical.not_not.mp z) (nI_m1 (a := t) (by omega)))
    refine RQ_n (ZY_ok P) 3 rfl trivial ?_
    refine RQ_n (ZY_ok P) 1 rfl ⟨nI_in (c := t) (by omega) (by omega), trivial⟩ ?_
    rw [nI_clamp (show t < 2 ^ 31 by omega), e2]
    exact RQ_to (Rn_iret rfl rfl) ⟨rfl, rfl⟩
/-- looks that the closure adds, by rules -/
theorem y_openLook (hG : ZGX G v) (hF : ZNF G N) (h : XV G N v) {k r : Nat} (hk : k < N.1) (hr : r ≤ zgR G) : Ev (ZY P) mX1_openLook [.ref 36, .int (nI k), .int (nI r)] v (some (.int (if r < zgR G then zcl G (zE0 G) (zF0 G) (N.2.1 k) (6 * r) else 0))) v := by
  have hN := hF.1.2
  have hb := hG.b
  obtain ⟨-, sl, kc, h2, h3⟩ := h
  obtain ⟨a1, a2, -, -, -, a6⟩ := h2 k hk
  have e : zol G (yO (sl k) v) r = if r < zgR G then zcl G (zE0 G) (zF0 G) (N.2.1 k) (6 * r) else 0 := by
    unfold zol
    by_cases y : r < zgR G
    · have z0 := (hF.2.1 k hk).1
      rw [if_pos y, zcl_eq (zlO_C hG.1 z0 a6) (show 6 * r < 102 by omega)]
      unfold zCM
      rw [z0 r y, show 6 * r % 6 = 0 by omega, show 6 * r / 6 = r by omega]
      by_cases w : zgi G r = true
      · rw [if_pos ⟨y, w⟩, if_pos ⟨rfl, y, w⟩]
        exact (bsub_an bsub_r (bsub_or bsub_0 bsub_rf))
      · rw [if_neg (fun q => w q.2), if_neg (fun q => w q.2.2)]
        rfl
    · rw [if_neg (fun q => y q.1), if_neg y]
  refine EQ_ev ?_
  refine EQ_V vX1_openLook rfl ?_
  refine RQ_n (ZY_ok P) 4 rfl trivial ?_
  refine RQ_n (ZY_ok P) 1 rfl ⟨nI_in (by omega) (by omega), trivial⟩ ?_
  rw [nI_clamp (show k < 2 ^ 31 by omega), a2]
  refine RQ_n (ZY_ok P) 1 rfl trivial ?_
  refine RQ_v vX1_openLookIn (y_openLookIn hG a1 hr) rfl k1_108 rfl rfl rfl (zy36 _ rfl) rfl ?_
  rw [e]
  exact RQ_to (Rn_iret rfl rfl) ⟨rfl, rfl⟩
/-- bits of the letters it goes by -/
def zlf (g : Nat → Option Nat) : Nat → Int32
  | 0 => 0
  | b + 1 => if (g b).isSome = true then zlf g b ||| b1 b else zlf g b
theorem zlf_bt (g : Nat → Option Nat) : ∀ n, n ≤ 32 → ∀ t, bt (zlf g n) t = (decide (t < n) && (g t).isSome)
  | 0, _, t => by rw [zlf, b_0]; rfl
  | n + 1, h, t => by
    have ih := zlf_bt g n (by omega) t
    rw [zlf]
    by_cases y : (g n).isSome = true
    · rw [if_pos y, b_or, ih, b1_bt (by omega)]
      rcases Nat.lt_trichotomy t n with z | z | z
      · rw [decide_eq_true z, decide_eq_true (show t < n + 1 by omega), decide_eq_false (show ¬ t = n by omega), Bool.or_false]
      · rw [z, y, decide_eq_true rfl, decide_eq_true (show n < n + 1 by omega), Bool.or_true]; rfl
      · rw [decide_eq_false (show ¬ t < n by omega), decide_eq_false (show ¬ t < n + 1 by omega), decide_eq_false (show ¬ t = n by omega)]; rfl
    · rw [if_neg y, ih]
      rcases Nat.lt_trichotomy t n with z | z | z
      · rw [decide_eq_true z, decide_eq_true (show t < n + 1 by omega)]
      · rw [z, Bool.eq_false_iff.mpr y, Bool.and_false, Bool.and_false]
      · rw [decide_eq_false (show ¬ t < n by omega), decide_eq_false (show ¬ t < n + 1 by omega)]
theorem y_lettersFrom (hN : N.1 ≤ 200) (h : XV G N v) {k : Nat} (hk : k < N.1) : Ev (ZY P) mX1_lettersFrom [.ref 36, .int (nI k)] v (some (.int (zlf (N.2.2 k) 14))) v := by
  obtain ⟨-, sl, kc, h2, h3⟩ := h
  obtain ⟨a1, a2, -⟩ := h2 k hk
  refine EQ_ev ?_
  refine EQ_V vX1_lettersFrom rfl ?_
  refine RQ_n (ZY_ok P) 4 rfl trivial ?_
  refine loopU 14 (fun b (_ : Unit) => [some (.ref 36), some (.int (nI k)), some (.int (zlf (N.2.2 k) b)), some (.int (nI b))]) (fun _ _ w => w = v) ?_ 0 () v (by omega) rfl
  intro b _ w hb hw ih
  subst hw
  refine RQ_n (ZY_ok P) 2 rfl trivial ?_
  refine RQ_b rfl (fun z => ?_) (fun z => ?_)
  · have z := (zq_le (a := 14) (b := b) rfl rfl (by omega) (by omega)).mp z
    have : b = 14 := by omega
    subst this
    refine RQ_n (ZY_ok P) 1 rfl trivial ?_
    exact RQ_to (Rn_iret rfl rfl) ⟨rfl, rfl⟩
  have z := (not_congr (zq_le (a := 14) (b := b) rfl rfl (by omega) (by omega))).mp z
  refine RQ_n (ZY_ok P) 4 rfl trivial ?_
  refine RQ_n (ZY_ok P) 1 rfl ⟨nI_in (by omega) (by omega), trivial⟩ ?_
  rw [nI_clamp (show k < 2 ^ 31 by omega), a2]
  refine RQ_n (ZY_ok P) 1 rfl trivial ?_
  refine RQ_v vX1_goalOf (y_goalOf w a1 (show b < 14 by omega)) rfl k1_138 rfl rfl rfl (zy36 _ rfl) rfl ?_
  refine RQ_n (ZY_ok P) 1 rfl trivial ?_
  rcases h3 k hk b (by omega) with ⟨e1, e2⟩ | ⟨t, t', e0, e0', e1, e2, e3⟩
  · rw [e1]
    refine RQ_b rfl (fun _ => ?_) (fun y => absurd rfl y)
    refine RQ_n (ZY_ok P) 2 rfl trivial ?_
    refine ih (by omega) () _ _ ?_ rfl
    have e : zlf (N.2.2 k) (b + 1) = zlf (N.2.2 k) b := by rw [zlf, e2]; rfl
    rw [e]
    exact ⟨rfl, rfl, rfl, nIs b, trivial⟩
  · rw [e1]
    refine RQ_b rfl (fun y => absurd y (nI_m1 (a := t) (by omega))) (fun _ => ?_)
    refine RQ_n (ZY_ok P) 8 rfl trivial ?_
    refine ih (by omega) () _ _ ?_ rfl
    have e : zlf (N.2.2 k) (b + 1) = zlf (N.2.2 k) b ||| b1 b := by rw [zlf, e3]; rfl
    rw [e]
    exact ⟨rfl, rfl, rfl, nIs b, trivial⟩
end XGet
