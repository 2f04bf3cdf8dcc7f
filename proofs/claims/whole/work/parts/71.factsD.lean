/-! Facts: shortestSum, findShortest. -/
def zSI (x : Nat) : Int32 := if x = 1000000 then -1 else nI x
theorem zsu_sn (G : ZGT) (S : Nat → Nat) (r : Nat) : ∀ d i, zsu G S r (d + 1) i = zsu G S r d i + zsl S (zgt G r (i + d))
  | 0, i => by
    show zsl S (zgt G r i) + 0 = 0 + zsl S (zgt G r (i + 0))
    rw [Nat.add_zero, Nat.add_zero, Nat.zero_add]
  | d + 1, i => by
    rw [zsu, zsu_sn G S r d (i + 1), zsu, show i + 1 + d = i + (d + 1) by omega]
    omega
theorem zsu_ge (G : ZGT) (S : Nat → Nat) (r : Nat) : ∀ d i k, k < d → zsl S (zgt G r (i + k)) ≤ zsu G S r d i
  | 0, i, k, h => by omega
  | d + 1, i, k, h => by
    rw [zsu_sn]
    by_cases z : k = d
    · subst z; omega
    · have := zsu_ge G S r d i k (by omega); omega
theorem zsu_le (G : ZGT) (S : Nat → Nat) (r M : Nat) : ∀ d i, (∀ k, k < d → zsl S (zgt G r (i + k)) ≤ M) → zsu G S r d i ≤ d * M
  | 0, i, _ => by unfold zsu; omega
  | d + 1, i, h => by
    rw [zsu_sn, Nat.succ_mul]
    have h1 := zsu_le G S r M d i (fun k hk => h k (by omega))
    have h2 := h d (by omega)
    omega
/-- shortest ones: none, or small -/
def SB (S : Nat → Nat) : Prop := ∀ n, n < 6 → S n = 1000000 ∨ S n ≤ 15625
def SR (S : Nat → Nat) (u : SX) : Prop := ∀ n, n < 6 → u.2.1 17 n = zSI (S n)
theorem zsl_in {G : ZGT} (hG : GW G) {S : Nat → Nat} (hS : SB S) {r i : Nat} (hr : r ≤ zgR G) (hi : i < zgn G r) : zsl S (zgt G r i) = 1000000 ∨ zsl S (zgt G r i) ≤ 15625 := by
  unfold zsl
  have := hG.t hr hi
  by_cases z : zgt G r i < 8
  · rw [if_pos z]; omega
  · rw [if_neg z]; exact hS _ (by omega)
theorem y_shortestSum {P : YP} {G : ZGT} {u : SX} {S : Nat → Nat} (h : ZGX G u) (hS : SB S) (hR : SR S u) {r : Nat} (hr : r ≤ zgR G) : Ev (ZY P) mX4_shortestSum [.ref 14, .int (nI r)] u (some (.int (zSI (zSM G S r)))) u := by
  have hb := h.b
  have hn := h.1.n hr
  have hrc : (nI r).toNatClampNeg = r := nI_clamp (by omega)
  have e1 : u.2.1 5 (nI r).toNatClampNeg = nI (zgn G r) := by rw [hrc]; exact h.n hr
  refine EQ_ev (EQ_V vX4_shortestSum rfl ?_)
  refine RQ_n (ZY_ok P) 4 rfl trivial ?_
  refine loopU (zgn G r) (fun i (_ : Unit) => [some (.ref 14), some (.int (nI r)), some (.int (nI (zsu G S r i 0))), some (.int (nI i)), none, none]) (fun i _ v => v = u ∧ ∀ k, k < i → zsl S (zgt G r (0 + k)) ≤ 15625) ?_ 0 () u (by omega) ⟨rfl, fun k hk => by omega⟩
  intro i _ v hi hJ ih
  obtain ⟨rfl, hk⟩ := hJ
  have hsum := zsu_le G S r 15625 i 0 hk
  have hsum2 : zsu G S r i 0 ≤ 78125 := by
    have : i * 15625 ≤ 5 * 15625 := Nat.mul_le_mul_right _ (by omega)
    omega
  refine RQ_n (ZY_ok P) 6 rfl ⟨nI_in (by omega) (by omega), trivial⟩ ?_
  refine RQ_b rfl (fun q => ?_) (fun q => ?_)
  · have q := (zq_le e1 rfl (by omega) (by omega)).mp q
    have : i = zgn G r := by omega
    subst this
    refine RQ_n (ZY_ok P) 1 rfl trivial ?_
    refine RQ_to (Rn_iret rfl rfl) ⟨?_, rfl⟩
    rw [zSM, Nat.min_eq_right (by omega), zSI, if_neg (by omega)]
  have q := (not_congr (zq_le e1 rfl (by omega) (by omega))).mp q
  have hin : i < zgn G r := by omega
  have hlt := h.1.t hr hin
  have hzs := zsl_in h.1 hS hr hin
  refine RQ_n (ZY_ok P) 4 rfl trivial ?_
  refine RQ_v vX5_letterAt (y_letterAt h hr (by omega)) rfl k4_86 rfl rfl rfl (zy3 v rfl) rfl ?_
  rw [zlt_in hin]
  -- with the letter's own one
  have turn : ∀ x : Int32, x = zSI (zsl S (zgt G r i)) → RnQ (ZY P) mX4_shortestSum (51, [some (.ref 14), some (.int (nI r)), some (.int (nI (zsu G S r i 0))), some (.int (nI i)), some (.int (nI (zgt G r i))), some (.int x)], [], v) (fun r_1 u_1 => r_1 = some (.int (zSI (zSM G S r))) ∧ u_1 = v) := by
    intro x hx
    refine RQ_n (ZY_ok P) 2 rfl trivial ?_
    refine RQ_b rfl (fun q2 => ?_) (fun q2 => ?_)
    · have q2 : ¬ x = -1 := q2
      have h15 : zsl S (zgt G r i) ≤ 15625 := by
        rcases hzs with z | z
        · rw [hx, zSI, if_pos z] at q2; exact absurd rfl q2
        · exact z
      have hx2 : x = nI (zsl S (zgt G r i)) := by rw [hx, zSI, if_neg (by omega)]
      subst hx2
      refine RQ_n (ZY_ok P) 6 rfl trivial ?_
      refine ih hin () _ _ ⟨rfl, rfl, ?_, nIs i, trivial⟩ ⟨rfl, fun k hk2 => ?_⟩
      · show Value.int (nI (zsu G S r (i + 1) 0)) = Value.int (nI (zsu G S r i 0) + nI (zsl S (zgt G r i)))
        rw [nI_add, zsu_sn, Nat.zero_add]
      · by_cases z : k = i
        · subst z; rw [Nat.zero_add]; exact h15
        · exact hk k (by omega)
    · have q2 : x = -1 := Classical.not_not.mp q2
      have hB : zsl S (zgt G r i) = 1000000 := by
        rcases hzs with z | z
        · exact z
        · rw [hx, zSI, if_neg (by omega)] at q2; exact absurd q2 (nI_m1 (by omega))
      refine RQ_n (ZY_ok P) 1 rfl trivial ?_
      refine RQ_to (Rn_iret rfl rfl) ⟨?_, rfl⟩
      have := zsu_ge G S r (zgn G r) 0 i hin
      rw [Nat.zero_add, hB] at this
      rw [zSM, Nat.min_eq_left this, zSI, if_pos rfl]
  refine RQ_n (ZY_ok P) 3 rfl trivial ?_
  refine RQ_b rfl (fun q2 => ?_) (fun q2 => ?_)
  · have q2 := (zq_le (a := 8) (b := zgt G r i) rfl rfl (by omega) (by omega)).mp q2
    have e8 : nI (zgt G r i) - 8 = nI (zgt G r i - 8) := nI_sub (b := 8) q2
    refine RQ_n (ZY_ok P) 7 rfl ⟨by rw [e8]; exact nI_in (by omega) (by omega), trivial⟩ ?_
    refine turn _ ?_
    rw [e8, nI_clamp (by omega), hR _ (by omega), zsl, if_neg (by omega)]
  · have q2 := (not_congr (zq_le (a := 8) (b := zgt G r i) rfl rfl (by omega) (by omega))).mp q2
    refine RQ_n (ZY_ok P) 3 rfl trivial ?_
    refine turn _ ?_
    rw [zsl, if_pos (by omega), zSI, if_neg (by omega)]
    rfl
/-- how many names have one; all are small by that -/
def fc1 (x : Nat) : Nat := if x = 1000000 then 0 else 1
def fc6 (S : Nat → Nat) : Nat := fc1 (S 0) + fc1 (S 1) + fc1 (S 2) + fc1 (S 3) + fc1 (S 4) + fc1 (S 5)
theorem fc1_le (x : Nat) : fc1 x ≤ 1 := by unfold fc1; split <;> omega
theorem fc6_le (S : Nat → Nat) : fc6 S ≤ 6 := by
  have h0 := fc1_le (S 0)
  have h1 := fc1_le (S 1)
  have h2 := fc1_le (S 2)
  have h3 := fc1_le (S 3)
  have h4 := fc1_le (S 4)
  have h5 := fc1_le (S 5)
  unfold fc6
  omega
def updN (f : Nat → Nat) (k x : Nat) : Nat → Nat := fun j => if j = k then x else f j
theorem updN_at {f : Nat → Nat} {k x : Nat} : updN f k x k = x := if_pos rfl
theorem updN_ne {f : Nat → Nat} {k x j : Nat} (h : j ≠ k) : updN f k x j = f j := if_neg h
theorem fc6_up (S : Nat → Nat) {k x : Nat} (hk : k < 6) (hx : x ≠ 1000000) : fc6 (updN S k x) + fc1 (S k) = fc6 S + 1 := by
  have e1 : fc1 x = 1 := by unfold fc1; rw [if_neg hx]
  have : k = 0 ∨ k = 1 ∨ k = 2 ∨ k = 3 ∨ k = 4 ∨ k = 5 := by omega
  unfold fc6
  rcases this with z | z | z | z | z | z <;> subst z <;> simp only [updN, e1, if_true, if_false, Nat.reduceEqDiff] <;> omega
def m1f (x : Nat) : Nat := min x 15626
def z6m (S : Nat → Nat) : Nat := m1f (S 0) + m1f (S 1) + m1f (S 2) + m1f (S 3) + m1f (S 4) + m1f (S 5)
theorem z6m_le (S : Nat → Nat) : z6m S ≤ 93756 := by unfold z6m m1f; omega
theorem z6m_up {S S' : Nat → Nat} (h : ∀ n, n < 6 → S' n ≤ S n) {k : Nat} (hk : k < 6) (hl : m1f (S' k) < m1f (S k)) : z6m S' < z6m S := by
  have h0 := h 0 (by omega)
  have h1 := h 1 (by omega)
  have h2 := h 2 (by omega)
  have h3 := h 3 (by omega)
  have h4 := h 4 (by omega)
  have h5 := h 5 (by omega)
  unfold z6m m1f at *
  have : k = 0 ∨ k = 1 ∨ k = 2 ∨ k = 3 ∨ k = 4 ∨ k = 5 := by omega
  rcases this with z | z | z | z | z | z <;> subst z <;> omega
def SP (S : Nat → Nat) : Prop := ∀ n, n < 6 → S n = 1000000 ∨ S n ≤ 5 ^ fc6 S
theorem SP.b {S : Nat → Nat} (h : SP S) : SB S := fun n hn => by
  rcases h n hn with z | z
  · exact Or.inl z
  · have : 5 ^ fc6 S ≤ 5 ^ 6 := Nat.pow_le_pow_right (by omega) (fc6_le S)
    exact Or.inr (by omega)
theorem SP.up {S : Nat → Nat} (h : SP S) {k x : Nat} (hk : k < 6) (hx : x ≠ 1000000) (h1 : x ≤ 5 ^ (fc6 S + 1)) (h2 : S k = 1000000 ∨ x ≤ S k) : SP (updN S k x) := by
  have hf := fc6_up S hk hx
  intro n hn
  by_cases z : S k = 1000000
  · rw [z, show fc1 1000000 = 0 from rfl, Nat.add_zero] at hf
    rw [hf]
    by_cases y : n = k
    · subst y; rw [updN_at]; exact Or.inr h1
    · rw [updN_ne y]
      rcases h n hn with w | w
      · exact Or.inl w
      · have : 5 ^ fc6 S ≤ 5 ^ (fc6 S + 1) := Nat.pow_le_pow_right (by omega) (by omega)
        exact Or.inr (by omega)
  · have e1 : fc1 (S k) = 1 := by unfold fc1; rw [if_neg z]
    have e2 : fc6 (updN S k x) = fc6 S := by omega
    rw [e2]
    by_cases y : n = k
    · subst y
      rw [updN_at]
      rcases h n hn with w | w
      · exact absurd w z
      · exact Or.inr (by omega)
    · rw [updN_ne y]; exact h n hn
/-- a rule's sum is small, or none -/
theorem zSM_sm {G : ZGT} (hG : GW G) {S : Nat → Nat} (hS : SP S) {r : Nat} (hr : r ≤ zgR G) : zSM G S r = 1000000 ∨ (zSM G S r ≤ 78125 ∧ zSM G S r ≤ 5 ^ (fc6 S + 1)) := by
  by_cases z : ∃ k, k < zgn G r ∧ zsl S (zgt G r (0 + k)) = 1000000
  · obtain ⟨k, hk, hz⟩ := z
    have := zsu_ge G S r (zgn G r) 0 k hk
    rw [hz] at this
    exact Or.inl (Nat.min_eq_left this)
  · have hn := hG.n hr
    have hall : ∀ M, 1 ≤ M → (∀ n, n < 6 → S n = 1000000 ∨ S n ≤ M) → zsu G S r (zgn G r) 0 ≤ 5 * M := by
      intro M h1 hM
      have := zsu_le G S r M (zgn G r) 0 (fun k hk => by
        have hk2 : zsl S (zgt G r (0 + k)) ≠ 1000000 := fun y => z ⟨k, hk, y⟩
        rw [Nat.zero_add] at hk2 ⊢
        have ht := hG.t hr hk
        unfold zsl at hk2 ⊢
        by_cases y : zgt G r k < 8
        · rw [if_pos y]; exact h1
        · rw [if_neg y] at hk2 ⊢
          rcases hM (zgt G r k - 8) (by omega) with w | w
          · exact absurd w hk2
          · exact w)
      exact Nat.le_trans this (Nat.mul_le_mul_right _ hn)
    have h1 := hall 15625 (by omega) hS.b
    have h2 := hall (5 ^ fc6 S) (Nat.pow_pos (by omega)) hS
    have h3 : 5 ^ (fc6 S + 1) = 5 ^ fc6 S * 5 := Nat.pow_succ _ _
    have h4 : zSM G S r ≤ zsu G S r (zgn G r) 0 := Nat.min_le_right _ _
    exact Or.inr ⟨by omega, by omega⟩
set_option maxHeartbeats 1000000 in
theorem y_findShortest {P : YP} {G : ZGT} {s : SX} (h : ZGX G s) : EvQ (ZY P) mX4_findShortest [.ref 14] s (fun x u => x = none ∧ (∃ S, zlS G S ∧ SB S ∧ SR S u) ∧ frX [] [17] s u) := by
  have hb := h.b
  refine EQ_V vX4_findShortest rfl ?_
  refine RQ_n (ZY_ok P) 3 rfl trivial ?_
  refine RQ_s vJ7_fill_53178 (y_fill s 17 6 (-1) (by omega) (by omega) (fun _ _ => rfl)) rfl k4_93 rfl rfl rfl rfl ?_
  obtain ⟨s1, hs1⟩ : ∃ w : SX, w = (s.1, setA s.2.1 17 (fil (s.2.1 17) 0 6 (-1)), s.2.2) := ⟨_, rfl⟩
  rw [← hs1]
  have hf1 : frX [] [17] s s1 := by rw [hs1]; exact frX.s 17 (by decide)
  have h17 : ∀ n, n < 6 → s1.2.1 17 n = -1 := fun n hn => by
    rw [hs1]
    show fil (s.2.1 17) 0 6 (-1) n = -1
    exact fil_in (by omega) hn
  refine RQ_n (ZY_ok P) 4 rfl trivial ?_
  refine loopD (fun (x : Nat × Bool × (Nat → Nat)) => [some (.ref 14), some (.int (bI x.2.1)), some (.int (nI x.1)), none, none, none]) (fun m x u => m + x.1 = 100000 ∧ x.1 ≤ 93757 ∧ frX [] [17] s u ∧ SP x.2.2 ∧ SR x.2.2 u ∧ (∀ S', zcS G S' → (∀ n, n < 6 → S' n ≤ 1000000) → ∀ n, n < 6 → S' n ≤ x.2.2 n) ∧ (x.2.1 = true → x.1 + z6m x.2.2 ≤ 93756) ∧ (x.2.1 = false → zcS G x.2.2)) ?_ 100000 (0, true, fun _ => 1000000) s1 ⟨rfl, Nat.zero_le _, hf1, fun _ _ => Or.inl rfl, fun n hn => h17 n hn, fun S' _ h2 n hn => h2 n hn, fun _ => (by show 0 + z6m _ ≤ _; rw [Nat.zero_add]; exact z6m_le _), fun z => by cases z⟩
  intro m x u hJ ih
  obtain ⟨k, more, S0⟩ := x
  obtain ⟨hm, hk7, hf, hP0, hR0, hl, ht, hc⟩ := hJ
  dsimp only at hm hk7 hP0 hR0 hl ht hc ⊢
  refine RQ_n (ZY_ok P) 1 rfl trivial ?_
  refine RQ_b rfl (fun q => ?_) (fun q => ?_)
  · have q := bI_0.mp q
    refine RQ_to (Rn_vret rfl rfl) ⟨rfl, ⟨S0, ⟨⟨hc q, fun n hn => ?_⟩, hl⟩, hP0.b, hR0⟩, hf⟩
    have := hP0.b n hn; omega
  have q := bI_t q
  have hk := ht q
  refine RQ_n (ZY_ok P) 2 rfl trivial ?_
  refine RQ_b rfl (fun q2 => ?_) (fun q2 => ?_)
  · have q2 := (zq_le (a := 1000000) (b := k) rfl rfl (by omega) (by omega)).mp q2
    omega
  refine RQ_n (ZY_ok P) 4 rfl trivial ?_
  refine loopU (zgR G) (fun r (x : Bool × (Nat → Nat)) => [some (.ref 14), some (.int (bI x.1)), some (.int (nI k)), some (.int (nI r)), none, none]) (fun r x v => frX [] [17] s v ∧ SP x.2 ∧ SR x.2 v ∧ (∀ S', zcS G S' → (∀ n, n < 6 → S' n ≤ 1000000) → ∀ n, n < 6 → S' n ≤ x.2 n) ∧ (∀ n, n < 6 → x.2 n ≤ S0 n) ∧ (x.1 = true → z6m x.2 < z6m S0) ∧ (x.1 = false → x.2 = S0 ∧ ∀ r', r' < r → zgi G r' = true → S0 (zgl G r') ≤ zSM G S0 r')) ?_ 0 (false, S0) u (by omega) ⟨hf, hP0, hR0, hl, fun n _ => Nat.le_refl _, fun z => (by cases z), fun _ => ⟨rfl, fun r' hr' => by omega⟩⟩
  intro r x v hr hJ ih2
  obtain ⟨x, S⟩ := x
  obtain ⟨g1, g2, g3, g4, g5, g6, g7⟩ := hJ
  dsimp only at g2 g3 g4 g5 g6 g7 ⊢
  have hv : ZGX G v := h.fr g1 (by decide)
  refine RQ_n (ZY_ok P) 4 rfl trivial ?_
  refine RQ_b rfl (fun q3 => ?_) (fun q3 => ?_)
  · have q3 := (zq_le hv.R rfl (by omega) (by omega)).mp q3
    have hrR : r = zgR G := by omega
    subst hrR
    refine RQ_n (ZY_ok P) 2 rfl trivial ?_
    cases x with
    | false =>
      obtain ⟨a1, a2⟩ := g7 rfl
      refine ih (m - 1) (k + 1, false, S) _ _ (by omega) ⟨rfl, rfl, nIs k, trivial⟩ ⟨by dsimp only; omega, by dsimp only; omega, g1, g2, g3, g4, (fun z => by cases z), fun _ => ?_⟩
      show zcS G S
      rw [a1]
      exact a2
    | true =>
      refine ih (m - 1) (k + 1, true, S) _ _ (by omega) ⟨rfl, rfl, nIs k, trivial⟩ ⟨by dsimp only; omega, by dsimp only; omega, g1, g2, g3, g4, fun _ => ?_, (fun z => by cases z)⟩
      have := g6 rfl
      dsimp only
      omega
  have q3 := (not_congr (zq_le hv.R rfl (by omega) (by omega))).mp q3
  have hrR : r < zgR G := by omega
  have hl6 := h.1.l hrR
  have hrc : (nI r).toNatClampNeg = r := nI_clamp (by omega)
  have e4 : v.2.1 4 (nI r).toNatClampNeg = nI (zgl G r) := by rw [hrc]; exact hv.l hrR
  have hsm := zSM_sm h.1 g2 (r := r) (by omega)
  have hSl := g2.b (zgl G r) hl6
  have pass : ∀ o4 o5 : Option Value, (zgi G r = true → S (zgl G r) ≤ zSM G S r) → RnQ (ZY P) mX4_findShortest (110, [some (.ref 14), some (.int (bI x)), some (.int (nI k)), some (.int (nI r)), o4, o5], [], v) (fun x u => x = none ∧ (∃ S, zlS G S ∧ SB S ∧ SR S u) ∧ frX [] [17] s u) := by
    intro o4 o5 hp
    refine RQ_n (ZY_ok P) 2 rfl trivial ?_
    refine ih2 hrR (x, S) _ _ ⟨rfl, rfl, rfl, nIs r, trivial⟩ ⟨g1, g2, g3, g4, g5, g6, fun z => ⟨(g7 z).1, fun r' hr' => ?_⟩⟩
    by_cases y : r' = r
    · subst y; rw [← (g7 z).1]; exact hp
    · exact (g7 z).2 r' (by omega)
  -- the sum is known
  have turn : ∀ y : Int32, (zgi G r = true ∧ y = zSI (zSM G S r)) ∨ (zgi G r = false ∧ y = -1) → RnQ (ZY P) mX4_findShortest (57, [some (.ref 14), some (.int (bI x)), some (.int (nI k)), some (.int (nI r)), none, none], [.int y], v) (fun x u => x = none ∧ (∃ S, zlS G S ∧ SB S ∧ SR S u) ∧ frX [] [17] s u) := by
    intro y hy
    refine RQ_n (ZY_ok P) 9 rfl ⟨nI_in (by omega) (by omega), trivial⟩ ?_
    refine RQ_b rfl (fun q4 => ?_) (fun q4 => ?_)
    · have q4 : y = -1 := q4
      refine pass _ _ (fun hi => ?_)
      rcases hy with ⟨-, hy⟩ | ⟨hy, -⟩
      · rw [hy, zSI] at q4
        by_cases z : zSM G S r = 1000000
        · rw [z]; omega
        · rw [if_neg z] at q4; exact absurd q4 (nI_m1 (by omega))
      · rw [hi] at hy; cases hy
    have q4 : ¬ y = -1 := q4
    obtain ⟨hi, hy2, hne⟩ : zgi G r = true ∧ y = nI (zSM G S r) ∧ zSM G S r ≠ 1000000 := by
      rcases hy with ⟨hi, hy⟩ | ⟨-, hy⟩
      · refine ⟨hi, ?_, fun z => q4 (by rw [hy, zSI, if_pos z])⟩
        rw [hy, zSI]
        by_cases z : zSM G S r = 1000000
        · exact absurd (by rw [hy, zSI, if_pos z]) q4
        · rw [if_neg z]
      · exact absurd hy q4
    obtain ⟨hs1, hs2⟩ := hsm.resolve_left hne
    have e17 : v.2.1 17 (v.2.1 4 (nI r).toNatClampNeg).toNatClampNeg = zSI (S (zgl G r)) := by rw [e4, nI_clamp (by omega)]; exact g3 _ hl6
    have write : (S (zgl G r) = 1000000 ∨ zSM G S r < S (zgl G r)) → RnQ (ZY P) mX4_findShortest (99, [some (.ref 14), some (.int (bI x)), some (.int (nI k)), some (.int (nI r)), some (.int y), some (.int (v.2.1 4 (nI r).toNatClampNeg))], [], v) (fun x u => x = none ∧ (∃ S, zlS G S ∧ SB S ∧ SR S u) ∧ frX [] [17] s u) := by
      intro hlt
      have hlt2 : zSM G S r < S (zgl G r) := by rcases hlt with z | z <;> omega
      refine RQ_n (ZY_ok P) 9 rfl ⟨by rw [e4]; exact nI_in (by omega) (by omega), trivial⟩ ?_
      obtain ⟨w, hw⟩ : ∃ w : SX, w = (v.1, updA v.2.1 17 (v.2.1 4 (nI r).toNatClampNeg).toNatClampNeg y, v.2.2) := ⟨_, rfl⟩
      have hwf : frX [] [17] v w := by rw [hw]; exact frX.a 17 (by decide)
      have hw17 : w.2.1 17 = upd (v.2.1 17) (zgl G r) (nI (zSM G S r)) := by
        rw [hw, e4, nI_clamp (by omega), hy2]
        rfl
      have hSP : SP (updN S (zgl G r) (zSM G S r)) := g2.up hl6 hne hs2 (by rcases hlt with z | z; exact Or.inl z; exact Or.inr (by omega))
      have hle : ∀ n, n < 6 → updN S (zgl G r) (zSM G S r) n ≤ S n := by
        intro n hn
        by_cases z : n = zgl G r
        · subst z; rw [updN_at]; omega
        · rw [updN_ne z]; exact Nat.le_refl _
      have hm6 : z6m (updN S (zgl G r) (zSM G S r)) < z6m S := by
        refine z6m_up hle hl6 ?_
        have hnew := hSP.b (zgl G r) hl6
        rw [updN_at] at hnew ⊢
        unfold m1f
        rcases hSl with z | z <;> omega
      have hS0 : z6m (updN S (zgl G r) (zSM G S r)) < z6m S0 := by
        by_cases z : x = true
        · have := g6 z; omega
        · rw [(g7 (Bool.eq_false_iff.mpr z)).1] at hm6
          rw [(g7 (Bool.eq_false_iff.mpr z)).1]
          exact hm6
      rw [hw] at hwf hw17
      refine ih2 hrR (true, updN S (zgl G r) (zSM G S r)) _ _ ⟨rfl, rfl, rfl, nIs r, trivial⟩ ⟨g1.tr hwf, hSP, fun n hn => ?_, fun S' a1 a2 n hn => ?_, fun n hn => Nat.le_trans (hle n hn) (g5 n hn), fun _ => hS0, fun z => by cases z⟩
      · rw [hw17]
        dsimp only
        by_cases z : n = zgl G r
        · subst z; rw [upd_at, updN_at, zSI, if_neg hne]
        · rw [upd_ne z, updN_ne z]; exact g3 n hn
      · dsimp only
        by_cases z : n = zgl G r
        · subst z
          rw [updN_at]
          refine Nat.le_trans (a1 r hrR hi) ?_
          have := zsu_up (G := G) (r := r) (S := S) (S' := S') (d := zgn G r) (i := 0) (g4 S' a1 a2) (fun k _ hk => (h.1.t (r := r) (by omega) (by omega)).1)
          unfold zSM
          omega
        · rw [updN_ne z]; exact g4 S' a1 a2 n hn
    refine RQ_n (ZY_ok P) 5 rfl ⟨by rw [e4]; exact nI_in (by omega) (by omega), trivial⟩ ?_
    refine RQ_b rfl (fun q5 => ?_) (fun q5 => ?_)
    · have q5 : v.2.1 17 (v.2.1 4 (nI r).toNatClampNeg).toNatClampNeg = -1 := q5
      rw [e17, zSI] at q5
      refine write (Or.inl (Classical.byContradiction fun z => ?_))
      rw [if_neg z] at q5
      exact nI_m1 (by omega) q5
    have q5 : ¬ v.2.1 17 (v.2.1 4 (nI r).toNatClampNeg).toNatClampNeg = -1 := q5
    rw [e17, zSI] at q5
    have hSn : S (zgl G r) ≠ 1000000 := fun z => q5 (by rw [if_pos z])
    have e17b : v.2.1 17 (v.2.1 4 (nI r).toNatClampNeg).toNatClampNeg = nI (S (zgl G r)) := by rw [e17, zSI, if_neg hSn]
    refine RQ_n (ZY_ok P) 5 rfl ⟨by rw [e4]; exact nI_in (by omega) (by omega), trivial⟩ ?_
    refine RQ_b rfl (fun q6 => ?_) (fun q6 => ?_)
    · have q6 := (zq_le e17b hy2 (by omega) (by omega)).mp q6
      exact pass _ _ (fun _ => q6)
    · have q6 := (not_congr (zq_le e17b hy2 (by omega) (by omega))).mp q6
      exact write (Or.inr (by omega))
  refine RQ_n (ZY_ok P) 3 rfl trivial ?_
  refine RQ_v vX5_isIn (y_isIn hv hrR) rfl k4_72 rfl rfl rfl (zy3 v rfl) rfl ?_
  refine RQ_b rfl (fun q4 => ?_) (fun q4 => ?_)
  · refine RQ_n (ZY_ok P) 1 rfl trivial ?_
    exact turn _ (Or.inr ⟨bI_0.mp q4, rfl⟩)
  · refine RQ_n (ZY_ok P) 2 rfl trivial ?_
    refine RQ_v vX4_shortestSum (y_shortestSum hv g2.b g3 (by omega)) rfl k4_120 rfl rfl rfl (zy14 v rfl) rfl ?_
    refine RQ_n (ZY_ok P) 1 rfl trivial ?_
    exact turn _ (Or.inl ⟨bI_t q4, rfl⟩)
