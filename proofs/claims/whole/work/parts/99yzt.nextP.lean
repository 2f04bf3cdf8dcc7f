/-! The next word by the alphabet, as a number. -/
theorem zdg_n (T n q i : Nat) (h : i < n) : zdg T (n + 1) q i = zdg T n (q / T) i := by
  unfold zdg
  rw [show n + 1 - 1 - i = (n - 1 - i) + 1 by omega, Nat.pow_succ, Nat.mul_comm, Nat.div_div_eq_div_mul]
theorem zdg_l (T n q : Nat) : zdg T (n + 1) q n = q % T := by
  unfold zdg
  rw [show n + 1 - 1 - n = 0 by omega, Nat.pow_zero, Nat.div_one]
theorem zni_q {T L : Nat} (hT : 0 < T) : ∀ n q (h : Nat → Nat), n ≤ L → q < T ^ n → (∀ i, i < n → h i = zdg T n q i) → (∀ i, n ≤ i → i < L → h i = 0) → (q + 1 < T ^ n → ∃ g, zni T n h = some g ∧ (∀ i, i < n → g i = zdg T n (q + 1) i) ∧ ∀ i, n ≤ i → i < L → g i = 0) ∧ (¬ q + 1 < T ^ n → zni T n h = none) := by
  intro n
  induction n with
  | zero =>
    intro q h _ hq _ _
    rw [Nat.pow_zero] at hq ⊢
    exact ⟨fun y => by omega, fun _ => rfl⟩
  | succ n ih =>
    intro q h hn hq h1 h2
    have hl : h n = q % T := by rw [h1 n (by omega), zdg_l]
    have hp : T ^ (n + 1) = T * T ^ n := by rw [Nat.pow_succ, Nat.mul_comm]
    have hd : q / T < T ^ n := by
      rw [hp] at hq
      exact Nat.div_lt_of_lt_mul hq
    have hdm := Nat.div_add_mod q T
    have hml := Nat.mod_lt q hT
    have hmono : T * (q / T + 1) ≤ T * T ^ n := Nat.mul_le_mul_left T hd
    have hexp : T * (q / T + 1) = T * (q / T) + T := by rw [Nat.mul_add, Nat.mul_one]
    by_cases hc : q % T + 1 < T
    · have e : zni T (n + 1) h = some (updN h n (h n + 1)) := by
        show (if h n + 1 < T then some (updN h n (h n + 1)) else zni T n (updN h n 0)) = _
        rw [hl, if_pos hc]
      have hlt : q + 1 < T ^ (n + 1) := by rw [hp]; omega
      have em : (q + 1) % T = q % T + 1 := by
        rw [← hdm, Nat.add_assoc, Nat.mul_add_mod, Nat.mul_add_mod, Nat.mod_mod, Nat.mod_eq_of_lt hc]
      have ed : (q + 1) / T = q / T := by
        have h3 := Nat.div_add_mod (q + 1) T
        rw [em] at h3
        have h4 : T * ((q + 1) / T) = T * (q / T) := by omega
        exact Nat.eq_of_mul_eq_mul_left hT h4
      refine ⟨fun _ => ⟨_, e, fun i hi => ?_, fun i hi1 hi2 => ?_⟩, fun y => absurd hlt y⟩
      · by_cases ei : i = n
        · rw [ei, zdg_l, em, ← hl]
          unfold updN
          rw [if_pos rfl]
        · have hin : i < n := by omega
          rw [zdg_n T n (q + 1) i hin, ed, ← zdg_n T n q i hin, ← h1 i (by omega)]
          unfold updN
          rw [if_neg ei]
      · unfold updN
        rw [if_neg (by omega)]
        exact h2 i hi1 hi2
    · have e : zni T (n + 1) h = zni T n (updN h n 0) := by
        show (if h n + 1 < T then some (updN h n (h n + 1)) else zni T n (updN h n 0)) = _
        rw [hl, if_neg hc]
      have hT1 : q % T + 1 = T := by omega
      have eq1 : q + 1 = T * (q / T + 1) := by omega
      have em : (q + 1) % T = 0 := by rw [eq1, Nat.mul_mod_right]
      have ed : (q + 1) / T = q / T + 1 := by rw [eq1, Nat.mul_div_cancel_left _ hT]
      obtain ⟨i1, i2⟩ := ih (q / T) (updN h n 0) (by omega) hd (fun i hi => by
        unfold updN
        rw [if_neg (by omega), h1 i (by omega), zdg_n T n q i hi]) (fun i hi1 hi2 => by
        unfold updN
        by_cases ei : i = n
        · rw [if_pos ei]
        · rw [if_neg ei]; exact h2 i (by omega) hi2)
      have hiff : q + 1 < T ^ (n + 1) ↔ q / T + 1 < T ^ n := by
        rw [hp, eq1]
        exact Nat.mul_lt_mul_left hT
      refine ⟨fun y => ?_, fun y => ?_⟩
      · obtain ⟨g, g1, g2, g3⟩ := i1 (hiff.mp y)
        refine ⟨g, e.trans g1, fun i hi => ?_, fun i hi1 hi2 => g3 i (by omega) hi2⟩
        by_cases ei : i = n
        · rw [ei, zdg_l, em]; exact g3 n (Nat.le_refl _) (by omega)
        · rw [zdg_n T n (q + 1) i (by omega), ed]; exact g2 i (by omega)
      · rw [e]; exact i2 (fun z => y (hiff.mpr z))
theorem zdg_q {T L n : Nat} (w i : Nat) (hn : n ≤ L) (hi : i < n) : zdg T L w i = zdg T n (w / T ^ (L - n)) i := by
  unfold zdg
  rw [Nat.div_div_eq_div_mul, ← Nat.pow_add, show L - n + (n - 1 - i) = L - 1 - i by omega]
theorem zdg_z {T L n q i : Nat} (hT : 0 < T) (hn : n ≤ i) (hi : i < L) : zdg T L (q * T ^ (L - n)) i = 0 := by
  unfold zdg
  rw [show L - n = (L - 1 - i) + ((i - n) + 1) by omega, Nat.pow_add, Nat.mul_comm (T ^ (L - 1 - i)), ← Nat.mul_assoc, Nat.mul_div_cancel _ (Nat.pow_pos hT), Nat.pow_succ, ← Nat.mul_assoc, Nat.mul_mod_left]
/-- behind all words that begin alike in n places -/
def znw (T L n w : Nat) : Nat := (w / T ^ (L - n) + 1) * T ^ (L - n)
theorem znw_ok {T L n w : Nat} (hT : 0 < T) (hn : n ≤ L) (hw : w < T ^ L) (f : Nat → Nat) (hf : ∀ i, i < L → f i = zdg T L w i) :
    w < znw T L n w ∧ znw T L n w ≤ T ^ L ∧ (∀ j, w ≤ j → j < znw T L n w → ∀ i, i < n → zdg T L j i = f i) ∧ (znw T L n w < T ^ L → ∃ g, zni T n (zcut f n) = some g ∧ ∀ i, i < L → g i = zdg T L (znw T L n w) i) ∧ (¬ znw T L n w < T ^ L → zni T n (zcut f n) = none) := by
  have hD : 0 < T ^ (L - n) := Nat.pow_pos hT
  have hLn : T ^ L = T ^ n * T ^ (L - n) := by rw [← Nat.pow_add, show n + (L - n) = L by omega]
  have hq : w / T ^ (L - n) < T ^ n := by
    rw [hLn, Nat.mul_comm] at hw
    exact Nat.div_lt_of_lt_mul hw
  obtain ⟨q, hqe⟩ : ∃ q, q = w / T ^ (L - n) := ⟨_, rfl⟩
  have hz : znw T L n w = (q + 1) * T ^ (L - n) := by unfold znw; rw [hqe]
  rw [← hqe] at hq
  have hle : q * T ^ (L - n) ≤ w := by rw [hqe]; exact Nat.div_mul_le_self w _
  have hlt : w < (q + 1) * T ^ (L - n) := by
    rw [hqe]
    exact Nat.lt_mul_of_div_lt (Nat.lt_succ_self _) hD
  have hiff : znw T L n w < T ^ L ↔ q + 1 < T ^ n := by
    rw [hz, hLn]
    exact Nat.mul_lt_mul_right hD
  have hzq : znw T L n w / T ^ (L - n) = q + 1 := by rw [hz, Nat.mul_div_cancel _ hD]
  obtain ⟨a1, a2⟩ := zni_q (L := L) hT n q (zcut f n) hn hq (fun i hi => by
    unfold zcut
    rw [if_pos hi, hf i (by omega), zdg_q w i hn hi, hqe]) (fun i hi1 hi2 => by
    unfold zcut
    rw [if_neg (by omega)])
  refine ⟨by rw [hz]; exact hlt, by rw [hz, hLn]; exact Nat.mul_le_mul_right _ hq, fun j hj1 hj2 i hi => ?_, fun y => ?_, fun y => a2 (fun z => y (hiff.mpr z))⟩
  · have ej : j / T ^ (L - n) = q := by
      have h1 : q ≤ j / T ^ (L - n) := (Nat.le_div_iff_mul_le hD).mpr (Nat.le_trans hle hj1)
      have h2 : j / T ^ (L - n) < q + 1 := (Nat.div_lt_iff_lt_mul hD).mpr (by rw [← hz]; exact hj2)
      omega
    rw [zdg_q j i hn hi, ej, hf i (by omega), zdg_q w i hn hi, ← hqe]
  · obtain ⟨g, g1, g2, g3⟩ := a1 (hiff.mp y)
    refine ⟨g, g1, fun i hi => ?_⟩
    by_cases hin : i < n
    · rw [zdg_q _ i hn hin, hzq]; exact g2 i hin
    · rw [g3 i (by omega) hi, hz, zdg_z hT (by omega) hi]
theorem zcan_pre {G : ZGT} {N : ZNM} {p : Int32} {L : Nat} {f g : Nat → Nat} (h : ∀ i, i ≤ (zcan G N p 0 L f).2.1.1 2 → i < L ∧ f i = g i) : zcan G N p 0 L g = zcan G N p 0 L f := by
  unfold zcan rrt at h ⊢
  exact zrt_inp 301 _ (fun i hi => ⟨(h i hi).1, (h i hi).1, (h i hi).2⟩)
/-- two words of the same signs are one -/
theorem zdg_inj {T : Nat} (hT : 0 < T) : ∀ {L j w : Nat}, j < T ^ L → w < T ^ L → (∀ i, i < L → zdg T L j i = zdg T L w i) → j = w := by
  intro L
  induction L with
  | zero =>
    intro j w hj hw _
    rw [Nat.pow_zero] at hj hw
    omega
  | succ n ih =>
    intro j w hj hw h
    have hp : T ^ (n + 1) = T * T ^ n := by rw [Nat.pow_succ, Nat.mul_comm]
    have h1 : j / T = w / T := ih (by rw [hp] at hj; exact Nat.div_lt_of_lt_mul hj) (by rw [hp] at hw; exact Nat.div_lt_of_lt_mul hw) (fun i hi => by
      rw [← zdg_n T n j i hi, ← zdg_n T n w i hi]; exact h i (by omega))
    have h2 : j % T = w % T := by rw [← zdg_l T n j, ← zdg_l T n w]; exact h n (by omega)
    rw [← Nat.div_add_mod j T, ← Nat.div_add_mod w T, h1, h2]
