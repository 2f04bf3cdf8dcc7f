/-! Closures: by names (what a name's rules are looked at with), by items; the least closed ones go together. An item is 6 times its rule, and its dot. -/
/-- by names, over the looks k of a kernel -/
def zcO (G : ZGT) (E : Int32) (F k O : Nat → Int32) : Prop :=
  (∀ r, r ≤ zgR G → ∀ d, d < zgn G r → 8 ≤ zgt G r d → k (6 * r + d) ≠ 0 → bsub (zLB G E F r (d + 1) (k (6 * r + d))) (O (zgt G r d - 8))) ∧
  ∀ r, r < zgR G → zgi G r = true → O (zgl G r) ≠ 0 → 0 < zgn G r → 8 ≤ zgt G r 0 → bsub (zLB G E F r 1 (O (zgl G r))) (O (zgt G r 0 - 8))
def zlO (G : ZGT) (E : Int32) (F k O : Nat → Int32) : Prop := zcO G E F k O ∧ ∀ O', zcO G E F k O' → ∀ n, n < 6 → bsub (O n) (O' n)
theorem zlO_un {G : ZGT} {E : Int32} {F k O O' : Nat → Int32} (h : zlO G E F k O) (h' : zlO G E F k O') {n : Nat} (hn : n < 6) : O n = O' n := bsub_an (h.2 _ h'.1 n hn) (h'.2 _ h.1 n hn)
/-- by items -/
def zcC (G : ZGT) (E : Int32) (F k C : Nat → Int32) : Prop :=
  (∀ i, i < 102 → bsub (k i) (C i)) ∧ ∀ r, r ≤ zgR G → ∀ d, d < zgn G r → 8 ≤ zgt G r d → C (6 * r + d) ≠ 0 → ∀ q, q < zgR G → zgi G q = true → zgl G q = zgt G r d - 8 → bsub (zLB G E F r (d + 1) (C (6 * r + d))) (C (6 * q))
def zlC (G : ZGT) (E : Int32) (F k C : Nat → Int32) : Prop := zcC G E F k C ∧ ∀ C', zcC G E F k C' → ∀ i, i < 102 → bsub (C i) (C' i)
theorem zlC_un {G : ZGT} {E : Int32} {F k C C' : Nat → Int32} (h : zlC G E F k C) (h' : zlC G E F k C') {i : Nat} (hi : i < 102) : C i = C' i := bsub_an (h.2 _ h'.1 i hi) (h'.2 _ h.1 i hi)
/-- the items of a closure by names -/
def zCM (G : ZGT) (k O : Nat → Int32) (i : Nat) : Int32 := k i ||| (if i % 6 = 0 ∧ i / 6 < zgR G ∧ zgi G (i / 6) = true then O (zgl G (i / 6)) else 0)
theorem zCM_q {G : ZGT} {k O : Nat → Int32} {q : Nat} (hq : q < zgR G) (hi : zgi G q = true) : zCM G k O (6 * q) = k (6 * q) ||| O (zgl G q) := by
  unfold zCM
  rw [show 6 * q % 6 = 0 by omega, show 6 * q / 6 = q by omega, if_pos ⟨rfl, hq, hi⟩]
theorem zCM_d {G : ZGT} {k O : Nat → Int32} {r d : Nat} (hd : 0 < d) (h6 : d < 6) : zCM G k O (6 * r + d) = k (6 * r + d) := by
  unfold zCM
  rw [if_neg (by omega), or_0]
theorem zCM_o {G : ZGT} {k O : Nat → Int32} {r : Nat} (h : ¬ (r < zgR G ∧ zgi G r = true)) : zCM G k O (6 * r) = k (6 * r) := by
  unfold zCM
  rw [if_neg (fun z => h (by rw [show 6 * r / 6 = r by omega] at z; exact z.2)), or_0]
/-- what all rules of a name that are in have -/
def zan (G : ZGT) (C : Nat → Int32) (n : Nat) : Nat → Int32
  | 0 => -1
  | r + 1 => zan G C n r &&& (if zgi G r = true ∧ zgl G r = n then C (6 * r) else -1)
theorem zan_bt {G : ZGT} {C : Nat → Int32} {n : Nat} {i : Nat} (hi : i < 32) : ∀ m, bt (zan G C n m) i = true ↔ ∀ r, r < m → zgi G r = true → zgl G r = n → bt (C (6 * r)) i = true
  | 0 => ⟨fun _ r hr => by omega, fun _ => b_m1 i hi⟩
  | m + 1 => by
    rw [zan, b_and, Bool.and_eq_true, zan_bt hi m]
    by_cases z : zgi G m = true ∧ zgl G m = n
    · rw [if_pos z]
      refine ⟨fun h r hr h1 h2 => ?_, fun h => ⟨fun r hr => h r (by omega), h m (by omega) z.1 z.2⟩⟩
      by_cases y : r = m
      · subst y; exact h.2
      · exact h.1 r (by omega) h1 h2
    · rw [if_neg z]
      refine ⟨fun h r hr h1 h2 => ?_, fun h => ⟨fun r hr => h r (by omega), b_m1 i hi⟩⟩
      by_cases y : r = m
      · subst y; exact absurd ⟨h1, h2⟩ z
      · exact h.1 r (by omega) h1 h2
theorem zan_in {G : ZGT} {C : Nat → Int32} {n x : Nat} (hx : x < zgR G) (h1 : zgi G x = true) (h2 : zgl G x = n) : bsub (zan G C n (zgR G)) (C (6 * x)) := fun i hb => by
  by_cases hi : i < 32
  · exact (zan_bt hi _).mp hb x hx h1 h2
  · rw [b_big (by omega)] at hb; cases hb
theorem zan_ge {G : ZGT} {C : Nat → Int32} {n : Nat} {y : Int32} (h : ∀ x, x < zgR G → zgi G x = true → zgl G x = n → bsub y (C (6 * x))) : bsub y (zan G C n (zgR G)) := fun i hb => by
  by_cases hi : i < 32
  · exact (zan_bt hi _).mpr (fun r hr h1 h2 => h r hr h1 h2 i hb)
  · rw [b_big (by omega)] at hb; cases hb
theorem bsub_ne {x y : Int32} (h : bsub x y) (hx : x ≠ 0) : y ≠ 0 := fun z => hx (bsub_an (by rw [← z]; exact h) bsub_0)
theorem zLB_mo {G : ZGT} {E : Int32} {F : Nat → Int32} {r i : Nat} {x y : Int32} (h : bsub x y) : bsub (zLB G E F r i x) (zLB G E F r i y) := zLB_up h
/-- a kernel has no item with the dot 0 but the outer one's -/
def zk0 (G : ZGT) (k : Nat → Int32) : Prop := ∀ r, r < zgR G → k (6 * r) = 0
/-- the least closed by names gives the least closed by items -/
theorem zlO_C {G : ZGT} (hG : GW G) {E : Int32} {F k O : Nat → Int32} (h0 : zk0 G k) (h : zlO G E F k O) : zlC G E F k (zCM G k O) := by
  have hb := hG.1
  refine ⟨⟨fun i _ => bsub_l, ?_⟩, fun C' hC' i hi => ?_⟩
  · intro r hr d hd h8 hne q hq hin hl
    have hn := hG.n hr
    rw [zCM_q hq hin, h0 q hq, or_cm, or_0, hl]
    by_cases z : d = 0
    · subst z
      rw [Nat.add_zero (6 * r)] at hne ⊢
      by_cases y : r < zgR G ∧ zgi G r = true
      · rw [zCM_q y.1 y.2, h0 r y.1, or_cm, or_0] at hne ⊢
        exact h.1.2 r y.1 y.2 hne hd h8
      · rw [zCM_o y] at hne ⊢
        have := h.1.1 r hr 0 hd h8
        rw [Nat.add_zero (6 * r)] at this
        exact this hne
    · rw [zCM_d (by omega) (by omega)] at hne ⊢
      exact h.1.1 r hr d hd h8 hne
  · have hO : zcO G E F k (fun n => zan G C' n (zgR G)) := by
      refine ⟨fun r hr d hd h8 hne => ?_, fun r hr hin hne hd h8 => ?_⟩
      · have hn := hG.n hr
        refine zan_ge (fun x hx h1 h2 => ?_)
        have hk := hC'.1 (6 * r + d) (by omega)
        exact bsub_tr (zLB_mo hk) (hC'.2 r hr d hd h8 (bsub_ne hk hne) x hx h1 h2)
      · refine zan_ge (fun x hx h1 h2 => ?_)
        have hk : bsub (zan G C' (zgl G r) (zgR G)) (C' (6 * r)) := zan_in hr hin rfl
        have := hC'.2 r (by omega) 0 hd h8 (by rw [Nat.add_zero]; exact bsub_ne hk hne) x hx h1 h2
        rw [Nat.add_zero] at this
        exact bsub_tr (zLB_mo hk) this
    unfold zCM
    refine bsub_or (hC'.1 i hi) ?_
    by_cases z : i % 6 = 0 ∧ i / 6 < zgR G ∧ zgi G (i / 6) = true
    · rw [if_pos z]
      have h1 := h.2 _ hO (zgl G (i / 6)) (hG.l z.2.1)
      have h2 : bsub (zan G C' (zgl G (i / 6)) (zgR G)) (C' (6 * (i / 6))) := zan_in z.2.1 z.2.2 rfl
      rw [show 6 * (i / 6) = i by omega] at h2
      exact bsub_tr h1 h2
    · rw [if_neg z]; exact bsub_0
/-- closures by items do not tell more than looks -/
theorem zcC_511 {G : ZGT} (hG : GW G) {E : Int32} {F k : Nat → Int32} (hF : ∀ n, n < 6 → bsub (F n) 511) (hk : ∀ i, i < 102 → bsub (k i) 511) : zcC G E F k (fun _ => 511) := by
  refine ⟨hk, fun r hr d hd _ _ q _ _ _ => ?_⟩
  unfold zLB
  refine bsub_or (zFF_511 hG hr hF) ?_
  by_cases z : zAE G E r (d + 1) = true
  · rw [if_pos z]; exact bsub_rf
  · rw [if_neg z]; exact bsub_0
theorem zcO_511 {G : ZGT} (hG : GW G) {E : Int32} {F k : Nat → Int32} (hF : ∀ n, n < 6 → bsub (F n) 511) (hk : ∀ i, i < 102 → bsub (k i) 511) : zcO G E F k (fun _ => 511) := by
  have key : ∀ r i x, r ≤ zgR G → bsub x 511 → bsub (zLB G E F r i x) 511 := by
    intro r i x hr hx
    unfold zLB
    refine bsub_or (zFF_511 hG hr hF) ?_
    by_cases z : zAE G E r i = true
    · rw [if_pos z]; exact hx
    · rw [if_neg z]; exact bsub_0
  refine ⟨fun r hr d hd _ _ => ?_, fun r hr _ _ _ _ => key r 1 _ (by omega) bsub_rf⟩
  have := hG.n hr
  have := hG.1
  exact key r _ _ hr (hk _ (by omega))
/-- the kernel behind a letter -/
def zNX (G : ZGT) (C : Nat → Int32) (b i : Nat) : Int32 := if 0 < i ∧ (i - 1) / 6 ≤ zgR G ∧ (i - 1) % 6 < zgn G ((i - 1) / 6) ∧ zgt G ((i - 1) / 6) ((i - 1) % 6) = b then C (i - 1) else 0
theorem zNX_s {G : ZGT} {C : Nat → Int32} {b r d : Nat} (hr : r ≤ zgR G) (hd : d < zgn G r) (h5 : zgn G r ≤ 5) (ht : zgt G r d = b) : zNX G C b (6 * r + d + 1) = C (6 * r + d) := by
  unfold zNX
  rw [show 6 * r + d + 1 - 1 = 6 * r + d by omega, show (6 * r + d) / 6 = r by omega, show (6 * r + d) % 6 = d by omega, if_pos ⟨by omega, hr, hd, ht⟩]
theorem zNX_0 {G : ZGT} {C : Nat → Int32} {b r : Nat} : zNX G C b (6 * r) = 0 ∨ 0 < r ∧ zgn G (r - 1) > 5 := by
  unfold zNX
  by_cases z : 0 < 6 * r ∧ (6 * r - 1) / 6 ≤ zgR G ∧ (6 * r - 1) % 6 < zgn G ((6 * r - 1) / 6) ∧ zgt G ((6 * r - 1) / 6) ((6 * r - 1) % 6) = b
  · refine Or.inr ⟨by omega, ?_⟩
    have e1 : (6 * r - 1) / 6 = r - 1 := by omega
    have e2 : (6 * r - 1) % 6 = 5 := by omega
    rw [e1, e2] at z
    omega
  · exact Or.inl (if_neg z)
theorem zNX_k0 {G : ZGT} (hG : GW G) {C : Nat → Int32} {b : Nat} : zk0 G (zNX G C b) := by
  intro r hr
  rcases zNX_0 (G := G) (C := C) (b := b) (r := r) with h | h
  · exact h
  · have := hG.n (r := r - 1) (by omega); omega
theorem zNX_cg {G : ZGT} {C C' : Nat → Int32} {b : Nat} (h : ∀ i, i < 102 → C i = C' i) {i : Nat} (hi : i < 102) : zNX G C b i = zNX G C' b i := by
  unfold zNX
  rw [h (i - 1) (by omega)]
theorem zNX_511 {G : ZGT} {C : Nat → Int32} {b : Nat} (h : ∀ i, i < 102 → bsub (C i) 511) {i : Nat} (hi : i < 102) : bsub (zNX G C b i) 511 := by
  unfold zNX
  by_cases z : 0 < i ∧ (i - 1) / 6 ≤ zgR G ∧ (i - 1) % 6 < zgn G ((i - 1) / 6) ∧ zgt G ((i - 1) / 6) ((i - 1) % 6) = b
  · rw [if_pos z]; exact h _ (by omega)
  · rw [if_neg z]; exact bsub_0
