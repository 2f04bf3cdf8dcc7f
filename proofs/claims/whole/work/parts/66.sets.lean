/-! The grammar as a value; what is empty, what begins, what follows, how short words are: the least closed ones. -/
abbrev ZGT : Type := Nat × Nat × Nat × (Nat → Nat) × (Nat → Nat) × (Nat → Nat → Nat) × (Nat → Bool)
/-- rules, names, signs; left, length, letters (signs 0 .., names 8 ..) of a rule; is it in -/
def zgR (G : ZGT) : Nat := G.1
def zgN (G : ZGT) : Nat := G.2.1
def zgT (G : ZGT) : Nat := G.2.2.1
def zgl (G : ZGT) : Nat → Nat := G.2.2.2.1
def zgn (G : ZGT) : Nat → Nat := G.2.2.2.2.1
def zgt (G : ZGT) : Nat → Nat → Nat := G.2.2.2.2.2.1
def zgi (G : ZGT) : Nat → Bool := G.2.2.2.2.2.2
def GW (G : ZGT) : Prop := (1 ≤ zgR G ∧ zgR G ≤ 16 ∧ 1 ≤ zgN G ∧ zgN G ≤ 6 ∧ zgT G ≤ 8) ∧ (∀ r, r < zgR G → zgl G r < zgN G) ∧ (∀ r, r ≤ zgR G → zgn G r ≤ 5 ∧ ∀ i, i < zgn G r → zgt G r i < zgT G ∨ (8 ≤ zgt G r i ∧ zgt G r i < 8 + zgN G)) ∧ zgn G (zgR G) = 1 ∧ zgt G (zgR G) 0 = 8
theorem GW.l {G : ZGT} (h : GW G) {r : Nat} (hr : r < zgR G) : zgl G r < 6 := by have := h.2.1 r hr; have := h.1; omega
theorem GW.n {G : ZGT} (h : GW G) {r : Nat} (hr : r ≤ zgR G) : zgn G r ≤ 5 := (h.2.2.1 r hr).1
theorem GW.t {G : ZGT} (h : GW G) {r i : Nat} (hr : r ≤ zgR G) (hi : i < zgn G r) : zgt G r i < 14 ∧ (zgt G r i < zgT G ∨ (8 ≤ zgt G r i ∧ zgt G r i < 8 + zgN G)) := by
  have h1 := (h.2.2.1 r hr).2 i hi
  have := h.1
  exact ⟨by omega, h1⟩
/-- sets of bits -/
def bsub (x y : Int32) : Prop := ∀ i, bt x i = true → bt y i = true
theorem bsub_rf {x : Int32} : bsub x x := fun _ h => h
theorem bsub_tr {x y z : Int32} (h : bsub x y) (k : bsub y z) : bsub x z := fun i q => k i (h i q)
theorem bsub_0 {x : Int32} : bsub 0 x := fun i h => by rw [b_0] at h; cases h
theorem bsub_l {x y : Int32} : bsub x (x ||| y) := fun i h => by rw [b_or, h, Bool.true_or]
theorem bsub_r {x y : Int32} : bsub y (x ||| y) := fun i h => by rw [b_or, h, Bool.or_true]
theorem bsub_or {x y z : Int32} (h : bsub x z) (k : bsub y z) : bsub (x ||| y) z := fun i q => by
  rw [b_or, Bool.or_eq_true] at q
  rcases q with q | q
  · exact h i q
  · exact k i q
theorem bsub_an {x y : Int32} (h : bsub x y) (k : bsub y x) : x = y := b_ext fun i _ => by
  cases hx : bt x i with
  | true => rw [h i hx]
  | false =>
    cases hy : bt y i with
    | true => rw [k i hy] at hx; cases hx
    | false => rfl
theorem bsub_eq {x y : Int32} (h : bsub y x) : x ||| y = x := bsub_an (bsub_or bsub_rf h) bsub_l
theorem ctI_up {x y : Int32} (h : bsub x y) : ctI x 32 ≤ ctI y 32 := ctI_sub (fun i _ => h i)
theorem ctI_lt {x y : Int32} {j : Nat} (hx : bt x j = false) (hy : bt y j = true) : ∀ {k : Nat}, j < k → (∀ i, i < k → bt x i = true → bt y i = true) → ctI x k < ctI y k
  | 0, hj, _ => by omega
  | k + 1, hj, h => by
    show ctI x k + (if bt x k = true then 1 else 0) < ctI y k + (if bt y k = true then 1 else 0)
    by_cases z : j = k
    · subst z
      have h1 := ctI_sub (x := x) (y := y) (k := j) (fun i hi => h i (by omega))
      rw [hx, hy, if_neg (by decide), if_pos rfl]; omega
    · have h1 := ctI_lt hx hy (k := k) (by omega) (fun i hi => h i (by omega))
      by_cases w : bt x k = true
      · rw [if_pos w, if_pos (h k (by omega) w)]; omega
      · rw [if_neg w]; omega
theorem ctI_ne {x y : Int32} (h : bsub x y) (hn : x ≠ y) : ctI x 32 < ctI y 32 := by
  have hex : ∃ j, j < 32 ∧ bt x j = false ∧ bt y j = true := by
    apply Classical.byContradiction
    intro z
    apply hn
    refine bsub_an h (fun i q => ?_)
    cases hx : bt x i with
    | true => rfl
    | false =>
      by_cases hi : i < 32
      · exact absurd ⟨i, hi, hx, q⟩ z
      · rw [b_big (by omega)] at q; cases q
  obtain ⟨j, hj, h1, h2⟩ := hex
  exact ctI_lt h1 h2 hj (fun i _ => h i)
/-- one bit -/
def b1 (l : Nat) : Int32 := (1 : Int32) <<< (nI l &&& 31)
theorem b1_bt {l : Nat} (hl : l < 32) (i : Nat) : bt (b1 l) i = decide (i = l) := sh1 l hl i
theorem b1_sub {l : Nat} {x : Int32} (hl : l < 32) (h : bt x l = true) : bsub (b1 l) x := fun i q => by
  rw [b1_bt hl] at q
  rw [of_decide_eq_true q]; exact h
theorem b1_at {l : Nat} (hl : l < 32) : bt (b1 l) l = true := by rw [b1_bt hl]; exact decide_eq_true rfl
/-- is a letter empty; are all of a rule's letters from one on; with what they begin -/
def zem (em : Int32) (l : Nat) : Bool := decide (8 ≤ l) && bt em (l - 8)
def zae (G : ZGT) (em : Int32) (r : Nat) : Nat → Nat → Bool
  | 0, _ => true
  | d + 1, i => zem em (zgt G r i) && zae G em r d (i + 1)
def zfl (fs : Nat → Int32) (l : Nat) : Int32 := if l < 8 then b1 l else fs (l - 8)
def zff (G : ZGT) (em : Int32) (fs : Nat → Int32) (r : Nat) : Nat → Nat → Int32
  | 0, _ => 0
  | d + 1, i => zfl fs (zgt G r i) ||| (if zem em (zgt G r i) = true then zff G em fs r d (i + 1) else 0)
/-- the same from a letter on -/
def zAE (G : ZGT) (em : Int32) (r i : Nat) : Bool := zae G em r (zgn G r - i) i
def zFF (G : ZGT) (em : Int32) (fs : Nat → Int32) (r i : Nat) : Int32 := zff G em fs r (zgn G r - i) i
/-- what can stand behind, by what can stand behind all -/
def zLB (G : ZGT) (em : Int32) (fs : Nat → Int32) (r i : Nat) (x : Int32) : Int32 := zFF G em fs r i ||| (if zAE G em r i = true then x else 0)
def zsl (S : Nat → Nat) (l : Nat) : Nat := if l < 8 then 1 else S (l - 8)
def zsu (G : ZGT) (S : Nat → Nat) (r : Nat) : Nat → Nat → Nat
  | 0, _ => 0
  | d + 1, i => zsl S (zgt G r i) + zsu G S r d (i + 1)
def zSM (G : ZGT) (S : Nat → Nat) (r : Nat) : Nat := min 1000000 (zsu G S r (zgn G r) 0)
theorem zem_up {e e' : Int32} {l : Nat} (h : bsub e e') (q : zem e l = true) : zem e' l = true := by
  unfold zem at q ⊢
  rw [Bool.and_eq_true] at q ⊢
  exact ⟨q.1, h _ q.2⟩
theorem zae_up {G : ZGT} {e e' : Int32} {r : Nat} (h : bsub e e') : ∀ {d i : Nat}, zae G e r d i = true → zae G e' r d i = true
  | 0, _, _ => rfl
  | d + 1, i, q => by
    unfold zae at q ⊢
    rw [Bool.and_eq_true] at q ⊢
    exact ⟨zem_up h q.1, zae_up h q.2⟩
theorem zfl_up {f f' : Nat → Int32} {l : Nat} (hl : l < 14) (h : ∀ n, n < 6 → bsub (f n) (f' n)) : bsub (zfl f l) (zfl f' l) := by
  unfold zfl
  by_cases z : l < 8
  · rw [if_pos z, if_pos z]; exact bsub_rf
  · rw [if_neg z, if_neg z]; exact h _ (by omega)
theorem zff_up {G : ZGT} {e e' : Int32} {f f' : Nat → Int32} {r : Nat} (he : bsub e e') (hf : ∀ n, n < 6 → bsub (f n) (f' n)) : ∀ {d i : Nat}, (∀ k, i ≤ k → k < i + d → zgt G r k < 14) → bsub (zff G e f r d i) (zff G e' f' r d i)
  | 0, _, _ => bsub_rf
  | d + 1, i, hl => by
    unfold zff
    refine bsub_or (bsub_tr (zfl_up (hl i (by omega) (by omega)) hf) bsub_l) ?_
    by_cases z : zem e (zgt G r i) = true
    · rw [if_pos z, if_pos (zem_up he z)]
      exact bsub_tr (zff_up he hf (fun k h1 h2 => hl k (by omega) (by omega))) bsub_r
    · rw [if_neg z]; exact bsub_0
theorem zsu_up {G : ZGT} {S S' : Nat → Nat} {r : Nat} (h : ∀ n, n < 6 → S' n ≤ S n) : ∀ {d i : Nat}, (∀ k, i ≤ k → k < i + d → zgt G r k < 14) → zsu G S' r d i ≤ zsu G S r d i
  | 0, _, _ => Nat.le_refl _
  | d + 1, i, hl => by
    unfold zsu
    have h1 := zsu_up (d := d) (i := i + 1) h (fun k h1 h2 => hl k (by omega) (by omega))
    have h2 : zsl S' (zgt G r i) ≤ zsl S (zgt G r i) := by
      unfold zsl
      by_cases z : zgt G r i < 8
      · rw [if_pos z, if_pos z]; exact Nat.le_refl _
      · rw [if_neg z, if_neg z]
        have := hl i (by omega) (by omega)
        exact h _ (by omega)
    omega
/-- closed ones, the least closed ones -/
def zcE (G : ZGT) (E : Int32) : Prop := ∀ r, r < zgR G → zgi G r = true → zAE G E r 0 = true → bt E (zgl G r) = true
def zcF (G : ZGT) (E : Int32) (F : Nat → Int32) : Prop := ∀ r, r < zgR G → zgi G r = true → bsub (zFF G E F r 0) (F (zgl G r))
def zcW (G : ZGT) (E : Int32) (F W : Nat → Int32) : Prop := bsub (b1 (zgT G)) (W 0) ∧ ∀ r, r < zgR G → zgi G r = true → ∀ i, i < zgn G r → 8 ≤ zgt G r i → bsub (zLB G E F r (i + 1) (W (zgl G r))) (W (zgt G r i - 8))
def zcS (G : ZGT) (S : Nat → Nat) : Prop := ∀ r, r < zgR G → zgi G r = true → S (zgl G r) ≤ zSM G S r
def zlE (G : ZGT) (E : Int32) : Prop := zcE G E ∧ ∀ E', zcE G E' → bsub E E'
def zlF (G : ZGT) (E : Int32) (F : Nat → Int32) : Prop := zcF G E F ∧ ∀ F', zcF G E F' → ∀ n, n < 6 → bsub (F n) (F' n)
def zlW (G : ZGT) (E : Int32) (F W : Nat → Int32) : Prop := zcW G E F W ∧ ∀ W', zcW G E F W' → ∀ n, n < 6 → bsub (W n) (W' n)
def zlS (G : ZGT) (S : Nat → Nat) : Prop := (zcS G S ∧ ∀ n, n < 6 → S n ≤ 1000000) ∧ ∀ S', zcS G S' → (∀ n, n < 6 → S' n ≤ 1000000) → ∀ n, n < 6 → S' n ≤ S n
theorem zlE_un {G : ZGT} {E E' : Int32} (h : zlE G E) (h' : zlE G E') : E = E' := bsub_an (h.2 _ h'.1) (h'.2 _ h.1)
theorem zlF_un {G : ZGT} {E : Int32} {F F' : Nat → Int32} (h : zlF G E F) (h' : zlF G E F') {n : Nat} (hn : n < 6) : F n = F' n := bsub_an (h.2 _ h'.1 n hn) (h'.2 _ h.1 n hn)
theorem zlW_un {G : ZGT} {E : Int32} {F W W' : Nat → Int32} (h : zlW G E F W) (h' : zlW G E F W') {n : Nat} (hn : n < 6) : W n = W' n := bsub_an (h.2 _ h'.1 n hn) (h'.2 _ h.1 n hn)
theorem zlS_un {G : ZGT} {S S' : Nat → Nat} (h : zlS G S) (h' : zlS G S') {n : Nat} (hn : n < 6) : S n = S' n := Nat.le_antisymm (h'.2 _ h.1.1 h.1.2 n hn) (h.2 _ h'.1.1 h'.1.2 n hn)
/-- the sets of names below 6 alone count -/
theorem zff_cg {G : ZGT} {e : Int32} {f f' : Nat → Int32} {r : Nat} (hf : ∀ n, n < 6 → f n = f' n) {d i : Nat} (hl : ∀ k, i ≤ k → k < i + d → zgt G r k < 14) : zff G e f r d i = zff G e f' r d i :=
  bsub_an (zff_up bsub_rf (fun n hn => by rw [hf n hn]; exact bsub_rf) hl) (zff_up bsub_rf (fun n hn => by rw [hf n hn]; exact bsub_rf) hl)
theorem GW.tl {G : ZGT} (h : GW G) {r i : Nat} (hr : r ≤ zgR G) : ∀ k, i ≤ k → k < i + (zgn G r - i) → zgt G r k < 14 := fun k h1 h2 => (h.t hr (by omega)).1
theorem zFF_cg {G : ZGT} (hG : GW G) {e : Int32} {f f' : Nat → Int32} {r i : Nat} (hr : r ≤ zgR G) (hf : ∀ n, n < 6 → f n = f' n) : zFF G e f r i = zFF G e f' r i := zff_cg hf (hG.tl hr)
theorem zFF_up {G : ZGT} (hG : GW G) {e e' : Int32} {f f' : Nat → Int32} {r i : Nat} (hr : r ≤ zgR G) (he : bsub e e') (hf : ∀ n, n < 6 → bsub (f n) (f' n)) : bsub (zFF G e f r i) (zFF G e' f' r i) := zff_up he hf (hG.tl hr)
theorem zLB_up {G : ZGT} {e : Int32} {f : Nat → Int32} {r i : Nat} {x y : Int32} (h : bsub x y) : bsub (zLB G e f r i x) (zLB G e f r i y) := by
  unfold zLB
  refine bsub_or bsub_l ?_
  by_cases z : zAE G e r i = true
  · rw [if_pos z, if_pos z]; exact bsub_tr h bsub_r
  · rw [if_neg z]; exact bsub_0
/-- all bits of looks -/
theorem b511 (i : Nat) : bt 511 i = decide (i < 9) := by
  rcases Nat.lt_or_ge i 32 with h | h
  · exact (by decide +kernel : ∀ i, i < 32 → bt 511 i = decide (i < 9)) i h
  · rw [b_big h, decide_eq_false (by omega)]
theorem b1_511 {l : Nat} (h : l < 9) : bsub (b1 l) 511 := b1_sub (by omega) (by rw [b511]; exact decide_eq_true h)
theorem zff_511 {G : ZGT} {e : Int32} {f : Nat → Int32} {r : Nat} (hf : ∀ n, n < 6 → bsub (f n) 511) : ∀ {d i : Nat}, (∀ k, i ≤ k → k < i + d → zgt G r k < 14) → bsub (zff G e f r d i) 511
  | 0, _, _ => bsub_0
  | d + 1, i, hl => by
    unfold zff
    refine bsub_or ?_ ?_
    · unfold zfl
      by_cases z : zgt G r i < 8
      · rw [if_pos z]; exact b1_511 (by omega)
      · rw [if_neg z]
        have := hl i (by omega) (by omega)
        exact hf _ (by omega)
    · by_cases z : zem e (zgt G r i) = true
      · rw [if_pos z]; exact zff_511 hf (fun k h1 h2 => hl k (by omega) (by omega))
      · rw [if_neg z]; exact bsub_0
theorem zFF_511 {G : ZGT} (hG : GW G) {e : Int32} {f : Nat → Int32} {r i : Nat} (hr : r ≤ zgR G) (hf : ∀ n, n < 6 → bsub (f n) 511) : bsub (zFF G e f r i) 511 := zff_511 hf (hG.tl hr)
theorem zcF_511 {G : ZGT} (hG : GW G) (E : Int32) : zcF G E (fun _ => 511) := fun r hr _ => zFF_511 hG (by omega) (fun _ _ => bsub_rf)
theorem zcW_511 {G : ZGT} (hG : GW G) {E : Int32} {F : Nat → Int32} (hF : ∀ n, n < 6 → bsub (F n) 511) : zcW G E F (fun _ => 511) := by
  refine ⟨b1_511 (by have := hG.1; omega), fun r hr _ i hi _ => ?_⟩
  unfold zLB
  refine bsub_or (zFF_511 hG (by omega) hF) ?_
  by_cases z : zAE G E r (i + 1) = true
  · rw [if_pos z]; exact bsub_rf
  · rw [if_neg z]; exact bsub_0
/-- how much is in six sets -/
def ct6 (F : Nat → Int32) : Nat := ctI (F 0) 32 + ctI (F 1) 32 + ctI (F 2) 32 + ctI (F 3) 32 + ctI (F 4) 32 + ctI (F 5) 32
theorem ct6_le (F : Nat → Int32) : ct6 F ≤ 192 := by
  have h0 := ctI_le (F 0) 32
  have h1 := ctI_le (F 1) 32
  have h2 := ctI_le (F 2) 32
  have h3 := ctI_le (F 3) 32
  have h4 := ctI_le (F 4) 32
  have h5 := ctI_le (F 5) 32
  unfold ct6
  omega
theorem ct6_up {F F' : Nat → Int32} (h : ∀ n, n < 6 → bsub (F n) (F' n)) : ct6 F ≤ ct6 F' := by
  have h0 := ctI_up (h 0 (by omega))
  have h1 := ctI_up (h 1 (by omega))
  have h2 := ctI_up (h 2 (by omega))
  have h3 := ctI_up (h 3 (by omega))
  have h4 := ctI_up (h 4 (by omega))
  have h5 := ctI_up (h 5 (by omega))
  unfold ct6
  omega
theorem ct6_lt {F F' : Nat → Int32} (h : ∀ n, n < 6 → bsub (F n) (F' n)) {k : Nat} (hk : k < 6) (hn : F k ≠ F' k) : ct6 F < ct6 F' := by
  have h0 := ctI_up (h 0 (by omega))
  have h1 := ctI_up (h 1 (by omega))
  have h2 := ctI_up (h 2 (by omega))
  have h3 := ctI_up (h 3 (by omega))
  have h4 := ctI_up (h 4 (by omega))
  have h5 := ctI_up (h 5 (by omega))
  have hx := ctI_ne (h k hk) hn
  unfold ct6
  have : k = 0 ∨ k = 1 ∨ k = 2 ∨ k = 3 ∨ k = 4 ∨ k = 5 := by omega
  rcases this with z | z | z | z | z | z <;> subst z <;> omega
