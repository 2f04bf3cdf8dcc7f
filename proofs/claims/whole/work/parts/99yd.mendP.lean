/-! What mends: as a value. -/
/-- the first one -/
def zft (q : Nat → Bool) : Nat → Nat → Option Nat
  | 0, _ => none
  | n + 1, a => if q a = true then some a else zft q n (a + 1)
theorem zft_skip {q : Nat → Bool} (n : Nat) : ∀ k a, (∀ j, j < k → q (a + j) = false) → zft q (k + n) a = zft q n (a + k)
  | 0, a, _ => by rw [Nat.zero_add]; rfl
  | k + 1, a, h => by
    rw [show k + 1 + n = (k + n) + 1 by omega, zft, if_neg (by rw [show q a = false from h 0 (by omega)]; decide), zft_skip n k (a + 1) (fun j hj => by rw [show a + 1 + j = a + (j + 1) by omega]; exact h (j + 1) (by omega)), show a + 1 + k = a + (k + 1) by omega]
theorem zft_none {q : Nat → Bool} (n a : Nat) (h : ∀ j, j < n → q (a + j) = false) : zft q n a = none := by
  have := zft_skip 0 n a h
  rw [Nat.add_zero] at this
  rw [this]; rfl
theorem zft_lt {q : Nat → Bool} : ∀ n a c, zft q n a = some c → c < a + n
  | 0, a, c, h => by cases h
  | n + 1, a, c, h => by
    rw [zft] at h
    by_cases y : q a = true
    · rw [if_pos y] at h; have := Option.some.inj h; omega
    · rw [if_neg y] at h; have := zft_lt n (a + 1) c h; omega
/-- so many are left out at a place, and one put in -/
def zci (inp : Nat → Nat) (pl out : Nat) (e : Option Nat) (i : Nat) : Nat := if i < pl then inp i else match e with
  | none => inp (i + out)
  | some s => if i = pl then s else inp (i - 1 + out)
def zcl1 (len out : Nat) (e : Option Nat) : Nat := match e with
  | none => len - out
  | some _ => len - out + 1
def zmo (c : Nat) : Nat := if c < 20 then 1 else 0
def zms (c : Nat) : Option Nat := if c = 0 then none else if c < 20 then some (c - 1) else some (c - 20)
/-- whether that change may be tried -/
def zmv (T len : Nat) (inp : Nat → Nat) (pl c : Nat) : Bool := if c < 20 then decide (pl < len) && (decide (c = 0) || (decide (c ≤ T) && !decide (inp pl = c - 1))) else decide (len < 24) && decide (c - 20 < T)
section ZMend
variable {G : ZGT} {N : ZNM} {p : Int32} {len len' md : Nat} {inp inp' : Nat → Nat} {X : ZRS}
noncomputable def zdm (G : ZGT) (N : ZNM) (p : Int32) (len : Nat) (inp : Nat → Nat) (pl c : Nat) : Bool := zmv (zgT G) len inp pl c && decide ((zcan G N p 0 (zcl1 len (zmo c) (zms c)) (zci inp pl (zmo c) (zms c))).1 = 1)
noncomputable def zmd (G : ZGT) (N : ZNM) (p : Int32) (len : Nat) (inp : Nat → Nat) : Nat → Nat → Int32
  | 0, _ => -1
  | n + 1, a => match zft (zdm G N p len inp a) (20 + zgT G) 0 with
    | some c => nI (100 * a + c)
    | none => zmd G N p len inp n (a + 1)
theorem zr1_rd (Z : Nat × ZRS) : Z.2.1 2 ≤ (zr1 Z).2.1 2 ∧ (zr1 Z).2.1 2 ≤ Z.2.1 2 + 1 ∧ (Z.1 ≠ 4 → (zr1 Z).2.1 2 = Z.2.1 2) := by
  unfold zr1
  split
  · rename_i y
    exact ⟨Nat.le_succ _, Nat.le_refl _, fun z => absurd y z⟩
  · exact ⟨Nat.le_refl _, Nat.le_succ _, fun _ => rfl⟩
theorem zrt_mono : ∀ n R, R.2.1.1 2 ≤ (zrt G N p md len inp n R).2.1.1 2
  | 0, R => Nat.le_refl _
  | n + 1, R => by
    rw [zrt]
    split
    · exact Nat.le_refl _
    · have h1 := zrt_mono n (zrt1 G N p md len inp R)
      have h2 : R.2.1.1 2 ≤ (zrt1 G N p md len inp R).2.1.1 2 := by
        show R.2.1.1 2 ≤ (zr1 _).2.1 2
        have h3 := (zr1_rd (zao G N p md (znx G len inp R.2.1) R.2.1)).1
        rw [zao_rd.1] at h3
        exact h3
      omega
/-- alike up to where it stops: it goes alike -/
theorem zrt_inp : ∀ n R, (∀ i, i ≤ (zrt G N p md len inp n R).2.1.1 2 → i < len ∧ i < len' ∧ inp i = inp' i) → zrt G N p md len' inp' n R = zrt G N p md len inp n R
  | 0, R, _ => rfl
  | n + 1, R, h => by
    by_cases y : R.1 < 3
    · rw [zrt, zrt, if_pos y, if_pos y]
    · have hm := zrt_mono (G := G) (N := N) (p := p) (md := md) (len := len) (inp := inp) (n + 1) R
      obtain ⟨h1, h2, h3⟩ := h _ hm
      rw [zrt, if_neg y] at h
      rw [zrt, zrt, if_neg y, if_neg y]
      have e : znx G len' inp' R.2.1 = znx G len inp R.2.1 := by unfold znx; rw [if_pos h1, if_pos h2, h3]
      have e1 : zrt1 G N p md len' inp' R = zrt1 G N p md len inp R := by unfold zrt1; rw [e]
      rw [e1]
      exact zrt_inp n _ h
/-- the end is not shifted -/
theorem zao_T (hG : GW G) : (zao G N p 0 (zgT G) X).1 ≠ 4 := by
  have hR := hG.1.2.1
  obtain ⟨a, ha⟩ : ∃ a, a = ztl G (zcl G (zE0 G) (zF0 G) (N.2.1 (zrw X (X.1 0 - 1)))) (N.2.2 (zrw X (X.1 0 - 1))) p (zgT G) (decide (0 = 1)) := ⟨_, rfl⟩
  have ho : a = -1 ∨ a = 999 ∨ ∃ r, r < zgR G ∧ a = nI r := by
    have h0 : ztl G (zcl G (zE0 G) (zF0 G) (N.2.1 (zrw X (X.1 0 - 1)))) (N.2.2 (zrw X (X.1 0 - 1))) p (zgT G) (decide (0 = 1)) = zac G (zcl G (zE0 G) (zF0 G) (N.2.1 (zrw X (X.1 0 - 1)))) (N.2.2 (zrw X (X.1 0 - 1))) p (zgT G) := by
      unfold ztl
      rw [show (decide (0 = 1)) = false from rfl, Bool.not_false, Bool.or_true, if_pos rfl, if_pos (Nat.le_refl _)]
    rw [ha, h0]
    unfold zac
    split
    · exact Or.inr (Or.inl rfl)
    · split
      · cases hl : zlo G (zcl G (zE0 G) (zF0 G) (N.2.1 (zrw X (X.1 0 - 1)))) (zgT G) with
        | none => exact Or.inl rfl
        | some k => exact Or.inr (Or.inr ⟨k, (zfst_s hl).1, rfl⟩)
      · rw [show zsh G (N.2.2 (zrw X (X.1 0 - 1))) (zgT G) = none by unfold zsh; rw [if_neg (Nat.lt_irrefl _)]]
        exact Or.inl rfl
  unfold zao
  dsimp only
  rw [← ha]
  by_cases y : a = -1
  · rw [if_pos y]; exact fun q => absurd (show (0 : Nat) = 4 from q) (by decide)
  rw [if_neg y]
  by_cases z : X.1 1 = 300
  · rw [if_pos z]; exact fun q => absurd (show (2 : Nat) = 4 from q) (by decide)
  rw [if_neg z]
  by_cases w : a = 999
  · rw [if_pos w]; exact fun q => absurd (show (1 : Nat) = 4 from q) (by decide)
  rw [if_neg w]
  rcases ho with q | q | ⟨r, r1, r2⟩
  · exact absurd q y
  · exact absurd q w
  · rw [r2, zix_i (by omega) r1]
    unfold zre
    dsimp only
    split
    · exact fun q => absurd (show (2 : Nat) = 4 from q) (by decide)
    · split
      · exact fun q => absurd (show (2 : Nat) = 4 from q) (by decide)
      · exact fun q => absurd (show (3 : Nat) = 4 from q) (by decide)
theorem zrt_rdl (hG : GW G) : ∀ n R, R.2.1.1 2 ≤ len → (zrt G N p 0 len inp n R).2.1.1 2 ≤ len
  | 0, R, h => h
  | n + 1, R, h => by
    rw [zrt]
    split
    · exact h
    · refine zrt_rdl hG n _ ?_
      show (zr1 _).2.1 2 ≤ len
      obtain ⟨h1, h2, h3⟩ := zr1_rd (zao G N p 0 (znx G len inp R.2.1) R.2.1)
      rw [zao_rd.1] at h2 h3
      by_cases y : R.2.1.1 2 < len
      · omega
      · rw [h3 (by rw [show znx G len inp R.2.1 = zgT G by unfold znx; rw [if_neg y]]; exact zao_T hG)]
        exact h
theorem zcan_rd (hG : GW G) : (zcan G N p 0 len inp).2.1.1 2 ≤ len := by
  unfold zcan rrt
  exact zrt_rdl hG 301 _ (Nat.zero_le _)
/-- no change behind where it stopped mends -/
theorem zdm_no (h1 : (zcan G N p 0 len inp).1 ≠ 1) {pl c : Nat} (hp : (zcan G N p 0 len inp).2.1.1 2 < pl) (hl : pl ≤ len) : zdm G N p len inp pl c = false := by
  cases hv : zmv (zgT G) len inp pl c with
  | false => unfold zdm; rw [hv]; rfl
  | true =>
    have e : zcan G N p 0 (zcl1 len (zmo c) (zms c)) (zci inp pl (zmo c) (zms c)) = zcan G N p 0 len inp := by
      have hx := zrt_inp (G := G) (N := N) (p := p) (md := 0) (len := len) (len' := zcl1 len (zmo c) (zms c)) (inp := inp) (inp' := zci inp pl (zmo c) (zms c)) 301 (3, rr0 zt0, (rr0 zt0).1 0, (rr0 zt0).2 0)
      unfold zcan rrt
      refine hx (fun i hi => ?_)
      clear hx
      have hi : i ≤ (zcan G N p 0 len inp).2.1.1 2 := by unfold zcan rrt; exact hi
      refine ⟨by omega, ?_, ?_⟩
      · unfold zmv at hv
        unfold zcl1 zmo zms
        by_cases y : c < 20
        · rw [if_pos y, Bool.and_eq_true, decide_eq_true_eq] at hv
          have := hv.1
          rw [if_pos y, if_pos y]
          by_cases z : c = 0
          · rw [if_pos z]; show i < len - 1; omega
          · rw [if_neg z]; show i < len - 1 + 1; omega
        · rw [if_neg y, if_neg y, if_neg (by omega)]; show i < len - 0 + 1; omega
      · unfold zci; rw [if_pos (by omega)]
    unfold zdm
    rw [e, hv, decide_eq_false h1]; rfl
theorem zmd_none : ∀ n a, (∀ j, j < n → ∀ c, zdm G N p len inp (a + j) c = false) → zmd G N p len inp n a = -1
  | 0, a, _ => rfl
  | n + 1, a, h => by
    rw [zmd, zft_none (q := zdm G N p len inp a) _ _ (fun j _ => h 0 (by omega) _)]
    exact zmd_none n (a + 1) (fun j hj c => by rw [show a + 1 + j = a + (j + 1) by omega]; exact h (j + 1) (by omega) c)
theorem zmd_add : ∀ k n a, (∀ j, j < n → ∀ c, zdm G N p len inp (a + k + j) c = false) → zmd G N p len inp (k + n) a = zmd G N p len inp k a
  | 0, n, a, h => by rw [Nat.zero_add]; exact zmd_none n a h
  | k + 1, n, a, h => by
    rw [show k + 1 + n = (k + n) + 1 by omega, zmd, zmd, zmd_add k n (a + 1) (fun j hj c => by rw [show a + 1 + k + j = a + (k + 1) + j by omega]; exact h j hj c)]
/-- the class tries no place behind the one it failed at -/
theorem zmd_eq (hG : GW G) (h1 : (zcan G N p 0 len inp).1 ≠ 1) : zmd G N p len inp (len + 1) 0 = zmd G N p len inp ((zcan G N p 0 len inp).2.1.1 2 + 1) 0 := by
  have hr := zcan_rd (N := N) (p := p) (len := len) (inp := inp) hG
  rw [show len + 1 = ((zcan G N p 0 len inp).2.1.1 2 + 1) + (len - (zcan G N p 0 len inp).2.1.1 2) by omega]
  exact zmd_add _ _ 0 (fun j hj c => zdm_no h1 (by omega) (by omega))
noncomputable def zvM (G : ZGT) (o : Option ZAS) (p : Int32) (m : Nat) (ln : Nat → Nat) (yy : Nat → Nat → Nat) (sl : Nat → Nat) (x1 : Int32) : Int32 := match o with
  | none => -1
  | some A => match zrqs m x1 0 with
    | none => -1
    | some (k, md) => if (zcs G A p ln yy sl k md).1 = 1 then -1000000 else zmd G (zN A) p (ln k) (fun i => zsno sl (zgT G) (yy k i)) (ln k + 1) 0
end ZMend
