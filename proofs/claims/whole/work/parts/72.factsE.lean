/-! Facts: findReached, findLeft, findUseful, find. -/
/-- a name's bit at a letter; those of some letters; those of a rule's beginning, or of all of it -/
def znb (G : ZGT) (r i : Nat) : Int32 := if 8 ≤ zgt G r i then b1 (zgt G r i - 8) else 0
def zrq (G : ZGT) (r : Nat) : Nat → Nat → Int32
  | 0, _ => 0
  | d + 1, i => znb G r i ||| zrq G r d (i + 1)
def zrl (G : ZGT) (b : Bool) (em : Int32) (r : Nat) : Nat → Nat → Int32
  | 0, _ => 0
  | d + 1, i => znb G r i ||| (if b = false ∨ zem em (zgt G r i) = true then zrl G b em r d (i + 1) else 0)
theorem or_as (x y z : Int32) : x ||| y ||| z = x ||| (y ||| z) := b_ext fun i _ => by rw [b_or, b_or, b_or, b_or, Bool.or_assoc]
theorem or_cm (x y : Int32) : x ||| y = y ||| x := b_ext fun i _ => by rw [b_or, b_or, Bool.or_comm]
theorem or_0 (x : Int32) : x ||| 0 = x := bsub_eq bsub_0
theorem zrq_sn (G : ZGT) (r : Nat) : ∀ d i, zrq G r (d + 1) i = zrq G r d i ||| znb G r (i + d)
  | 0, i => by
    show znb G r i ||| 0 = 0 ||| znb G r (i + 0)
    rw [or_cm]; rfl
  | d + 1, i => by rw [zrq, zrq_sn G r d (i + 1), zrq, or_as, show i + 1 + d = i + (d + 1) by omega]
theorem zrl_f (G : ZGT) (em : Int32) (r : Nat) : ∀ d i, zrl G false em r d i = zrq G r d i
  | 0, _ => rfl
  | d + 1, i => by rw [zrl, if_pos (Or.inl rfl), zrl_f G em r d (i + 1), zrq]
theorem zrl_t (G : ZGT) (em : Int32) (r : Nat) : ∀ d i, zrl G true em r d i = zrq G r (min (zea G em r d i - i + 1) d) i
  | 0, i => by rw [Nat.min_zero]; rfl
  | d + 1, i => by
    rw [zrl, zea]
    by_cases z : zem em (zgt G r i) = true
    · have h := zea_le G em r d (i + 1)
      rw [if_pos (Or.inr z), if_pos z, zrl_t G em r d (i + 1), show min (zea G em r d (i + 1) - i + 1) (d + 1) = min (zea G em r d (i + 1) - (i + 1) + 1) d + 1 by omega, zrq]
    · rw [if_neg (fun y => by rcases y with y | y; cases y; exact z y), if_neg z, show min (i - i + 1) (d + 1) = 0 + 1 by omega, zrq]
      rfl
def zr0 (G : ZGT) (b : Bool) (em : Int32) : Nat → Nat → Int32
  | 0 => fun _ => 0
  | r + 1 => if zgi G r = true then upd (zr0 G b em r) (zgl G r) (zr0 G b em r (zgl G r) ||| zrl G b em r (zgn G r) 0) else zr0 G b em r
def zfs (F : Nat → Int32) (k : Nat) : Nat → Int32 := upd F (k % 6) (F (k % 6) ||| (if bt (F (k % 6)) (k / 6) = true then F (k / 6) else 0))
def zfw (F : Nat → Int32) : Nat → Nat → Int32
  | 0 => F
  | k + 1 => zfs (zfw F k) k
def zRC (G : ZGT) (b : Bool) (em : Int32) : Nat → Int32 := zfw (zr0 G b em (zgR G)) 36
def zLN (G : ZGT) (em : Int32) : Nat → Int32
  | 0 => 0
  | k + 1 => zLN G em k ||| (if bt (zRC G true em k) k = true then b1 k else 0)
theorem and_b1 (x : Int32) {k : Nat} (hk : k < 32) : x &&& b1 k = if bt x k = true then b1 k else 0 := by
  apply b_ext
  intro i _
  rw [b_and, b1_bt hk]
  by_cases z : i = k
  · subst z
    rw [decide_eq_true rfl, Bool.and_true]
    cases hx : bt x i with
    | true => rw [if_pos rfl, b1_at hk]
    | false => rw [if_neg (by decide), b_0]
  · rw [decide_eq_false z, Bool.and_false]
    by_cases y : bt x k = true
    · rw [if_pos y, b1_bt hk, decide_eq_false z]
    · rw [if_neg y, b_0]
set_option maxHeartbeats 1000000 in
theorem y_findReached {P : YP} {G : ZGT} {s : SX} (h : ZGX G s) (b : Bool) : EvQ (ZY P) mX4_findReached [.ref 14, .int (bI b)] s (fun x v => x = none ∧ (∀ n, n < 6 → v.2.1 19 n = zRC G b (s.1 14 1) n) ∧ frX [] [19] s v) := by
  have hb := h.b
  obtain ⟨E, hE⟩ : ∃ E, E = s.1 14 1 := ⟨_, rfl⟩
  rw [← hE]
  refine EQ_V vX4_findReached rfl ?_
  refine RQ_n (ZY_ok P) 3 rfl trivial ?_
  refine RQ_s vJ7_fill_53178 (y_fill s 19 6 0 (by omega) (by omega) (fun _ _ => rfl)) rfl k4_93 rfl rfl rfl rfl ?_
  obtain ⟨s1, hs1⟩ : ∃ w : SX, w = (s.1, setA s.2.1 19 (fil (s.2.1 19) 0 6 0), s.2.2) := ⟨_, rfl⟩
  rw [← hs1]
  have hf1 : frX [] [19] s s1 := by rw [hs1]; exact frX.s 19 (by decide)
  have h19 : ∀ n, n < 6 → s1.2.1 19 n = 0 := fun n hn => by
    rw [hs1]
    show fil (s.2.1 19) 0 6 0 n = 0
    exact fil_in (by omega) hn
  refine RQ_n (ZY_ok P) 2 rfl trivial ?_
  -- the second loop
  have second : ∀ v : SX, frX [] [19] s v → (∀ n, n < 6 → v.2.1 19 n = zr0 G b E (zgR G) n) → RnQ (ZY P) mX4_findReached (112, [some (.ref 14), some (.int (bI b)), none, none, none, none], [], v) (fun x v => x = none ∧ (∀ n, n < 6 → v.2.1 19 n = zRC G b E n) ∧ frX [] [19] s v) := by
    intro v hf hv
    refine RQ_n (ZY_ok P) 2 rfl trivial ?_
    refine loopU 6 (fun o (_ : Unit) => [some (.ref 14), some (.int (bI b)), some (.int (nI o)), none, none, none]) (fun o _ v => frX [] [19] s v ∧ ∀ n, n < 6 → v.2.1 19 n = zfw (zr0 G b E (zgR G)) (6 * o) n) ?_ 0 () v (by omega) ⟨hf, hv⟩
    intro o _ v ho hJ ih
    obtain ⟨g1, g2⟩ := hJ
    refine RQ_n (ZY_ok P) 2 rfl trivial ?_
    refine RQ_b rfl (fun q => ?_) (fun q => ?_)
    · have q := (zq_le (a := 6) (b := o) rfl rfl (by omega) (by omega)).mp q
      have : o = 6 := by omega
      subst this
      exact RQ_to (Rn_vret rfl rfl) ⟨rfl, g2, g1⟩
    have q := (not_congr (zq_le (a := 6) (b := o) rfl rfl (by omega) (by omega))).mp q
    refine RQ_n (ZY_ok P) 2 rfl trivial ?_
    refine loopU 6 (fun n (_ : Unit) => [some (.ref 14), some (.int (bI b)), some (.int (nI o)), some (.int (nI n)), none, none]) (fun n _ v => frX [] [19] s v ∧ ∀ k, k < 6 → v.2.1 19 k = zfw (zr0 G b E (zgR G)) (6 * o + n) k) ?_ 0 () v (by omega) ⟨g1, g2⟩
    intro n _ w hn hJ2 ih2
    obtain ⟨c1, c2⟩ := hJ2
    refine RQ_n (ZY_ok P) 2 rfl trivial ?_
    refine RQ_b rfl (fun q2 => ?_) (fun q2 => ?_)
    · have q2 := (zq_le (a := 6) (b := n) rfl rfl (by omega) (by omega)).mp q2
      have : n = 6 := by omega
      subst this
      refine RQ_n (ZY_ok P) 2 rfl trivial ?_
      exact ih (by omega) () _ _ ⟨rfl, rfl, nIs o, trivial⟩ ⟨c1, c2⟩
    have q2 := (not_congr (zq_le (a := 6) (b := n) rfl rfl (by omega) (by omega))).mp q2
    have hn6 : n < 6 := by omega
    have ho6 : o < 6 := by omega
    have hnc : (nI n).toNatClampNeg = n := nI_clamp (by omega)
    have hoc : (nI o).toNatClampNeg = o := nI_clamp (by omega)
    have em : (6 * o + n) % 6 = n := by omega
    have ed : (6 * o + n) / 6 = o := by omega
    have es : zfw (zr0 G b E (zgR G)) (6 * o + n + 1) = upd (zfw (zr0 G b E (zgR G)) (6 * o + n)) n (w.2.1 19 n ||| (if bt (w.2.1 19 n) o = true then w.2.1 19 o else 0)) := by
      rw [zfw, zfs, em, ed, c2 n hn6, c2 o ho6]
    have e2 : w.2.1 19 (nI n).toNatClampNeg >>> (nI o &&& 31) &&& 1 = if bt (w.2.1 19 n) o = true then 1 else 0 := by rw [hnc, sh_bit _ (by omega)]
    refine RQ_n (ZY_ok P) 8 rfl ⟨nI_in (by omega) (by omega), trivial⟩ ?_
    refine RQ_b rfl (fun q3 => ?_) (fun q3 => ?_)
    · have q3 : w.2.1 19 (nI n).toNatClampNeg >>> (nI o &&& 31) &&& 1 = 0 := q3
      rw [e2] at q3
      refine RQ_n (ZY_ok P) 2 rfl trivial ?_
      refine ih2 hn6 () _ _ ⟨rfl, rfl, rfl, nIs n, trivial⟩ ⟨c1, fun k hk => ?_⟩
      rw [show 6 * o + (n + 1) = 6 * o + n + 1 by omega, es, if_neg (fun z => by rw [if_pos z] at q3; exact absurd q3 (by decide)), or_0]
      by_cases y : k = n
      · subst y; rw [upd_at]
      · rw [upd_ne y]; exact c2 k hk
    · have q3 : ¬ w.2.1 19 (nI n).toNatClampNeg >>> (nI o &&& 31) &&& 1 = 0 := q3
      rw [e2] at q3
      refine RQ_n (ZY_ok P) 13 rfl ⟨nI_in (by omega) (by omega), nI_in (by omega) (by omega), nI_in (by omega) (by omega), trivial⟩ ?_
      refine ih2 hn6 () _ _ ⟨rfl, rfl, rfl, nIs n, trivial⟩ ⟨c1.tr (frX.a 19 (by decide)), fun k hk => ?_⟩
      rw [show 6 * o + (n + 1) = 6 * o + n + 1 by omega, es, if_pos (Classical.byContradiction fun z => q3 (by rw [if_neg z]))]
      show upd (w.2.1 19) (nI n).toNatClampNeg (w.2.1 19 (nI n).toNatClampNeg ||| w.2.1 19 (nI o).toNatClampNeg) k = _
      rw [hnc, hoc]
      by_cases y : k = n
      · subst y; rw [upd_at, upd_at]
      · rw [upd_ne y, upd_ne y]; exact c2 k hk
  refine loopU (zgR G) (fun r (_ : Unit) => [some (.ref 14), some (.int (bI b)), some (.int (nI r)), none, none, none]) (fun r _ v => frX [] [19] s v ∧ ∀ n, n < 6 → v.2.1 19 n = zr0 G b E r n) ?_ 0 () s1 (by omega) ⟨hf1, h19⟩
  intro r _ v hr hJ ih
  obtain ⟨g1, g2⟩ := hJ
  have hv : ZGX G v := h.fr g1 (by decide)
  refine RQ_n (ZY_ok P) 4 rfl trivial ?_
  refine RQ_b rfl (fun q => ?_) (fun q => ?_)
  · have q := (zq_le hv.R rfl (by omega) (by omega)).mp q
    have : r = zgR G := by omega
    subst this
    exact RQ_le (l' := [some (.ref 14), some (.int (bI b)), none, none, none, none]) ⟨rfl, rfl, trivial⟩ (second v g1 g2)
  have q := (not_congr (zq_le hv.R rfl (by omega) (by omega))).mp q
  have hrR : r < zgR G := by omega
  have hl6 := h.1.l hrR
  have hn := h.1.n (r := r) (by omega)
  have hrc : (nI r).toNatClampNeg = r := nI_clamp (by omega)
  have e14 : v.1 14 1 = E := by rw [g1.1 14 1 (by decide), hE]
  have hze := zea_le G E r (zgn G r) 0
  -- with the number of letters
  have body : ∀ m, m ≤ 6 → zrq G r (min m (zgn G r)) 0 = zrl G b E r (zgn G r) 0 → RnQ (ZY P) mX4_findReached (37, [some (.ref 14), some (.int (bI b)), some (.int (nI r)), some (.int (nI m)), none, none], [], v) (fun x v => x = none ∧ (∀ n, n < 6 → v.2.1 19 n = zRC G b E n) ∧ frX [] [19] s v) := by
    intro m hm hzr
    refine RQ_n (ZY_ok P) 2 rfl trivial ?_
    refine loopU m (fun i (_ : Unit) => [some (.ref 14), some (.int (bI b)), some (.int (nI r)), some (.int (nI m)), some (.int (nI i)), none]) (fun i _ w => frX [] [19] s w ∧ (i = 0 ∨ zgi G r = true) ∧ ∀ n, n < 6 → w.2.1 19 n = upd (zr0 G b E r) (zgl G r) (zr0 G b E r (zgl G r) ||| zrq G r (min i (zgn G r)) 0) n) ?_ 0 () v (by omega) ⟨g1, Or.inl rfl, fun n hn => ?_⟩
    · intro i _ w hi hJ2 ih2
      obtain ⟨c1, c0, c2⟩ := hJ2
      have hw : ZGX G w := h.fr c1 (by decide)
      refine RQ_n (ZY_ok P) 3 rfl trivial ?_
      refine RQ_v vX5_isIn (y_isIn hw hrR) rfl k4_72 rfl rfl rfl (zy3 w rfl) rfl ?_
      refine RQ_b rfl (fun q2 => ?_) (fun q2 => ?_)
      · have q2 := bI_0.mp q2
        have hi0 : i = 0 := by
          rcases c0 with z | z
          · exact z
          · rw [q2] at z; cases z
        subst hi0
        refine RQ_n (ZY_ok P) 2 rfl trivial ?_
        refine ih hrR () _ _ ⟨rfl, rfl, nIs r, trivial⟩ ⟨c1, fun n hn => ?_⟩
        rw [zr0, if_neg (by rw [q2]; decide), c2 n hn, Nat.zero_min]
        by_cases y : n = zgl G r
        · subst y; rw [upd_at]; exact or_0 _
        · rw [upd_ne y]
      have q2 := bI_t q2
      refine RQ_n (ZY_ok P) 2 rfl trivial ?_
      refine RQ_b rfl (fun q3 => ?_) (fun q3 => ?_)
      · have q3 := (zq_le (a := m) (b := i) rfl rfl (by omega) (by omega)).mp q3
        have : i = m := by omega
        subst this
        refine RQ_n (ZY_ok P) 2 rfl trivial ?_
        refine ih hrR () _ _ ⟨rfl, rfl, nIs r, trivial⟩ ⟨c1, fun n hn => ?_⟩
        rw [zr0, if_pos q2, c2 n hn, hzr]
      have q3 := (not_congr (zq_le (a := m) (b := i) rfl rfl (by omega) (by omega))).mp q3
      refine RQ_n (ZY_ok P) 4 rfl trivial ?_
      refine RQ_v vX5_letterAt (y_letterAt hw (by omega) (by omega)) rfl k4_86 rfl rfl rfl (zy3 w rfl) rfl ?_
      -- a letter that is no name
      have skip : ∀ x : Int32, zrq G r (min (i + 1) (zgn G r)) 0 = zrq G r (min i (zgn G r)) 0 → RnQ (ZY P) mX4_findReached (100, [some (.ref 14), some (.int (bI b)), some (.int (nI r)), some (.int (nI m)), some (.int (nI i)), some (.int x)], [], w) (fun x v => x = none ∧ (∀ n, n < 6 → v.2.1 19 n = zRC G b E n) ∧ frX [] [19] s v) := by
        intro x hx
        refine RQ_n (ZY_ok P) 2 rfl trivial ?_
        refine ih2 (by omega) () _ _ ⟨rfl, rfl, rfl, rfl, nIs i, trivial⟩ ⟨c1, Or.inr q2, fun n hn => ?_⟩
        rw [hx]; exact c2 n hn
      refine RQ_n (ZY_ok P) 3 rfl trivial ?_
      by_cases hin : i < zgn G r
      · have hlt := h.1.t (r := r) (by omega) hin
        have emin : min (i + 1) (zgn G r) = i + 1 := by omega
        have emin2 : min i (zgn G r) = i := by omega
        rw [zlt_in hin]
        refine RQ_b rfl (fun q4 => ?_) (fun q4 => ?_)
        · have q4 := (zq_lt (a := zgt G r i) (b := 8) rfl rfl (by omega) (by omega)).mp q4
          refine skip _ ?_
          rw [emin, emin2, zrq_sn, Nat.zero_add, znb, if_neg (by omega), or_0]
        have q4 := (not_congr (zq_lt (a := zgt G r i) (b := 8) rfl rfl (by omega) (by omega))).mp q4
        have e4 : w.2.1 4 (nI r).toNatClampNeg = nI (zgl G r) := by rw [hrc]; exact hw.l hrR
        have e4c : (w.2.1 4 (nI r).toNatClampNeg).toNatClampNeg = zgl G r := by rw [e4, nI_clamp (by omega)]
        have e8 : nI (zgt G r i) - 8 = nI (zgt G r i - 8) := nI_sub (b := 8) (by omega)
        refine RQ_n (ZY_ok P) 18 rfl ⟨nI_in (by omega) (by omega), by rw [e4]; exact nI_in (by omega) (by omega), by rw [e4]; exact nI_in (by omega) (by omega), trivial⟩ ?_
        refine ih2 (by omega) () _ _ ⟨rfl, rfl, rfl, rfl, nIs i, trivial⟩ ⟨c1.tr (frX.a 19 (by decide)), Or.inr q2, fun n hn => ?_⟩
        show upd (w.2.1 19) (w.2.1 4 (nI r).toNatClampNeg).toNatClampNeg (w.2.1 19 (w.2.1 4 (nI r).toNatClampNeg).toNatClampNeg ||| (1 : Int32) <<< ((nI (zgt G r i) - 8) &&& 31)) n = _
        rw [e4c, e8, emin, zrq_sn, Nat.zero_add, znb, if_pos (by omega), ← or_as]
        by_cases y : n = zgl G r
        · subst y
          rw [upd_at, upd_at, c2 _ hl6, upd_at, emin2]
          rfl
        · rw [upd_ne y, upd_ne y, c2 n hn, upd_ne y]
      · have : zlt G r i = -1 := if_neg hin
        rw [this]
        refine RQ_b rfl (fun _ => ?_) (fun q4 => absurd (by show (-1 : Int32) < 8; decide) q4)
        refine skip _ ?_
        rw [show min (i + 1) (zgn G r) = min i (zgn G r) by omega]
    · rw [g2 n hn, Nat.zero_min]
      by_cases y : n = zgl G r
      · subst y; rw [upd_at]; exact (or_0 _).symm
      · rw [upd_ne y]
  refine RQ_n (ZY_ok P) 1 rfl trivial ?_
  refine RQ_b rfl (fun q2 => ?_) (fun q2 => ?_)
  · have q2 := bI_0.mp q2
    refine RQ_n (ZY_ok P) 2 rfl trivial ?_
    refine body 5 (by omega) ?_
    rw [q2, zrl_f, Nat.min_eq_right hn]
  · have q2 := bI_t q2
    refine RQ_n (ZY_ok P) 2 rfl trivial ?_
    refine RQ_v vX4_emptyAhead (y_emptyAhead hv (by omega)) rfl k4_76 rfl rfl rfl (zy14 v rfl) rfl ?_
    refine RQ_n (ZY_ok P) 4 rfl trivial ?_
    rw [e14, nI_1]
    refine body (zea G E r (zgn G r) 0 + 1) (by omega) ?_
    rw [q2, zrl_t, Nat.sub_zero]
theorem y_findLeft {P : YP} {G : ZGT} {s : SX} (h : ZGX G s) : EvQ (ZY P) mX4_findLeft [.ref 14] s (fun x v => x = none ∧ v.1 14 2 = zLN G (s.1 14 1) (zgN G) ∧ frX [(14, 2)] [19] s v) := by
  have hb := h.b
  refine EQ_V vX4_findLeft rfl ?_
  refine RQ_n (ZY_ok P) 2 rfl trivial ?_
  refine RQ_V vX4_findReached (y_findReached h true) rfl k4_123 rfl rfl rfl (zy14 s rfl) (fun r1 s1 h => h.2.2.n) (fun r1 u hu => ?_)
  obtain ⟨rfl, u1, u2⟩ := hu
  refine RQ_n (ZY_ok P) 5 rfl trivial ?_
  refine loopU (zgN G) (fun k (_ : Unit) => [some (.ref 14), some (.int (nI k))]) (fun k _ v => v.1 14 2 = zLN G (s.1 14 1) k ∧ frX [(14, 2)] [19] s v ∧ v.2.1 19 = u.2.1 19) ?_ 0 () _ (by omega) ⟨rfl, (u2.up (by decide) (by decide)).tr (frX.i 14 2 (by decide)), rfl⟩
  intro k _ v hk hJ ih
  obtain ⟨g1, g2, g3⟩ := hJ
  have hv : ZGX G v := h.fr g2 (by decide)
  refine RQ_n (ZY_ok P) 4 rfl trivial ?_
  refine RQ_b rfl (fun q => ?_) (fun q => ?_)
  · have q := (zq_le hv.2.1.2.1 rfl (by omega) (by omega)).mp q
    have : k = zgN G := by omega
    subst this
    exact RQ_to (Rn_vret rfl rfl) ⟨rfl, g1, g2⟩
  have q := (not_congr (zq_le hv.2.1.2.1 rfl (by omega) (by omega))).mp q
  refine RQ_n (ZY_ok P) 15 rfl ⟨nI_in (by omega) (by omega), trivial⟩ ?_
  refine ih (by omega) () _ _ ⟨rfl, nIs k, trivial⟩ ⟨?_, g2.tr (frX.i 14 2 (by decide)), g3⟩
  show v.1 14 2 ||| v.2.1 19 (nI k).toNatClampNeg &&& b1 k = _
  rw [zLN, g1, g3, nI_clamp (by omega), u1 k (by omega), and_b1 _ (by omega)]
theorem y_findUseful {P : YP} {G : ZGT} {s : SX} (h : ZGX G s) : EvQ (ZY P) mX4_findUseful [.ref 14] s (fun x v => x = none ∧ v.1 14 3 = zRC G false (s.1 14 1) 0 ||| 1 ∧ frX [(14, 3)] [19] s v) := by
  refine EQ_V vX4_findUseful rfl ?_
  refine RQ_n (ZY_ok P) 2 rfl trivial ?_
  refine RQ_V vX4_findReached (y_findReached h false) rfl k4_123 rfl rfl rfl (zy14 s rfl) (fun r1 s1 h => h.2.2.n) (fun r1 u hu => ?_)
  obtain ⟨rfl, u1, u2⟩ := hu
  refine RQ_n (ZY_ok P) 8 rfl ⟨nI_in (c := 0) (by omega) (by omega), trivial⟩ ?_
  refine RQ_to (Rn_vret rfl rfl) ⟨rfl, ?_, (u2.up (by decide) (by decide)).tr (frX.i 14 3 (by decide))⟩
  show (1 : Int32) ||| u.2.1 19 0 = _
  rw [u1 0 (by omega), or_cm]
/-- what Facts tells of the grammar -/
def ZFX (G : ZGT) (u : SX) : Prop := ZGX G u ∧ zlE G (u.1 14 1) ∧ zlF G (u.1 14 1) (u.2.1 15) ∧ RSX G u ∧ zlW G (u.1 14 1) (u.2.1 15) (u.2.1 16) ∧ (∃ S, zlS G S ∧ SB S ∧ SR S u) ∧ u.1 14 2 = zLN G (u.1 14 1) (zgN G) ∧ u.1 14 3 = zRC G false (u.1 14 1) 0 ||| 1
theorem y_find {P : YP} {G : ZGT} {s : SX} (h : ZGX G s) : EvQ (ZY P) mX4_find [.ref 14] s (fun x v => x = none ∧ ZFX G v ∧ v.1 14 10 = 0 ∧ frX [(14, 1), (14, 2), (14, 3), (14, 10)] [15, 16, 17, 18, 19] s v) := by
  refine EQ_V vX4_find rfl ?_
  refine RQ_n (ZY_ok P) 4 rfl ⟨Or.inl rfl, trivial⟩ ?_
  obtain ⟨s0, hs0⟩ : ∃ w : SX, w = (updI s.1 14 10 0, s.2) := ⟨_, rfl⟩
  show RnQ (ZY P) mX4_find (6, _, _, (updI s.1 14 10 0, s.2)) _
  rw [← hs0]
  have f0 : frX [(14, 10)] [] s s0 := by rw [hs0]; exact frX.i 14 10 (by decide)
  have e0 : s0.1 14 10 = 0 := by rw [hs0]; rfl
  have h0 : ZGX G s0 := h.fr f0 (by decide)
  refine RQ_V vX4_findEmpty (y_findEmpty h0) rfl k4_45 rfl rfl rfl (zy14 s0 rfl) (fun r1 s1 h => h.2.2.n) (fun r1 s1 h1 => ?_)
  obtain ⟨rfl, a1, f1⟩ := h1
  have hG1 : ZGX G s1 := h0.fr f1 (by decide)
  refine RQ_n (ZY_ok P) 1 rfl trivial ?_
  refine RQ_V vX4_findFirst (y_findFirst hG1) rfl k4_48 rfl rfl rfl (zy14 s1 rfl) (fun r1 s1 h => h.2.2.2.n) (fun r1 s2 h2 => ?_)
  obtain ⟨rfl, a2, a3, f2⟩ := h2
  have hG2 : ZGX G s2 := hG1.fr f2 (by decide)
  refine RQ_n (ZY_ok P) 1 rfl trivial ?_
  have e2 : s2.1 14 1 = s1.1 14 1 := f2.1 14 1 (by decide)
  have h5 : ∀ n, n < 6 → bsub (s2.2.1 15 n) 511 := a2.2 _ (zcF_511 h.1 _)
  refine RQ_V vX4_findFollow (y_findFollow hG2 (E := s1.1 14 1) (F := s2.2.1 15) ⟨e2, rfl, a3⟩ h5) rfl k4_51 rfl rfl rfl (zy14 s2 rfl) (fun r1 s1 h => h.2.2.n) (fun r1 s3 h3 => ?_)
  obtain ⟨rfl, a4, f3⟩ := h3
  have hG3 : ZGX G s3 := hG2.fr f3 (by decide)
  refine RQ_n (ZY_ok P) 1 rfl trivial ?_
  refine RQ_V vX4_findShortest (y_findShortest hG3) rfl k4_54 rfl rfl rfl (zy14 s3 rfl) (fun r1 s1 h => h.2.2.n) (fun r1 s4 h4 => ?_)
  obtain ⟨rfl, ⟨S, a5, a6, a7⟩, f4⟩ := h4
  have hG4 : ZGX G s4 := hG3.fr f4 (by decide)
  refine RQ_n (ZY_ok P) 1 rfl trivial ?_
  refine RQ_V vX4_findLeft (y_findLeft hG4) rfl k4_57 rfl rfl rfl (zy14 s4 rfl) (fun r1 s1 h => h.2.2.n) (fun r1 s5 h5 => ?_)
  obtain ⟨rfl, a8, f5⟩ := h5
  have hG5 : ZGX G s5 := hG4.fr f5 (by decide)
  refine RQ_n (ZY_ok P) 1 rfl trivial ?_
  refine RQ_V vX4_findUseful (y_findUseful hG5) rfl k4_60 rfl rfl rfl (zy14 s5 rfl) (fun r1 s1 h => h.2.2.n) (fun r1 s6 h6 => ?_)
  obtain ⟨rfl, a9, f6⟩ := h6
  have f26 : frX [(14, 2), (14, 3)] [16, 17, 19] s2 s6 := (((f3.up (by decide) (by decide)).tr (f4.up (by decide) (by decide))).tr (f5.up (by decide) (by decide))).tr (f6.up (by decide) (by decide))
  have e6 : s6.1 14 1 = s1.1 14 1 := by rw [f26.1 14 1 (by decide)]; exact e2
  have e15 : s6.2.1 15 = s2.2.1 15 := f26.2.1 15 (by decide)
  have e16 : s6.2.1 16 = s3.2.1 16 := by rw [f6.2.1 16 (by decide), f5.2.1 16 (by decide), f4.2.1 16 (by decide)]
  have e17 : s6.2.1 17 = s4.2.1 17 := by rw [f6.2.1 17 (by decide), f5.2.1 17 (by decide)]
  have e4 : s4.1 14 1 = s1.1 14 1 := by rw [f4.1 14 1 (by decide), f3.1 14 1 (by decide), e2]
  have e5 : s5.1 14 1 = s1.1 14 1 := by rw [f5.1 14 1 (by decide), e4]
  refine RQ_to (Rn_vret rfl rfl) ⟨rfl, ⟨hG5.fr f6 (by decide), ?_, ?_, ?_, ?_, ⟨S, a5, a6, fun n hn => ?_⟩, ?_, ?_⟩, ?_, ?_⟩
  · rw [e6]; exact a1
  · rw [e6, e15]; exact a2
  · unfold RSX
    rw [e6, e15, f26.2.1 18 (by decide), ← e2]
    exact a3
  · rw [e6, e15, e16]; exact a4
  · rw [e17]; exact a7 n hn
  · rw [f6.1 14 2 (by decide), a8, e4, e6]
  · rw [a9, e5, e6]
  · rw [f26.1 14 10 (by decide), f2.1 14 10 (by decide), f1.1 14 10 (by decide)]; exact e0
  · exact ((f0.up (by decide) (by decide)).tr (f1.up (by decide) (by decide))).tr ((f2.up (by decide) (by decide)).tr (f26.up (by decide) (by decide)))
