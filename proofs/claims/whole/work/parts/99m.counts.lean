/-! Counting: cores shared; the class's counts. -/
theorem zcnt_bij : ∀ (n : Nat) {Q P : Nat → Bool} {m : Nat} {f : Nat → Nat}, (∀ k, k < n → Q k = true → f k < m ∧ P (f k) = true) → (∀ j k, j < n → k < n → Q j = true → Q k = true → f j = f k → j = k) → (∀ s, s < m → P s = true → ∃ k, k < n ∧ Q k = true ∧ f k = s) → zcnt Q n = zcnt P m
  | 0, Q, P, m, f, _, _, h3 => by
    have : ∀ d, d ≤ m → zcnt P d = 0 := fun d => by
      induction d with
      | zero => intro _; rfl
      | succ d ih =>
        intro hd
        rw [zcnt, ih (by omega)]
        cases hp : P d with
        | false => rfl
        | true => obtain ⟨k, hk, -⟩ := h3 d (by omega) hp; omega
    rw [this m (Nat.le_refl _)]; rfl
  | n + 1, Q, P, m, f, h1, h2, h3 => by
    rw [zcnt]
    cases hq : Q n with
    | false =>
      rw [if_neg (by decide), Nat.add_zero]
      refine zcnt_bij n (fun k hk => h1 k (by omega)) (fun j k hj hk => h2 j k (by omega) (by omega)) (fun s hs hp => ?_)
      obtain ⟨k, k1, k2, k3⟩ := h3 s hs hp
      refine ⟨k, Nat.lt_of_le_of_ne (by omega) (fun e => ?_), k2, k3⟩
      rw [e, hq] at k2; cases k2
    | true =>
      rw [if_pos rfl]
      obtain ⟨a1, a2⟩ := h1 n (by omega) hq
      have ih := zcnt_bij n (Q := Q) (P := fun s => P s && !decide (s = f n)) (m := m) (f := f) (fun k hk hQ => ⟨(h1 k (by omega) hQ).1, ?_⟩) (fun j k hj hk => h2 j k (by omega) (by omega)) (fun s hs hp => ?_)
      · rw [ih]
        have := zcnt_at (p := fun s => P s && !decide (s = f n)) (p' := P) (r := f n) (by rw [decide_eq_true rfl, Bool.not_true, Bool.and_false]) (fun i hi => by rw [decide_eq_false hi, Bool.not_false, Bool.and_true]) m
        rw [this, if_pos ⟨a1, a2⟩]
      · rw [(h1 k (by omega) hQ).2, decide_eq_false (fun e => by have := h2 k n (by omega) (by omega) hQ hq e; omega)]; rfl
      · rw [Bool.and_eq_true] at hp
        obtain ⟨k, k1, k2, k3⟩ := h3 s hs hp.1
        refine ⟨k, Nat.lt_of_le_of_ne (by omega) (fun e => ?_), k2, k3⟩
        have := hp.2
        rw [← k3, e, decide_eq_true rfl] at this
        cases this
/-- the greatest of the first n -/
def zmx (f : Nat → Nat) : Nat → Nat
  | 0 => 0
  | n + 1 => max (zmx f n) (f n)
theorem zmx_le {f : Nat → Nat} {b : Nat} : ∀ n, (∀ k, k < n → f k ≤ b) → zmx f n ≤ b
  | 0, _ => Nat.zero_le _
  | n + 1, h => by rw [zmx]; have := zmx_le n (fun k hk => h k (by omega)); have := h n (by omega); omega
theorem zmx_ge {f : Nat → Nat} : ∀ n k, k < n → f k ≤ zmx f n
  | 0, k, h => by omega
  | n + 1, k, h => by
    rw [zmx]
    by_cases y : k = n
    · rw [y]; omega
    · have := zmx_ge (f := f) n k (by omega); omega
/-- of how many states the core is, told at the first alone -/
noncomputable def zcom (N : ZNM) (k : Nat) : Nat := if zcB (∃ j, j < k ∧ zco (N.2.1 k) (N.2.1 j)) = true then 0 else zcnt (fun j => zcB (zco (N.2.1 k) (N.2.1 j))) N.1
section ZCm
variable {N : ZNM} {cc : Nat → Nat} {m : Nat}
/-- so many states have the core of that slot -/
def zsr (cc : Nat → Nat) (n s : Nat) : Nat := zcnt (fun k => decide (cc k = s)) n
theorem zcom_first (hcc : ∀ j k, j < N.1 → k < N.1 → (cc j = cc k ↔ zco (N.2.1 k) (N.2.1 j))) {k : Nat} (hk : k < N.1) (hf : ∀ j, j < k → cc j ≠ cc k) : zcom N k = zsr cc N.1 (cc k) := by
  unfold zcom zsr
  rw [zcB_f (fun ⟨j, h1, h2⟩ => hf j h1 ((hcc j k (by omega) hk).mpr h2)), if_neg (by decide)]
  refine zcnt_cg _ (fun i hi => ?_)
  by_cases y : cc i = cc k
  · rw [decide_eq_true y, zcB_t ((hcc i k hi hk).mp y)]
  · rw [decide_eq_false y, zcB_f (fun z => y ((hcc i k hi hk).mpr z))]
theorem zcom_not (hcc : ∀ j k, j < N.1 → k < N.1 → (cc j = cc k ↔ zco (N.2.1 k) (N.2.1 j))) {j k : Nat} (hk : k < N.1) (hj : j < k) (e : cc j = cc k) : zcom N k = 0 := by
  unfold zcom
  rw [zcB_t ⟨j, hj, (hcc j k (by omega) hk).mp e⟩, if_pos rfl]
theorem first_ex {p : Nat → Prop} {k : Nat} (h : p k) : ∃ j, j ≤ k ∧ p j ∧ ∀ i, i < j → ¬ p i := by
  induction k using Nat.strongRecOn with
  | ind k ih =>
    by_cases y : ∃ i, i < k ∧ p i
    · obtain ⟨i, hi, hp⟩ := y
      obtain ⟨j, a, b, c⟩ := ih i hi hp
      exact ⟨j, by omega, b, c⟩
    · exact ⟨k, Nat.le_refl _, h, fun i hi hp => y ⟨i, hi, hp⟩⟩
theorem zsr_pos {n s : Nat} (h : 0 < zsr cc n s) : ∃ k, k < n ∧ cc k = s := by
  refine Classical.byContradiction (fun y => ?_)
  have : ∀ d, d ≤ n → zcnt (fun k => decide (cc k = s)) d = 0 := fun d => by
    induction d with
    | zero => intro _; rfl
    | succ d ih => intro hd; rw [zcnt, ih (by omega), decide_eq_false (fun e => y ⟨d, by omega, e⟩)]; rfl
  have := this n (Nat.le_refl _)
  unfold zsr at h
  omega
theorem zcom_split (hcc : ∀ j k, j < N.1 → k < N.1 → (cc j = cc k ↔ zco (N.2.1 k) (N.2.1 j))) (hm : ∀ k, k < N.1 → cc k < m) : zcnt (fun s => decide (1 < zsr cc N.1 s)) m = zcnt (fun k => decide (1 < zcom N k)) N.1 := by
  refine (zcnt_bij N.1 (f := cc) (fun k hk hQ => ?_) (fun j k hj hk hQj hQk e => ?_) (fun s hs hp => ?_)).symm
  · have hQ := of_decide_eq_true hQ
    have hf : ∀ j, j < k → cc j ≠ cc k := fun j hj e => by rw [zcom_not hcc hk hj e] at hQ; omega
    rw [zcom_first hcc hk hf] at hQ
    exact ⟨hm k hk, decide_eq_true hQ⟩
  · have hj1 := of_decide_eq_true hQj
    have hk1 := of_decide_eq_true hQk
    rcases Nat.lt_trichotomy j k with y | y | y
    · rw [zcom_not hcc hk y e] at hk1; omega
    · exact y
    · rw [zcom_not hcc hj y e.symm] at hj1; omega
  · have hp := of_decide_eq_true hp
    obtain ⟨k, k1, k2⟩ := zsr_pos (show 0 < zsr cc N.1 s by omega)
    obtain ⟨j, j1, j2, j3⟩ := first_ex (p := fun k => cc k = s) k2
    have hjn : j < N.1 := by omega
    refine ⟨j, hjn, ?_, j2⟩
    rw [zcom_first hcc hjn (fun i hi e => j3 i hi (e.trans j2)), j2]
    exact decide_eq_true hp
theorem zcom_max (hcc : ∀ j k, j < N.1 → k < N.1 → (cc j = cc k ↔ zco (N.2.1 k) (N.2.1 j))) (hm : ∀ k, k < N.1 → cc k < m) : zmx (zsr cc N.1) m = zmx (zcom N) N.1 := by
  refine Nat.le_antisymm (zmx_le _ (fun s hs => ?_)) (zmx_le _ (fun k hk => ?_))
  · rcases Nat.eq_zero_or_pos (zsr cc N.1 s) with y | y
    · omega
    · obtain ⟨k, k1, k2⟩ := zsr_pos y
      obtain ⟨j, j1, j2, j3⟩ := first_ex (p := fun k => cc k = s) k2
      have hjn : j < N.1 := by omega
      have e := zcom_first hcc hjn (fun i hi e => j3 i hi (e.trans j2))
      have := zmx_ge (f := zcom N) N.1 j hjn
      rw [e, j2] at this
      exact this
  · by_cases y : ∃ j, j < k ∧ cc j = cc k
    · obtain ⟨j, j1, j2⟩ := y
      rw [zcom_not hcc hk j1 j2]; omega
    · rw [zcom_first hcc hk (fun j hj e => y ⟨j, hj, e⟩)]
      exact zmx_ge _ _ (hm k hk)
theorem zsr_le (n s : Nat) : zsr cc n s ≤ n := zcnt_le _ _
end ZCm
section XCnt
variable {P : YP} {G : ZGT} {A : ZAS} {u : SX}
theorem zcf_eq {K : Nat → Nat → Int32} {i j c d : Nat} (h1 : zcf K i c) (h2 : zcf K j d) : c = d ↔ zco (K j) (K i) := by
  refine ⟨fun e => ?_, fun z => ?_⟩
  · subst e
    exact zco_tr (zco_sy h2.2.1) h1.2.1
  · rcases Nat.lt_trichotomy c d with y | y | y
    · exact absurd (zco_tr h1.2.1 (zco_sy z)) (h2.2.2 c y)
    · exact y
    · exact absurd (zco_tr h2.2.1 z) (h1.2.2 d y)
theorem y_countSharing (h1 : ZAI G A) (h : XF G A u) : ∃ cc : Nat → Nat, (∀ j k, j < (zN A).1 → k < (zN A).1 → (cc j = cc k ↔ zco ((zN A).2.1 k) ((zN A).2.1 j))) ∧ (∀ k, k < (zN A).1 → cc k < A.1) ∧ EvQ (ZY P) mX1_countSharing [.ref 36] u (fun x v => x = none ∧ (∀ s, s < 200 → v.2.1 46 s = nI (zsr cc (zN A).1 s)) ∧ frX [] [46] u v) := by
  have hO := zN_ok h1
  have hN := hO.2.1
  obtain ⟨g1, -, g3, -, -, g6⟩ := h
  rw [XNb, zc0, zL_end h1] at g6
  obtain ⟨n1, n2, -, -, -⟩ := g6
  have hsl : ∀ k, k < (zN A).1 → (zL A).getD k 0 < A.1 := fun k hk => (zLo h1).2.1 _ (mem_getD hk)
  have hA := h1.1.2
  refine ⟨fun k => (u.2.1 38 ((zL A).getD k 0)).toNatClampNeg, ?_⟩
  have hcc : ∀ k, k < (zN A).1 → u.2.1 38 ((zL A).getD k 0) = nI (u.2.1 38 ((zL A).getD k 0)).toNatClampNeg ∧ zcf A.2.1 ((zL A).getD k 0) (u.2.1 38 ((zL A).getD k 0)).toNatClampNeg := fun k hk => by
    obtain ⟨c, c1, c2⟩ := g3 _ (hsl k hk)
    have := c2.1
    have := hsl k hk
    rw [c1, nI_clamp (by omega)]
    exact ⟨rfl, c2⟩
  obtain ⟨cc, hce⟩ : ∃ cc : Nat → Nat, cc = fun k => (u.2.1 38 ((zL A).getD k 0)).toNatClampNeg := ⟨_, rfl⟩
  have hcc : ∀ k, k < (zN A).1 → u.2.1 38 ((zL A).getD k 0) = nI (cc k) ∧ zcf A.2.1 ((zL A).getD k 0) (cc k) := fun k hk => by rw [hce]; exact hcc k hk
  rw [← hce]
  have hcm : ∀ k, k < (zN A).1 → cc k < A.1 := fun k hk => by
    have := (hcc k hk).2.1
    have := hsl k hk
    omega
  refine ⟨fun j k hj hk => zcf_eq (K := A.2.1) (i := (zL A).getD j 0) (j := (zL A).getD k 0) (hcc j hj).2 (hcc k hk).2, hcm, ?_⟩
  refine EQ_V vX1_countSharing rfl ?_
  refine RQ_n (ZY_ok P) 3 rfl trivial ?_
  refine RQ_s vJ7_fill_53178 (y_fill u 46 200 0 (by omega) (by omega) (fun _ _ => rfl)) rfl k1_128 rfl rfl rfl rfl ?_
  obtain ⟨v1, hv1⟩ : ∃ w : SX, w = (u.1, setA u.2.1 46 (fil (u.2.1 46) 0 200 0), u.2.2) := ⟨_, rfl⟩
  rw [← hv1]
  have f1 : frX [] [46] u v1 := by rw [hv1]; exact frX.s 46 (by decide)
  have a46 : v1.2.1 46 = fil (u.2.1 46) 0 200 0 := by rw [hv1]; show setA u.2.1 46 (fil (u.2.1 46) 0 200 0) 46 = _; rw [setA_at]
  refine RQ_n (ZY_ok P) 2 rfl trivial ?_
  refine loopU (zN A).1 (fun k (_ : Unit) => [some (.ref 36), some (.int (nI k))]) (fun k _ w => (∀ s, s < 200 → w.2.1 46 s = nI (zsr cc k s)) ∧ frX [] [46] u w) ?_ 0 () v1 (by omega) ⟨fun s hs => by rw [a46, fil_in (by omega) hs]; rfl, f1⟩
  intro k _ w hk hJ ih
  obtain ⟨g1, g2⟩ := hJ
  refine RQ_n (ZY_ok P) 3 rfl trivial ?_
  rw [g2.1 36 10 (by decide), n1]
  refine RQ_b rfl (fun z => ?_) (fun z => ?_)
  · have z := (zq_le (a := (zN A).1) (b := k) rfl rfl (by omega) (by omega)).mp z
    have : k = (zN A).1 := by omega
    subst this
    exact RQ_to (Rn_vret rfl rfl) ⟨rfl, g1, g2⟩
  have z := (not_congr (zq_le (a := (zN A).1) (b := k) rfl rfl (by omega) (by omega))).mp z
  have hkn : k < (zN A).1 := by omega
  have hs := hsl k hkn
  have hc := hcm k hkn
  refine RQ_n (ZY_ok P) 7 rfl trivial ?_
  refine RQ_n (ZY_ok P) 1 rfl ⟨nI_in (by omega) (by omega), trivial⟩ ?_
  rw [nI_clamp (show k < 2 ^ 31 by omega), g2.2.1 41 (by decide), (n2 k hkn).1]
  refine RQ_n (ZY_ok P) 1 rfl ⟨nI_in (by omega) (by omega), trivial⟩ ?_
  rw [nI_clamp (show (zL A).getD k 0 < 2 ^ 31 by omega), g2.2.1 38 (by decide), (hcc k hkn).1]
  refine RQ_n (ZY_ok P) 1 rfl trivial ?_
  refine RQ_n (ZY_ok P) 1 rfl ⟨nI_in (by omega) (by omega), trivial⟩ ?_
  rw [nI_clamp (show cc k < 2 ^ 31 by omega), g1 (cc k) (by omega)]
  refine RQ_n (ZY_ok P) 2 rfl trivial ?_
  rw [show nI (zsr cc k (cc k)) + 1 = nI (zsr cc k (cc k) + 1) from nI_add _ 1]
  refine RQ_n (ZY_ok P) 1 rfl ⟨nI_in (by omega) (by omega), trivial⟩ ?_
  rw [nI_clamp (show cc k < 2 ^ 31 by omega)]
  obtain ⟨v3, hv3⟩ : ∃ w1 : SX, w1 = (w.1, updA w.2.1 46 (cc k) (nI (zsr cc k (cc k) + 1)), w.2.2) := ⟨_, rfl⟩
  rw [← hv3]
  have f3 : frX [] [46] w v3 := by rw [hv3]; exact frX.a 46 (by decide)
  have h46 : v3.2.1 46 = upd (w.2.1 46) (cc k) (nI (zsr cc k (cc k) + 1)) := by rw [hv3]; rfl
  refine RQ_n (ZY_ok P) 2 rfl trivial ?_
  refine ih (by omega) () _ _ ⟨rfl, nIs k, trivial⟩ ⟨fun s hs => ?_, g2.tr f3⟩
  rw [h46]
  by_cases y : s = cc k
  · rw [y, upd_at]; unfold zsr; rw [zcnt, decide_eq_true rfl]; rfl
  · rw [upd_ne y, g1 s hs]; unfold zsr; rw [zcnt, decide_eq_false (fun e => y e.symm)]; rfl
theorem y_splitCores (h1 : ZAI G A) (h : XF G A u) : EvQ (ZY P) mX1_splitCores [.ref 36] u (fun x v => x = some (.int (nI (zcnt (fun k => decide (1 < zcom (zN A) k)) (zN A).1))) ∧ frX [] [46] u v) := by
  obtain ⟨cc, c1, c2, c3⟩ := y_countSharing (P := P) h1 h
  have hN := (zN_ok h1).2.1
  have hA := h1.1.2
  rw [← zcom_split c1 c2]
  refine EQ_V vX1_splitCores rfl ?_
  refine RQ_n (ZY_ok P) 1 rfl trivial ?_
  refine RQ_V vX1_countSharing c3 rfl k1_147 rfl rfl rfl (zy36 _ rfl) (fun _ s1 q => by show 3 * s1.2.2.2.2.1 + 99 = 3 * u.2.2.2.2.1 + 99; rw [q.2.2.2.2]) ?_
  rintro r1 v1 ⟨rfl, d1, d2⟩
  refine RQ_n (ZY_ok P) 4 rfl trivial ?_
  refine loopU A.1 (fun s (_ : Unit) => [some (.ref 36), some (.int (nI (zcnt (fun s => decide (1 < zsr cc (zN A).1 s)) s))), some (.int (nI s))]) (fun _ _ w => w = v1) ?_ 0 () v1 (by omega) rfl
  intro s _ w hs hw ih
  subst hw
  refine RQ_n (ZY_ok P) 3 rfl trivial ?_
  rw [d2.1 36 5 (by decide), h.1]
  refine RQ_b rfl (fun z => ?_) (fun z => ?_)
  · have z := (zq_le (a := A.1) (b := s) rfl rfl (by omega) (by omega)).mp z
    have : s = A.1 := by omega
    subst this
    refine RQ_n (ZY_ok P) 1 rfl trivial ?_
    exact RQ_to (Rn_iret rfl rfl) ⟨rfl, d2⟩
  have z := (not_congr (zq_le (a := A.1) (b := s) rfl rfl (by omega) (by omega))).mp z
  have hle := zsr_le (cc := cc) (zN A).1 s
  refine RQ_n (ZY_ok P) 3 rfl trivial ?_
  refine RQ_n (ZY_ok P) 1 rfl ⟨nI_in (by omega) (by omega), trivial⟩ ?_
  rw [nI_clamp (show s < 2 ^ 31 by omega), d1 s (by omega)]
  refine RQ_n (ZY_ok P) 1 rfl trivial ?_
  refine RQ_b rfl (fun y => ?_) (fun y => ?_)
  · have y := (zq_le (a := zsr cc (zN A).1 s) (b := 1) rfl rfl (by omega) (by omega)).mp y
    refine RQ_n (ZY_ok P) 2 rfl trivial ?_
    refine ih (by omega) () _ _ ?_ rfl
    rw [zcnt, decide_eq_false (by omega)]
    exact ⟨rfl, rfl, nIs s, trivial⟩
  · have y := (not_congr (zq_le (a := zsr cc (zN A).1 s) (b := 1) rfl rfl (by omega) (by omega))).mp y
    refine RQ_n (ZY_ok P) 3 rfl trivial ?_
    refine ih (by omega) () _ _ ?_ rfl
    rw [zcnt, decide_eq_true (by omega)]
    exact ⟨rfl, nIs _, nIs s, trivial⟩
theorem y_mostOfOneCore (h1 : ZAI G A) (h : XF G A u) : EvQ (ZY P) mX1_mostOfOneCore [.ref 36] u (fun x v => x = some (.int (nI (zmx (zcom (zN A)) (zN A).1))) ∧ frX [] [46] u v) := by
  obtain ⟨cc, c1, c2, c3⟩ := y_countSharing (P := P) h1 h
  have hN := (zN_ok h1).2.1
  have hA := h1.1.2
  rw [← zcom_max c1 c2]
  refine EQ_V vX1_mostOfOneCore rfl ?_
  refine RQ_n (ZY_ok P) 1 rfl trivial ?_
  refine RQ_V vX1_countSharing c3 rfl k1_147 rfl rfl rfl (zy36 _ rfl) (fun _ s1 q => by show 3 * s1.2.2.2.2.1 + 99 = 3 * u.2.2.2.2.1 + 99; rw [q.2.2.2.2]) ?_
  rintro r1 v1 ⟨rfl, d1, d2⟩
  refine RQ_n (ZY_ok P) 4 rfl trivial ?_
  refine loopU A.1 (fun s (_ : Unit) => [some (.ref 36), some (.int (nI (zmx (zsr cc (zN A).1) s))), some (.int (nI s))]) (fun _ _ w => w = v1) ?_ 0 () v1 (by omega) rfl
  intro s _ w hs hw ih
  subst hw
  refine RQ_n (ZY_ok P) 3 rfl trivial ?_
  rw [d2.1 36 5 (by decide), h.1]
  refine RQ_b rfl (fun z => ?_) (fun z => ?_)
  · have z := (zq_le (a := A.1) (b := s) rfl rfl (by omega) (by omega)).mp z
    have : s = A.1 := by omega
    subst this
    refine RQ_n (ZY_ok P) 1 rfl trivial ?_
    exact RQ_to (Rn_iret rfl rfl) ⟨rfl, d2⟩
  have z := (not_congr (zq_le (a := A.1) (b := s) rfl rfl (by omega) (by omega))).mp z
  have hle := zsr_le (cc := cc) (zN A).1 s
  have hle2 : zmx (zsr cc (zN A).1) s ≤ 200 := zmx_le _ (fun k hk => by have := zsr_le (cc := cc) (zN A).1 k; omega)
  refine RQ_n (ZY_ok P) 4 rfl trivial ?_
  refine RQ_n (ZY_ok P) 1 rfl ⟨nI_in (by omega) (by omega), trivial⟩ ?_
  rw [nI_clamp (show s < 2 ^ 31 by omega), d1 s (by omega)]
  refine RQ_max rfl k1_150 rfl ?_
  refine RQ_n (ZY_ok P) 3 rfl trivial ?_
  refine ih (by omega) () _ _ ?_ rfl
  have e : (if nI (zmx (zsr cc (zN A).1) s) < nI (zsr cc (zN A).1 s) then nI (zsr cc (zN A).1 s) else nI (zmx (zsr cc (zN A).1) s)) = nI (zmx (zsr cc (zN A).1) (s + 1)) := by
    rw [zmx]
    by_cases y : zmx (zsr cc (zN A).1) s < zsr cc (zN A).1 s
    · rw [if_pos ((zq_lt rfl rfl (by omega) (by omega)).mpr y), Nat.max_eq_right (by omega)]
    · rw [if_neg (fun q => y ((zq_lt rfl rfl (by omega) (by omega)).mp q)), Nat.max_eq_left (by omega)]
  rw [← e]
  exact ⟨rfl, rfl, nIs s, trivial⟩
end XCnt
