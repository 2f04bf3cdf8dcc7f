/-! Paths, as values; the class: pathLetter. -/
/-- the step by which a state is come to; where from, by which letter; how long its path is; whence it comes, j steps back -/
def zfst0 (c : Nat → Nat) (t : Nat) : Nat := (zfst (fun f => decide (t < c (f + 1))) 2800).getD 0
def zfr (c : Nat → Nat) (t : Nat) : Nat := zfst0 c t / 14
def zfb (c : Nat → Nat) (t : Nat) : Nat := zfst0 c t % 14
def zpln (c : Nat → Nat) : Nat → Nat → Nat
  | 0, _ => 0
  | n + 1, t => if t = 0 then 0 else zpln c n (zfr c t) + 1
def zpl (c : Nat → Nat) (t : Nat) : Nat := zpln c t t
def zanc (c : Nat → Nat) : Nat → Nat → Nat
  | 0, t => t
  | j + 1, t => zanc c j (zfr c t)
section ZPath
variable {n : Nat} {gn : Nat → Nat → Option Nat} {c : Nat → Nat}
theorem ZNO.mono (h : ZNO n gn c) {e f : Nat} (hef : e ≤ f) : c e ≤ c f := by
  have key : ∀ d, c e ≤ c (e + d) := fun d => by
    induction d with
    | zero => exact Nat.le_refl _
    | succ d ih => exact Nat.le_trans ih (h.2.2.2.1 (e + d)).1
  have := key (f - e)
  rw [show e + (f - e) = f by omega] at this
  exact this
theorem zfst0_eq (h : ZNO n gn c) {t f : Nat} (hf : f < 14 * n) (h1 : c f = t) (h2 : c (f + 1) = t + 1) : zfst0 c t = f := by
  have hn := h.2.1
  unfold zfst0
  rw [zfst_i (a := f) (by omega) (decide_eq_true (by omega)) (fun b hb => decide_eq_false (fun y => by have := h.mono (show b + 1 ≤ f by omega); omega))]
  rfl
theorem zfst0_ok (h : ZNO n gn c) {t : Nat} (h1 : 1 ≤ t) (h2 : t < n) : zfst0 c t < 14 * n ∧ c (zfst0 c t) = t ∧ c (zfst0 c t + 1) = t + 1 ∧ zfr c t < t ∧ gn (zfr c t) (zfb c t) = some t := by
  have hn := h.2.1
  have hex : ∃ f, f < 14 * n ∧ c f = t ∧ c (f + 1) = t + 1 := by
    have key : ∀ d, d ≤ 14 * n → t < c d → ∃ f, f < d ∧ c f = t ∧ c (f + 1) = t + 1 := fun d => by
      induction d with
      | zero => intro _ y; rw [h.2.2.1] at y; omega
      | succ d ih =>
        intro hd y
        by_cases z : t < c d
        · obtain ⟨f, a, b⟩ := ih (by omega) z
          exact ⟨f, by omega, b⟩
        · have := (h.2.2.2.1 d).2
          exact ⟨d, by omega, by omega, by omega⟩
    exact key (14 * n) (Nat.le_refl _) (by rw [h.2.2.2.2.2.1]; exact h2)
  obtain ⟨f, f1, f2, f3⟩ := hex
  have e := zfst0_eq h f1 f2 f3
  unfold zfr zfb
  rw [e]
  have hk : f / 14 < n := by omega
  refine ⟨f1, f2, f3, ?_, ?_⟩
  · have a1 := h.2.2.2.2.1 (f / 14) hk
    have a2 := h.mono (show 14 * (f / 14) ≤ f by omega)
    omega
  · have hs := h.2.2.2.2.2.2 (f / 14) (f % 14) hk (by omega)
    rw [show 14 * (f / 14) + f % 14 = f by omega] at hs
    rcases hs with ⟨a, b⟩ | ⟨t', a, b⟩
    · omega
    · rw [a]
      rcases b with b | b
      · omega
      · rw [b.1, f2]
theorem zpln_eq (h : ZNO n gn c) : ∀ m t, t ≤ m → t < n → zpln c m t = zpl c t := by
  have key : ∀ q, q < n → ∀ m, q ≤ m → zpln c m q = zpln c q q := by
    intro q
    induction q using Nat.strongRecOn with
    | ind q ih =>
      intro hq m hm
      cases q with
      | zero =>
        cases m with
        | zero => rfl
        | succ m => rfl
      | succ q =>
        cases m with
        | zero => omega
        | succ m =>
          obtain ⟨-, -, -, a, -⟩ := zfst0_ok h (t := q + 1) (by omega) hq
          rw [zpln, zpln, if_neg (by omega), if_neg (by omega), ih _ a (by omega) m (by omega), ih _ a (by omega) q (by omega)]
  intro m t h1 h2
  exact key t h2 m h1
theorem zpl_0 : zpl c 0 = 0 := rfl
theorem zpl_s (h : ZNO n gn c) {t : Nat} (h1 : 1 ≤ t) (h2 : t < n) : zpl c t = zpl c (zfr c t) + 1 := by
  obtain ⟨-, -, -, a, -⟩ := zfst0_ok h h1 h2
  cases t with
  | zero => omega
  | succ t =>
    show zpln c (t + 1) (t + 1) = _
    rw [zpln, if_neg (by omega), zpln_eq h t _ (by omega) (by omega)]
theorem zpl_le (h : ZNO n gn c) : ∀ t, t < n → zpl c t ≤ t := by
  intro t
  induction t using Nat.strongRecOn with
  | ind t ih =>
    intro ht
    cases t with
    | zero => exact Nat.le_refl _
    | succ t =>
      obtain ⟨-, -, -, a, -⟩ := zfst0_ok h (t := t + 1) (by omega) ht
      rw [zpl_s h (by omega) ht]
      have := ih _ a (by omega)
      omega
/-- so many steps back: what is left of the path -/
theorem zanc_pl (h : ZNO n gn c) : ∀ j t, t < n → j ≤ zpl c t → zanc c j t < n ∧ zpl c (zanc c j t) = zpl c t - j := by
  intro j
  induction j with
  | zero => intro t ht _; exact ⟨ht, rfl⟩
  | succ j ih =>
    intro t ht hj
    have h1 : 1 ≤ t := by
      cases t with
      | zero => rw [zpl_0] at hj; omega
      | succ t => omega
    obtain ⟨-, -, -, a, -⟩ := zfst0_ok h h1 ht
    have e := zpl_s h h1 ht
    obtain ⟨b1, b2⟩ := ih (zfr c t) (by omega) (by omega)
    rw [zanc]
    exact ⟨b1, by rw [b2, e]; omega⟩
theorem zanc_s : ∀ j t, zanc c (j + 1) t = zfr c (zanc c j t)
  | 0, _ => rfl
  | j + 1, t => by
    show zanc c (j + 1) (zfr c t) = zfr c (zanc c j (zfr c t))
    exact zanc_s j (zfr c t)
theorem zpl_pos (h : ZNO n gn c) {t : Nat} (ht : t < n) : zpl c t = 0 ↔ t = 0 := by
  refine ⟨fun e => ?_, fun e => by rw [e]; rfl⟩
  rcases Nat.eq_zero_or_pos t with y | y
  · exact y
  · rw [zpl_s h y ht] at e; omega
end ZPath
section XPath
variable {P : YP} {G : ZGT} {A : ZAS} {u : SX}
/-- the class holds the paths -/
theorem XF.p (h1 : ZAI G A) (h : XF G A u) : (∀ t, 1 ≤ t → t < (zN A).1 → u.2.1 43 t = nI (zfr (zc0 A) t) ∧ u.2.1 44 t = nI (zfb (zc0 A) t)) ∧ ∀ t, t < (zN A).1 → u.2.1 45 t = nI (zpl (zc0 A) t) := by
  have hO := zN_ok h1
  obtain ⟨-, -, -, -, -, g6⟩ := h
  have hc : zc0 A (14 * (zL A).length) = (zL A).length := by unfold zc0; rw [zL_end h1]
  obtain ⟨n1, n2, n3, n4, n5⟩ := g6
  rw [hc] at n5
  have hex : ∀ t, 1 ≤ t → t < (zN A).1 → u.2.1 43 t = nI (zfr (zc0 A) t) ∧ u.2.1 44 t = nI (zfb (zc0 A) t) ∧ u.2.1 45 t = u.2.1 45 (zfr (zc0 A) t) + 1 := fun t ht1 ht2 => by
    obtain ⟨f, f1, f2, f3, f4, f5, f6, f7⟩ := n5 t ht1 ht2
    have e := zfst0_eq hO f1 f3 f4
    unfold zfr zfb
    rw [e]
    exact ⟨f5, f6, f7⟩
  refine ⟨fun t a b => ⟨(hex t a b).1, (hex t a b).2.1⟩, ?_⟩
  intro t
  induction t using Nat.strongRecOn with
  | ind t ih =>
    intro ht
    cases t with
    | zero => exact n4
    | succ t =>
      obtain ⟨-, -, -, a, -⟩ := zfst0_ok hO (t := t + 1) (by omega) ht
      rw [(hex (t + 1) (by omega) ht).2.2, ih _ a (by omega), zpl_s hO (by omega) ht]
      exact nI_add _ 1
theorem y_pathLetter (h1 : ZAI G A) (h : XF G A u) {k i : Nat} (hk : k < (zN A).1) (hi : i < zpl (zc0 A) k) : Ev (ZY P) mX1_pathLetter [.ref 36, .int (nI k), .int (nI i)] u (some (.int (nI (zfb (zc0 A) (zanc (zc0 A) (zpl (zc0 A) k - 1 - i) k))))) u := by
  have hO := zN_ok h1
  obtain ⟨p1, p2⟩ := h.p h1
  have hn := hO.2.1
  have hple := zpl_le hO k hk
  refine EQ_ev ?_
  refine EQ_V vX1_pathLetter rfl ?_
  refine RQ_n (ZY_ok P) 5 rfl trivial ?_
  refine RQ_n (ZY_ok P) 1 rfl ⟨nI_in (by omega) (by omega), trivial⟩ ?_
  rw [nI_clamp (show k < 2 ^ 31 by omega), p2 k hk]
  refine RQ_n (ZY_ok P) 3 rfl trivial ?_
  rw [show nI (zpl (zc0 A) k) - 1 = nI (zpl (zc0 A) k - 1) by rw [show (1 : Int32) = nI 1 from rfl, nI_sub (by omega)]]
  have key : ∀ d j, j + d = zpl (zc0 A) k - 1 - i → RnQ (ZY P) mX1_pathLetter (12, [some (.ref 36), some (.int (nI k)), some (.int (nI i)), some (.int (nI (zanc (zc0 A) j k))), some (.int (nI (zpl (zc0 A) k - 1 - j)))], [], u) (fun x v => x = some (.int (nI (zfb (zc0 A) (zanc (zc0 A) (zpl (zc0 A) k - 1 - i) k)))) ∧ v = u) := by
    intro d
    induction d with
    | zero =>
      intro j hj
      have hj : j = zpl (zc0 A) k - 1 - i := by omega
      obtain ⟨a1, a2⟩ := zanc_pl hO j k hk (by omega)
      have a3 : 1 ≤ zanc (zc0 A) j k := by
        rcases Nat.eq_zero_or_pos (zanc (zc0 A) j k) with y | y
        · rw [y, zpl_0] at a2; omega
        · exact y
      refine RQ_n (ZY_ok P) 2 rfl trivial ?_
      refine RQ_b rfl (fun _ => ?_) (fun z => absurd ((zq_le (a := zpl (zc0 A) k - 1 - j) (b := i) rfl rfl (by omega) (by omega)).mpr (by omega)) z)
      refine RQ_n (ZY_ok P) 3 rfl trivial ?_
      refine RQ_n (ZY_ok P) 1 rfl ⟨nI_in (by omega) (by omega), trivial⟩ ?_
      rw [nI_clamp (show zanc (zc0 A) j k < 2 ^ 31 by omega), (p1 _ a3 a1).2, hj]
      exact RQ_to (Rn_iret rfl rfl) ⟨rfl, rfl⟩
    | succ d ih =>
      intro j hj
      obtain ⟨a1, a2⟩ := zanc_pl hO j k hk (by omega)
      have a3 : 1 ≤ zanc (zc0 A) j k := by
        rcases Nat.eq_zero_or_pos (zanc (zc0 A) j k) with y | y
        · rw [y, zpl_0] at a2; omega
        · exact y
      refine RQ_n (ZY_ok P) 2 rfl trivial ?_
      refine RQ_b rfl (fun z => ?_) (fun _ => ?_)
      · have := (zq_le (a := zpl (zc0 A) k - 1 - j) (b := i) rfl rfl (by omega) (by omega)).mp z
        omega
      refine RQ_n (ZY_ok P) 3 rfl trivial ?_
      refine RQ_n (ZY_ok P) 1 rfl ⟨nI_in (by omega) (by omega), trivial⟩ ?_
      rw [nI_clamp (show zanc (zc0 A) j k < 2 ^ 31 by omega), (p1 _ a3 a1).1, ← zanc_s]
      refine RQ_n (ZY_ok P) 3 rfl trivial ?_
      rw [show nI (zpl (zc0 A) k - 1 - j) + (-1) = nI (zpl (zc0 A) k - 1 - (j + 1)) by
        rw [← Int32.sub_eq_add_neg, show (1 : Int32) = nI 1 from rfl, nI_sub (by omega)]; congr 1]
      exact ih (j + 1) (by omega)
  exact key (zpl (zc0 A) k - 1 - i) 0 (by omega)
end XPath
