/-! Contracts by what holds at the end: RnQ, EvQ; what a method leaves as it was: frM. -/
section ZHoare
variable {S : Type} {Z : ZW S} {M M' : MD} {pc nx n tg : Nat} {i : Instr} {v : Int32} {l l' : List (Option Value)} {st st' : List Value} {s s' sE s1 : S} {r r1 : Option Value} {Q Q1 : Option Value → S → Prop}
def RnQ (Z : ZW S) (M : MD) (f : ZF S) (Q : Option Value → S → Prop) : Prop := ∃ (r : Option Value) (s' : S), Q r s' ∧ Rn Z M f r s'
def EvQ (Z : ZW S) (M : MD) (as : List Value) (s : S) (Q : Option Value → S → Prop) : Prop := ∃ (r : Option Value) (s' : S), Q r s' ∧ Ev Z M as s r s'
theorem RQ_n (hZ : ZOk Z) (n : Nat) {f f' : ZF S} {P : Prop} (h : zsn Z M n f = some (P, f')) (hP : P) (k : RnQ Z M f' Q) : RnQ Z M f Q := by
  obtain ⟨r, s', hq, hr⟩ := k
  exact ⟨r, s', hq, Rn_n hZ n h hP hr⟩
theorem RQ_b {f fa fb : ZF S} {c : Prop} (h : zb1 M f = some (c, fa, fb)) (ht : c → RnQ Z M fa Q) (hf : ¬ c → RnQ Z M fb Q) : RnQ Z M f Q := by
  by_cases hc : c
  · obtain ⟨r, s', hq, hr⟩ := ht hc
    exact ⟨r, s', hq, Rn_b h (fun _ => hr) (fun q => absurd hc q)⟩
  · obtain ⟨r, s', hq, hr⟩ := hf hc
    exact ⟨r, s', hq, Rn_b h (fun q => absurd q hc) (fun _ => hr)⟩
theorem RQ_V (hM : ZMV M' n) {idx b : Nat} {as stk : List Value} (ev : EvQ Z M' (.ref b :: as) s Q1) (hfe : zfe M pc = some (.invokevirtual idx, 3, nx, tg, v)) (hlk : Cond.methodLink M.2.1.cls idx M'.2.1 ∈ zT)
    (hst : stk = as.reverse ++ .ref b :: st) (hn : as.length = n) (hcr : zcr M M' st = true) (hrc : zrc Z M' s b = true) (hg : ∀ r1 s1, Q1 r1 s1 → Z.2.1 s1 = Z.2.1 s)
    (k : ∀ r1 s1, Q1 r1 s1 → RnQ Z M (nx, l, r1.toList ++ st, s1) Q) : RnQ Z M (pc, l, stk, s) Q := by
  obtain ⟨r1, s1, hq1, hev⟩ := ev
  obtain ⟨r, s', hq, hr⟩ := k r1 s1 hq1
  exact ⟨r, s', hq, Rn_V hM hev hfe hlk hst hn hcr hrc (hg r1 s1 hq1) hr⟩
theorem RQ_S (hM : ZMT M' n) {idx : Nat} {as stk : List Value} (ev : EvQ Z M' as s Q1) (hfe : zfe M pc = some (.invokestatic idx, 3, nx, tg, v)) (hlk : Cond.methodLink M.2.1.cls idx M'.2.1 ∈ zT)
    (hst : stk = as.reverse ++ st) (hn : as.length = n) (hcr : zcr M M' st = true) (hg : ∀ r1 s1, Q1 r1 s1 → Z.2.1 s1 = Z.2.1 s)
    (k : ∀ r1 s1, Q1 r1 s1 → RnQ Z M (nx, l, r1.toList ++ st, s1) Q) : RnQ Z M (pc, l, stk, s) Q := by
  obtain ⟨r1, s1, hq1, hev⟩ := ev
  obtain ⟨r, s', hq, hr⟩ := k r1 s1 hq1
  exact ⟨r, s', hq, Rn_S hM hev hfe hlk hst hn hcr (hg r1 s1 hq1) hr⟩
/-- calls whose end is known -/
theorem RQ_v (hM : ZMV M' n) {idx b : Nat} {as stk : List Value} (ev : Ev Z M' (.ref b :: as) s r1 s1) (hfe : zfe M pc = some (.invokevirtual idx, 3, nx, tg, v)) (hlk : Cond.methodLink M.2.1.cls idx M'.2.1 ∈ zT)
    (hst : stk = as.reverse ++ .ref b :: st) (hn : as.length = n) (hcr : zcr M M' st = true) (hrc : zrc Z M' s b = true) (hg : Z.2.1 s1 = Z.2.1 s)
    (k : RnQ Z M (nx, l, r1.toList ++ st, s1) Q) : RnQ Z M (pc, l, stk, s) Q := by
  obtain ⟨r, s', hq, hr⟩ := k
  exact ⟨r, s', hq, Rn_V hM ev hfe hlk hst hn hcr hrc hg hr⟩
theorem RQ_s (hM : ZMT M' n) {idx : Nat} {as stk : List Value} (ev : Ev Z M' as s r1 s1) (hfe : zfe M pc = some (.invokestatic idx, 3, nx, tg, v)) (hlk : Cond.methodLink M.2.1.cls idx M'.2.1 ∈ zT)
    (hst : stk = as.reverse ++ st) (hn : as.length = n) (hcr : zcr M M' st = true) (hg : Z.2.1 s1 = Z.2.1 s)
    (k : RnQ Z M (nx, l, r1.toList ++ st, s1) Q) : RnQ Z M (pc, l, stk, s) Q := by
  obtain ⟨r, s', hq, hr⟩ := k
  exact ⟨r, s', hq, Rn_S hM ev hfe hlk hst hn hcr hg hr⟩
theorem RQ_to {f : ZF S} (k : Rn Z M f r s') (h : Q r s') : RnQ Z M f Q := ⟨r, s', h, k⟩
theorem RQ_le (hl : zle l' l) (k : RnQ Z M (pc, l', st, s) Q) : RnQ Z M (pc, l, st, s) Q := by
  obtain ⟨r, s', hq, hr⟩ := k
  exact ⟨r, s', hq, Rn_le hl hr⟩
theorem RQ_mono {f : ZF S} (k : RnQ Z M f Q1) (h : ∀ r s', Q1 r s' → Q r s') : RnQ Z M f Q := by
  obtain ⟨r, s', hq, hr⟩ := k
  exact ⟨r, s', h r s' hq, hr⟩
theorem EQ_V {as : List Value} (hM : ZMV M n) (hn : Nat.ble (zarg as).length M.2.2.2.1 = true) (h : RnQ Z M (0, zargs M.2.2.2.1 as, [], s) Q) : EvQ Z M as s Q := by
  obtain ⟨r, s', hq, hr⟩ := h
  exact ⟨r, s', hq, Ev_V hM hn hr⟩
theorem EQ_T {as : List Value} (hM : ZMT M n) (hn : Nat.ble (zarg as).length M.2.2.2.1 = true) (h : RnQ Z M (0, zargs M.2.2.2.1 as, [], s) Q) : EvQ Z M as s Q := by
  obtain ⟨r, s', hq, hr⟩ := h
  exact ⟨r, s', hq, Ev_T hM hn hr⟩
theorem EQ_mono {as : List Value} (k : EvQ Z M as s Q1) (h : ∀ r s', Q1 r s' → Q r s') : EvQ Z M as s Q := by
  obtain ⟨r, s', hq, hr⟩ := k
  exact ⟨r, s', h r s' hq, hr⟩
end ZHoare
/-- the reference: all is as it was but these fields and arrays -/
def frM (ks as : List Nat) (s s' : SM) : Prop := (∀ b, b ∉ ks → s'.1 b = s.1 b) ∧ (∀ a, a ∉ as → s'.2.1 a = s.2.1 a) ∧ s'.2.2 = s.2.2
theorem frM.rf {ks as : List Nat} {s : SM} : frM ks as s s := ⟨fun _ _ => rfl, fun _ _ => rfl, rfl⟩
theorem frM.tr {ks as : List Nat} {s s1 s2 : SM} (h1 : frM ks as s s1) (h2 : frM ks as s1 s2) : frM ks as s s2 := ⟨fun b hb => (h2.1 b hb).trans (h1.1 b hb), fun a ha => (h2.2.1 a ha).trans (h1.2.1 a ha), h2.2.2.trans h1.2.2⟩
theorem frM.up {ks as ks2 as2 : List Nat} {s s1 : SM} (h1 : frM ks as s s1) (hk : ∀ b ∈ ks, b ∈ ks2) (ha : ∀ a ∈ as, a ∈ as2) : frM ks2 as2 s s1 := ⟨fun b hb => h1.1 b (fun q => hb (hk b q)), fun a hb => h1.2.1 a (fun q => hb (ha a q)), h1.2.2⟩
theorem updS_at {f : Nat → Int32} {k : Nat} {x : Int32} : updS f k x k = x := by unfold updS; rw [Nat.beq_refl]; rfl
theorem updS_ne {f : Nat → Int32} {k b : Nat} {x : Int32} (h : b ≠ k) : updS f k x b = f b := by
  unfold updS
  cases hb : Nat.beq b k with
  | true => exact absurd (Nat.eq_of_beq_eq_true hb) h
  | false => rfl
theorem frM.i {ks as : List Nat} {s : SM} (k : Nat) {x : Int32} (h : k ∈ ks) : frM ks as s (updS s.1 k x, s.2) := ⟨fun b hb => updS_ne (fun q => hb (by rw [q]; exact h)), fun _ _ => rfl, rfl⟩
theorem frM.a {ks as : List Nat} {s : SM} (k : Nat) {j : Nat} {x : Int32} (h : k ∈ as) : frM ks as s (s.1, updA s.2.1 k j x, s.2.2) := ⟨fun _ _ => rfl, fun b hb => updA_ne (fun q => hb (by rw [q]; exact h)), rfl⟩
/-- the class: the same; cells and slots, cells of arrays -/
def frX (ks : List (Nat × Nat)) (as : List Nat) (s s' : SX) : Prop := (∀ c b, (c, b) ∉ ks → s'.1 c b = s.1 c b) ∧ (∀ a, a ∉ as → s'.2.1 a = s.2.1 a) ∧ s'.2.2 = s.2.2
theorem frX.rf {ks : List (Nat × Nat)} {as : List Nat} {s : SX} : frX ks as s s := ⟨fun _ _ _ => rfl, fun _ _ => rfl, rfl⟩
theorem frX.tr {ks : List (Nat × Nat)} {as : List Nat} {s s1 s2 : SX} (h1 : frX ks as s s1) (h2 : frX ks as s1 s2) : frX ks as s s2 := ⟨fun c b hb => (h2.1 c b hb).trans (h1.1 c b hb), fun a ha => (h2.2.1 a ha).trans (h1.2.1 a ha), h2.2.2.trans h1.2.2⟩
theorem frX.up {ks ks2 : List (Nat × Nat)} {as as2 : List Nat} {s s1 : SX} (h1 : frX ks as s s1) (hk : ∀ b ∈ ks, b ∈ ks2) (ha : ∀ a ∈ as, a ∈ as2) : frX ks2 as2 s s1 := ⟨fun c b hb => h1.1 c b (fun q => hb (hk _ q)), fun a hb => h1.2.1 a (fun q => hb (ha a q)), h1.2.2⟩
theorem frX.n {ks : List (Nat × Nat)} {as : List Nat} {s s' : SX} (h : frX ks as s s') : ZX.2.1 s' = ZX.2.1 s := by
  show 3 * s'.2.2.2.2.1 + 99 = 3 * s.2.2.2.2.1 + 99
  rw [h.2.2]
theorem frX.i {ks : List (Nat × Nat)} {as : List Nat} {s : SX} (c b : Nat) {x : Int32} (h : (c, b) ∈ ks) : frX ks as s (updI s.1 c b x, s.2) := by
  refine ⟨fun c' b' hb => ?_, fun _ _ => rfl, rfl⟩
  show updI s.1 c b x c' b' = s.1 c' b'
  by_cases hc : c' = c
  · subst hc
    rw [updI_eq]
    exact updS_ne (fun q => hb (by rw [q]; exact h))
  · rw [updI_ne hc]
theorem frX.a {ks : List (Nat × Nat)} {as : List Nat} {s : SX} (k : Nat) {j : Nat} {x : Int32} (h : k ∈ as) : frX ks as s (s.1, updA s.2.1 k j x, s.2.2) := ⟨fun _ _ _ => rfl, fun b hb => updA_ne (fun q => hb (by rw [q]; exact h)), rfl⟩
theorem zx11 {MX : MD} (sX : SX) (h : MX.1 = 9) : zrc ZX MX sX 11 = true := by
  show (Nat.beq 9 MX.1 && Nat.blt 11 (3 * sX.2.2.2.2.1 + 99)) = true
  rw [h, Bool.and_eq_true]
  exact ⟨rfl, Nat.ble_eq_true_of_le (by omega)⟩
theorem zx1 {MX : MD} (sX : SX) (h : MX.1 = 10) : zrc ZX MX sX 1 = true := by
  show (Nat.beq 10 MX.1 && Nat.blt 1 (3 * sX.2.2.2.2.1 + 99)) = true
  rw [h, Bool.and_eq_true]
  exact ⟨rfl, Nat.ble_eq_true_of_le (by omega)⟩
