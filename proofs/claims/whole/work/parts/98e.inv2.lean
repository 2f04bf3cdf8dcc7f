/-! The class's automaton as it arises: a slot more, the queue, a goal. -/
theorem KX.ad {k : Nat → Int32} {d c m : Nat} {u v : SX} (h : KX k d u) (hd : 99 ≤ d) (ha : d + 3 ≤ c ∨ c + 3 ≤ d) (hf : frAd c m u v) : KX k d v :=
  h.fr (hf.1 d 0 (by omega) (by omega)) (hf.2.1 (d + 1) (by omega) (by omega) (by omega) (by omega)) (hf.2.1 (d + 2) (by omega) (by omega) (by omega) (by omega))
theorem isK_up {c n n' : Nat} (h : isKc c n) (hn : n ≤ n') : isKc c n' := by
  rcases h with z | z | ⟨z1, z2, z3⟩
  · exact Or.inl z
  · exact Or.inr (Or.inl z)
  · exact Or.inr (Or.inr ⟨z1, z2, by omega⟩)
theorem frL.ad {h h' : Nat → Nat} {u v : SX} {m c : Nat} (hR : KRw h u) (hR' : KRw h' v) (hm : v.2.2.2.2.2 37 m = some c) (hf : frAd c m u v) : frL u v := by
  obtain ⟨-, hc1, hc2⟩ := hR'.lt hm
  refine ⟨fun b j hb hn => hf.1 b j ?_ (by omega), fun b hb hn => ?_, hf.2.2.1, hf.2.2.2.1, fun a i ha => hf.2.2.2.2.1 a i (fun y => ha y.1), fun a i d ha hd => ?_⟩
  · rintro ⟨rfl, rfl⟩
    exact hn (by decide)
  · simp only [List.mem_cons, List.not_mem_nil, or_false, not_or] at hn
    exact hf.2.1 b hn.2.2.1 hn.2.2.2 (by omega) (by omega)
  have hd' : v.2.2.2.2.2 a i = some d := by rw [hf.2.2.2.2.1 a i (fun y => ha y.1)]; exact hd
  obtain ⟨-, hd1, hd2⟩ := hR'.lt hd'
  have hne : d ≠ c := fun y => ha (hR'.2.1 a 37 i m c (by rw [hd', y]) hm).1
  have := isK_ap hd2 hc2 hne
  exact ⟨hf.1 d 0 (by omega) (by omega), hf.2.1 (d + 1) (by omega) (by omega) (by omega) (by omega), hf.2.1 (d + 2) (by omega) (by omega) (by omega) (by omega)⟩
/-- a slot more; its goals none -/
theorem XA_add {P : YP} {m c : Nat} {K : Nat → Nat → Int32} {go : Nat → Nat → Option Nat} {q : List Nat} {u v : SX} {N : Nat → Int32} (hX : XA P (m, K, go, q) u) (h5 : v.1 36 5 = nI (m + 1)) (hrow : v.2.2.2.2.2 37 m = some c) (hc : 99 ≤ c ∧ isKc c v.2.2.2.2.1) (hK : KX N c v) (hf : frAd c m u v) (hY : YR P v) {h' : Nat → Nat} (hR : KRw h' v) (hm' : m + 1 ≤ h' 37 ∧ h' 37 ≤ 200)
    (hcore : v.2.1 38 m = nI ((zfst (fun i => zcB (zco (K i) N)) m).getD m) ∧ ∀ i, i ≠ m → v.2.1 38 i = u.2.1 38 i) (hgo : ∀ j, v.2.1 40 j = if 14 * m ≤ j ∧ j < 14 * m + 14 then -1 else u.2.1 40 j) :
    XA P (m + 1, zKU K m N, fun s b => if s = m then none else go s b, q) v := by
  obtain ⟨h1, ⟨kc, hks⟩, h3, h4, hq, h6, h, h7, h8⟩ := hX
  dsimp only at h1 hks h3 h4 hq h8
  have hc99 : 99 ≤ c := hc.1
  have ap : ∀ i, i < m → kc i + 3 ≤ c ∨ c + 3 ≤ kc i := fun i hi => by
    obtain ⟨i1, i2, i3⟩ := hks.1 i hi
    have e1 : v.2.2.2.2.2 37 i = some (kc i) := by rw [hf.2.2.2.2.1 37 i (by omega)]; exact i1
    have hne : kc i ≠ c := fun y => by
      have := (hR.2.1 37 37 i m c (by rw [e1, y]) hrow).2
      omega
    exact isK_ap (isK_up i2.2 hf.2.2.2.2.2) hc.2 hne
  refine ⟨h5, ⟨fun i => if i = m then c else kc i, fun i hi => ?_, fun i j hi hj e => ?_⟩, fun i hi => ?_, fun s hs b hb => ?_, ?_, hY, h', hR, hm'⟩
  · show v.2.2.2.2.2 37 i = some (if i = m then c else kc i) ∧ (99 ≤ (if i = m then c else kc i) ∧ isKc (if i = m then c else kc i) _) ∧ KX (if i = m then N else K i) (if i = m then c else kc i) v
    have hi : i < m + 1 := hi
    by_cases z : i = m
    · rw [if_pos z, if_pos z, z]; exact ⟨hrow, hc, hK⟩
    · rw [if_neg z, if_neg z]
      obtain ⟨i1, i2, i3⟩ := hks.1 i (by omega)
      exact ⟨by rw [hf.2.2.2.2.1 37 i (by omega)]; exact i1, ⟨i2.1, isK_up i2.2 hf.2.2.2.2.2⟩, i3.ad i2.1 (ap i (by omega)) hf⟩
  · have hi : i < m + 1 := hi
    have hj : j < m + 1 := hj
    dsimp only at e
    by_cases z : i = m
    · by_cases y : j = m
      · omega
      · rw [if_pos z, if_neg y] at e
        have := ap j (by omega)
        omega
    · by_cases y : j = m
      · rw [if_neg z, if_pos y] at e
        have := ap i (by omega)
        omega
      · rw [if_neg z, if_neg y] at e
        exact hks.2 i j (by omega) (by omega) e
  · have hi : i < m + 1 := hi
    have eN : zKU K m N m = N := if_pos rfl
    have eK : ∀ x, x < m → zKU K m N x = K x := fun x hx => if_neg (by omega)
    by_cases z : i = m
    · subst z
      cases hz : zfst (fun x => zcB (zco (K x) N)) i with
      | none =>
        rw [hz] at hcore
        refine ⟨i, hcore.1, Nat.le_refl _, zco_rf, fun x hx y => ?_⟩
        have := zfst_n.mp hz x hx
        have y : zco (zKU K i N x) (zKU K i N i) := y
        rw [eN, eK x hx] at y
        rw [zcB_t y] at this
        cases this
      | some c0 =>
        rw [hz] at hcore
        obtain ⟨z1, z2, z3⟩ := zfst_s hz
        refine ⟨c0, hcore.1, by omega, ?_, fun x hx y => ?_⟩
        · show zco (zKU K i N c0) (zKU K i N i)
          rw [eN, eK c0 z1]
          exact Classical.byContradiction (fun y => by rw [zcB_f y] at z2; cases z2)
        · have := z3 x hx
          have y : zco (zKU K i N x) (zKU K i N i) := y
          rw [eN, eK x (by omega)] at y
          rw [zcB_t y] at this
          cases this
    · obtain ⟨c0, c1, c2, c3, c4⟩ := h3 i (by omega)
      refine ⟨c0, by rw [hcore.2 i z]; exact c1, c2, ?_, fun x hx y => c4 x hx ?_⟩
      · show zco (zKU K m N c0) (zKU K m N i)
        rw [eK c0 (by omega), eK i (by omega)]; exact c3
      · have y : zco (zKU K m N x) (zKU K m N i) := y
        rw [eK x (by omega), eK i (by omega)] at y; exact y
  · have hs : s < m + 1 := hs
    rw [hgo]
    show _ = fI (if s = m then none else go s b)
    by_cases z : s = m
    · rw [if_pos (by omega), if_pos z]; rfl
    · rw [if_neg (by omega), if_neg z]; exact h4 s (by omega) b hb
  · obtain ⟨hd, q1, q2, q3, q4, q5⟩ := hq
    exact ⟨hd, q1, (hf.1 25 3 (by omega) (by omega)).trans q2, (hf.1 25 4 (by omega) (by omega)).trans q3, by rw [hf.2.1 26 (by omega) (by omega) (by omega) (by omega)]; exact q4, by rw [hf.2.1 27 (by omega) (by omega) (by omega) (by omega)]; exact q5⟩
/-- another queue -/
theorem XA_queue {P : YP} {m : Nat} {K : Nat → Nat → Int32} {go : Nat → Nat → Option Nat} {q q' : List Nat} {u v : SX} (hX : XA P (m, K, go, q) u) (hq : XQu q' v) (hf : frX [(25, 4)] [26, 27] u v) : XA P (m, K, go, q') v := by
  obtain ⟨h1, ⟨kc, hks⟩, h3, h4, -, h6, h, h7, h8⟩ := hX
  dsimp only at h1 hks h3 h4 h8
  refine ⟨(hf.1 36 5 (by decide)).trans h1, ⟨kc, fun i hi => ?_, hks.2⟩, fun i hi => ?_, fun s hs b hb => ?_, hq, h6.fr hf.2.2, h, h7.fr hf.2.2, h8⟩
  · obtain ⟨i1, i2, i3⟩ := hks.1 i hi
    have hc99 : 99 ≤ kc i := i2.1
    refine ⟨by rw [hf.2.2]; exact i1, by rw [hf.2.2]; exact i2, i3.fr (hf.1 _ _ ?_) (hf.2.1 _ ?_) (hf.2.1 _ ?_)⟩
    · simp only [List.mem_cons, List.not_mem_nil, or_false, Prod.mk.injEq]; omega
    · simp only [List.mem_cons, List.not_mem_nil, or_false]; omega
    · simp only [List.mem_cons, List.not_mem_nil, or_false]; omega
  · obtain ⟨c, c1, c2⟩ := h3 i hi
    exact ⟨c, by rw [hf.2.1 38 (by decide)]; exact c1, c2⟩
  · rw [hf.2.1 40 (by decide)]; exact h4 s hs b hb
/-- a goal is set -/
theorem XA_goal {P : YP} {m s b t : Nat} {K : Nat → Nat → Int32} {go : Nat → Nat → Option Nat} {q : List Nat} {u : SX} (hX : XA P (m, K, go, q) u) (hb : b < 14) : XA P (m, K, zgU go s b t, q) (u.1, updA u.2.1 40 (14 * s + b) (nI t), u.2.2) := by
  obtain ⟨h1, ⟨kc, hks⟩, h3, h4, hq, h6, h, h7, h8⟩ := hX
  dsimp only at h1 hks h3 h4 hq h8
  have lo : ∀ a, a ≠ 40 → updA u.2.1 40 (14 * s + b) (nI t) a = u.2.1 a := fun a ha => updA_ne ha
  refine ⟨h1, ⟨kc, fun i hi => ?_, hks.2⟩, fun i hi => ?_, fun s' hs b' hb' => ?_, ?_, h6.fr rfl, h, h7.fr rfl, h8⟩
  · obtain ⟨i1, i2, i3⟩ := hks.1 i hi
    have hc99 : 99 ≤ kc i := i2.1
    exact ⟨i1, i2, i3.fr rfl (lo _ (by omega)) (lo _ (by omega))⟩
  · obtain ⟨c, c1, c2⟩ := h3 i hi
    exact ⟨c, by show updA u.2.1 40 (14 * s + b) (nI t) 38 i = _; rw [lo 38 (by omega)]; exact c1, c2⟩
  · show updA u.2.1 40 (14 * s + b) (nI t) 40 (14 * s' + b') = fI (if s' = s ∧ b' = b then some t else go s' b')
    rw [updA_eq]
    by_cases z : s' = s ∧ b' = b
    · rw [if_pos z, z.1, z.2, upd_at]; rfl
    · rw [if_neg z, upd_ne (by omega)]; exact h4 s' hs b' hb'
  · obtain ⟨hd, q1, q2, q3, q4, q5⟩ := hq
    refine ⟨hd, q1, q2, q3, ?_, ?_⟩
    · show ∀ j, j < q.length → updA u.2.1 40 (14 * s + b) (nI t) 26 _ = _
      rw [lo 26 (by omega)]; exact q4
    · show ∀ x, x < 200 → updA u.2.1 40 (14 * s + b) (nI t) 27 x = _
      rw [lo 27 (by omega)]; exact q5
