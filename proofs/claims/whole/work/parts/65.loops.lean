/-! Loops by what is left to do; comparisons of small numbers; an Ev carried into another world. -/
section ZLoop
variable {S : Type} {Z : ZW S} {M : MD} {pc : Nat} {Q : Option Value → S → Prop}
theorem loopD {α : Type} (L : α → List (Option Value)) (J : Nat → α → S → Prop)
    (step : ∀ m x u, J m x u → (∀ m' x' l' u', m' < m → zle (L x') l' → J m' x' u' → RnQ Z M (pc, l', [], u') Q) → RnQ Z M (pc, L x, [], u) Q) : ∀ m x u, J m x u → RnQ Z M (pc, L x, [], u) Q := by
  intro m
  induction m using Nat.strongRecOn with
  | ind m ih =>
    intro x u h
    exact step m x u h (fun m' x' l' u' hm hl h' => RQ_le hl (ih m' hm x' u' h'))
theorem loopU {α : Type} (n : Nat) (L : Nat → α → List (Option Value)) (J : Nat → α → S → Prop)
    (step : ∀ i x u, i ≤ n → J i x u → (i < n → ∀ x' l' u', zle (L (i + 1) x') l' → J (i + 1) x' u' → RnQ Z M (pc, l', [], u') Q) → RnQ Z M (pc, L i x, [], u) Q) : ∀ i x u, i ≤ n → J i x u → RnQ Z M (pc, L i x, [], u) Q := by
  have key : ∀ d i x u, i + d = n → J i x u → RnQ Z M (pc, L i x, [], u) Q := by
    intro d
    induction d with
    | zero => intro i x u hd h; exact step i x u (by omega) h (fun hi => by omega)
    | succ d ih => intro i x u hd h; exact step i x u (by omega) h (fun _ x' l' u' hl h' => RQ_le hl (ih (i + 1) x' u' (by omega) h'))
  intro i x u hi h
  exact key (n - i) i x u (by omega) h
theorem EQ_ev {as : List Value} {s s0 : S} {r0 : Option Value} (h : EvQ Z M as s (fun r u => r = r0 ∧ u = s0)) : Ev Z M as s r0 s0 := by
  obtain ⟨r, u, ⟨rfl, rfl⟩, h⟩ := h
  exact h
theorem EQ_of {as : List Value} {s s' : S} {r : Option Value} (h : Ev Z M as s r s') (hq : Q r s') : EvQ Z M as s Q := ⟨r, s', hq, h⟩
end ZLoop
theorem nIs (i : Nat) : Value.int (nI (i + 1)) = Value.int (nI i + 1) := by rw [nI_succ]
theorem zq_le {a b : Nat} {x y : Int32} (hx : x = nI a) (hy : y = nI b) (ha : a < 2 ^ 31) (hb : b < 2 ^ 31) : x ≤ y ↔ a ≤ b := by rw [hx, hy]; exact nI_leI ha hb
theorem zq_lt {a b : Nat} {x y : Int32} (hx : x = nI a) (hy : y = nI b) (ha : a < 2 ^ 31) (hb : b < 2 ^ 31) : x < y ↔ a < b := by rw [hx, hy]; exact nI_ltI ha hb
theorem zq_eq {a b : Nat} {x y : Int32} (hx : x = nI a) (hy : y = nI b) (ha : a < 2 ^ 31) (hb : b < 2 ^ 31) : x = y ↔ a = b := by rw [hx, hy]; exact nI_eq ha hb
/-- renaming ids in a value, in a cell -/
def zmp (e : Nat → Nat) (c : zc) : zc := match c with
  | .inl (t, a) => .inl (t, zca e a)
  | .inr (ci, fs) => .inr (ci, fs.map (ze e))
theorem ze_ze (e ad : Nat → Nat) (v : Value) : ze ad (ze e v) = ze (fun k => ad (e k)) v := by cases v <;> rfl
theorem zca_zca (e ad : Nat → Nat) (a : vp_A) : zca ad (zca e a) = zca (fun k => ad (e k)) a := by
  obtain ⟨n, a⟩ := a
  rcases a with a | a | a | a | a
  · rfl
  · rfl
  · rfl
  · rfl
  · show (n, _) = (n, _)
    congr 1
    congr 1
    congr 1
    congr 1
    congr 1
    funext i
    show ((a i).map e).map ad = (a i).map (fun k => ad (e k))
    cases a i <;> rfl
theorem zcc_zmp (dA : Nat → ClassId) (e ad : Nat → Nat) (c : zc) : zcc dA ad (zmp e c) = zcc dA (fun k => ad (e k)) c := by
  rcases c with ⟨t, a⟩ | ⟨ci, fs⟩
  · show Sum.inl (dA t, zca ad (zca e a)) = Sum.inl (dA t, zca (fun k => ad (e k)) a)
    rw [zca_zca]
  · show Sum.inr (ci, (fs.map (ze e)).map (ze ad)) = Sum.inr (ci, fs.map (ze (fun k => ad (e k))))
    rw [List.map_map]
    congr 2
    apply List.map_congr_left
    intro v _
    exact ze_ze e ad v
section ZEmb
variable {S1 S2 : Type} {Z1 : ZW S1} {Z2 : ZW S2} {M : MD} {s1 s1' : S1} {s2 s2' : S2} {r : Option Value}
/-- a method's run in a small world is its run in a world that holds the small one (ids renamed by e) -/
theorem Ev_emb (e : Nat → Nat) {as : List Value} (h : Ev Z1 M as s1 r s1')
    (hn : Z2.2.1 s2 ≤ Z2.2.1 s2' ∧ Z2.2.2.1 s2 ≤ Z2.2.2.1 s2') (hc : Z2.2.1 s2' - Z2.2.1 s2 = Z1.2.1 s1' - Z1.2.1 s1) (hs : Z2.2.2.1 s2' - Z2.2.2.1 s2 = Z1.2.2.1 s1' - Z1.2.2.1 s1)
    (he : ∀ k, k < Z1.2.1 s1 → e k < Z2.2.1 s2) (he' : ∀ k, k < Z1.2.1 s1' → e k < Z2.2.1 s2') (heg : ∀ k, Z1.2.1 s1 ≤ k → Z2.2.1 s2 ≤ e k)
    (hei : ∀ j k, j < Z1.2.1 s1 → k < Z1.2.1 s1 → e j = e k → j = k)
    (h1 : ∀ k, k < Z1.2.1 s1 → Z2.1 s2 (e k) = zmp e (Z1.1 s1 k)) (h2 : ∀ k, k < Z1.2.1 s1' → Z2.1 s2' (e k) = zmp e (Z1.1 s1' k))
    (h3 : ∀ b, b < Z2.2.1 s2' → (∃ k, k < Z1.2.1 s1' ∧ b = e k) ∨ (b < Z2.2.1 s2 ∧ (∀ k, k < Z1.2.1 s1 → b ≠ e k) ∧ Z2.1 s2' b = Z2.1 s2 b))
    (hx : ∀ ad ad1 : Nat → Nat, (∀ k, k < Z1.2.1 s1 → ad1 k = ad (e k)) → (∀ k, Z1.2.1 s1' ≤ k → ad1 k = 0) → (∀ b, Z2.2.1 s2 ≤ b → ad b = 0) → ∃ ad' : Nat → Nat, (∀ b, b < Z2.2.1 s2 → ad' b = ad b) ∧ (∀ b, Z2.2.1 s2' ≤ b → ad' b = 0) ∧ ∀ k, ad' (e k) = ad1 k)
    (hy : ∀ (dA : Nat → ClassId) (ad ad' : Nat → Nat) (b : Nat), b < Z2.2.1 s2 → (∀ k, k < Z1.2.1 s1 → b ≠ e k) → (∀ b, b < Z2.2.1 s2 → ad' b = ad b) → (∀ b, Z2.2.1 s2 ≤ b → ad b = 0) → (∀ b, Z2.2.1 s2' ≤ b → ad' b = 0) → zcc dA ad' (Z2.1 s2 b) = zcc dA ad (Z2.1 s2 b)) :
    Ev Z2 M (as.map (ze e)) s2 (r.map (ze e)) s2' := by
  refine ⟨hn, ?_⟩
  intro l dC dI dA ad sz
  rw [hc, hs]
  have hm := h.2 l dC dI dA (fun k => ad (e k)) sz
  unfold Met at hm ⊢
  -- the small world's cells are cells of the large one
  have hcell : ∀ k, k < Z1.2.1 s1 → (zws Z2 dA ad s2)[e k]? = some (ad (e k), zcc dA (fun k => ad (e k)) (Z1.1 s1 k)) := by
    intro k hk
    rw [zws_at (he k hk), h1 k hk, zcc_zmp]
  have hin : ∀ k q, (zws Z1 dA (fun k => ad (e k)) s1)[k]? = some q → k < Z1.2.1 s1 ∧ (zws Z2 dA ad s2)[e k]? = some q := by
    intro k q hq
    have hk : k < Z1.2.1 s1 := by
      apply Classical.byContradiction
      intro z
      rw [List.getElem?_eq_none (by simp [zws]; omega)] at hq
      cases hq
    rw [zws_at hk] at hq
    cases hq
    exact ⟨hk, hcell k hk⟩
  have hsub : ∀ q, va_A (zws Z1 dA (fun k => ad (e k)) s1) sz q → va_A (zws Z2 dA ad s2) sz q := by
    intro q hq
    rcases hq with ⟨k, c, hk⟩ | hq
    · exact Or.inl ⟨e k, c, (hin k _ hk).2⟩
    · exact Or.inr hq
  have hargs : (as.map (ze e)).map (ze ad) = as.map (ze (fun k => ad (e k))) := by
    rw [List.map_map]
    apply List.map_congr_left
    intro v _
    exact ze_ze e ad v
  rw [hargs]
  refine hm.mono ?_ (fun _ _ _ _ _ h => h) ?_
  · intro a U hP
    obtain ⟨q0, q1, qP, qK, qD, qE, qF⟩ := hP
    exact ⟨q0, q1, qP.by e (fun k q hq => (hin k q hq).2), qK, qD.by e (fun k q hq => (hin k q hq).2) (fun i j hi hj hij => by
      simp only [zws, List.length_map, List.length_range] at hi hj
      exact hei i j hi hj hij), fun k hk => qE _ (heg k hk), qF⟩
  · intro a st o t hP hQ
    obtain ⟨q0, q1, qP, qK, qD, qE, qF⟩ := hP
    obtain ⟨⟨⟨ad1, a1, a2, a3, a4, a5, a6⟩, a7, a8⟩, L, b1, b2⟩ := hQ
    obtain ⟨ad', c1, c2, c3⟩ := hx ad ad1 a1 a2 qE
    have hfun : (fun k => ad' (e k)) = ad1 := funext c3
    have hother : ∀ b, b < Z2.2.1 s2 → (∀ k, k < Z1.2.1 s1 → b ≠ e k) → t.heap[ad b]? = st.heap[ad b]? := by
      intro b hb hne
      have hq := qP b _ (zws_at hb)
      have hlt : ad b < st.heap.size := hq.lt
      refine a8 (ad b) hlt (fun hA => ?_)
      rcases hA with ⟨k, c, hk⟩ | hA
      · obtain ⟨hk1, hk2⟩ := hin k _ hk
        exact hne k hk1 (qD.1 b (e k) _ _ (zws_at hb) hk2 rfl)
      · rw [q1] at hlt; omega
    have hnew : ∀ k, k < Z1.2.1 s1' → (zws Z2 dA ad' s2')[e k]? = some (ad1 k, zcc dA ad1 (Z1.1 s1' k)) := by
      intro k hk
      rw [zws_at (he' k hk), h2 k hk, zcc_zmp, hfun, c3]
    have hall : ∀ b q, (zws Z2 dA ad' s2')[b]? = some q → (∃ k, k < Z1.2.1 s1' ∧ b = e k ∧ (zws Z1 dA ad1 s1')[k]? = some q) ∨ (b < Z2.2.1 s2 ∧ (∀ k, k < Z1.2.1 s1 → b ≠ e k) ∧ (zws Z2 dA ad s2)[b]? = some q) := by
      intro b q hq
      have hb : b < Z2.2.1 s2' := by
        apply Classical.byContradiction
        intro z
        rw [List.getElem?_eq_none (by simp [zws]; omega)] at hq
        cases hq
      rcases h3 b hb with ⟨k, hk, rfl⟩ | ⟨hb2, hne, hbe⟩
      · refine Or.inl ⟨k, hk, rfl, ?_⟩
        rw [hnew k hk] at hq
        rw [zws_at hk]
        exact hq
      · refine Or.inr ⟨hb2, hne, ?_⟩
        rw [zws_at hb, hbe, hy dA ad ad' b hb2 hne c1 qE c2, c1 b hb2] at hq
        rw [zws_at hb2]
        exact hq
    refine ⟨⟨⟨ad', c1, c2, ?_, ?_, a5, ?_⟩, a7, fun q hq hA => a8 q hq (fun z => hA (hsub q z))⟩, L, b1, fun q hq => hsub _ (b2 q hq)⟩
    · rw [a3]
      cases r with
      | none => rfl
      | some v =>
        show Outcome.returned (some (ze ad1 v)) = Outcome.returned (some (ze ad' (ze e v)))
        rw [ze_ze, hfun]
    · intro b q hq
      rcases hall b q hq with ⟨k, hk, rfl, hkq⟩ | ⟨hb, hne, hbq⟩
      · exact a4 k q hkq
      · have hq1 := qP b q hbq
        refine hq1.kept ?_
        rw [zws_at hb] at hbq
        cases hbq
        exact hother b hb hne
    · refine ⟨fun i j p q hi hj hpq => ?_, fun b q hq => ?_⟩
      · rcases hall i p hi with ⟨k, hk, rfl, hkq⟩ | ⟨hb, hne, hbq⟩
        · rcases hall j q hj with ⟨k2, hk2, rfl, hkq2⟩ | ⟨hb2, hne2, hbq2⟩
          · rw [a6.1 k k2 p q hkq hkq2 hpq]
          · exfalso
            have hlt := (qP j q hbq2).lt
            rcases a6.2 k p hkq with ⟨k3, c, hk3⟩ | hA
            · obtain ⟨m1, m2⟩ := hin k3 _ hk3
              exact hne2 k3 m1 (qD.1 j (e k3) _ _ hbq2 m2 hpq.symm)
            · rw [hpq] at hA; rw [q1] at hlt; omega
        · rcases hall j q hj with ⟨k2, hk2, rfl, hkq2⟩ | ⟨hb2, hne2, hbq2⟩
          · exfalso
            have hlt := (qP i p hbq).lt
            rcases a6.2 k2 q hkq2 with ⟨k3, c, hk3⟩ | hA
            · obtain ⟨m1, m2⟩ := hin k3 _ hk3
              exact hne k3 m1 (qD.1 i (e k3) _ _ hbq m2 hpq)
            · rw [← hpq] at hA; rw [q1] at hlt; omega
          · exact qD.1 i j p q hbq hbq2 hpq
      · rcases hall b q hq with ⟨k, hk, rfl, hkq⟩ | ⟨hb, hne, hbq⟩
        · exact hsub _ (a6.2 k q hkq)
        · exact va_A.in hbq
end ZEmb
