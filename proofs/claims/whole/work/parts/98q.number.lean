/-! The class: number. -/
theorem y_addNumber {P : YP} (u : SX) {n s : Nat} {o : Option Nat} {y : Int32} (hn : n < 200) (hs : s < 200) (ho : ∀ k, o = some k → k < 200 ∧ k ≠ n) (h10 : u.1 36 10 = nI n) : EvQ (ZY P) mX1_addNumber [.ref 36, .int (nI s), .int (fI o), .int y] u (fun x v => x = none ∧ v.1 36 10 = nI (n + 1) ∧ v.2.1 42 = upd (u.2.1 42) s (nI n) ∧ v.2.1 41 = upd (u.2.1 41) n (nI s) ∧ v.2.1 43 = upd (u.2.1 43) n (fI o) ∧ v.2.1 44 = upd (u.2.1 44) n y ∧ v.2.1 45 = upd (u.2.1 45) n (match o with | none => 0 | some k => u.2.1 45 k + 1) ∧ frX [(36, 10)] [41, 42, 43, 44, 45] u v) := by
  refine EQ_V vX1_addNumber rfl ?_
  refine RQ_n (ZY_ok P) 5 rfl trivial ?_
  rw [h10]
  refine RQ_n (ZY_ok P) 1 rfl ⟨nI_in (by omega) (by omega), trivial⟩ ?_
  rw [nI_clamp (show s < 2 ^ 31 by omega)]
  obtain ⟨v1, hv1⟩ : ∃ w : SX, w = (u.1, updA u.2.1 42 s (nI n), u.2.2) := ⟨_, rfl⟩
  rw [← hv1]
  have i1 : v1.1 36 10 = nI n := by rw [hv1]; exact h10
  refine RQ_n (ZY_ok P) 5 rfl trivial ?_
  rw [i1]
  refine RQ_n (ZY_ok P) 1 rfl ⟨nI_in (by omega) (by omega), trivial⟩ ?_
  rw [nI_clamp (show n < 2 ^ 31 by omega)]
  obtain ⟨v2, hv2⟩ : ∃ w : SX, w = (v1.1, updA v1.2.1 41 n (nI s), v1.2.2) := ⟨_, rfl⟩
  rw [← hv2]
  have i2 : v2.1 36 10 = nI n := by rw [hv2]; exact i1
  refine RQ_n (ZY_ok P) 5 rfl trivial ?_
  rw [i2]
  refine RQ_n (ZY_ok P) 1 rfl ⟨nI_in (by omega) (by omega), trivial⟩ ?_
  rw [nI_clamp (show n < 2 ^ 31 by omega)]
  obtain ⟨v3, hv3⟩ : ∃ w : SX, w = (v2.1, updA v2.2.1 43 n (fI o), v2.2.2) := ⟨_, rfl⟩
  rw [← hv3]
  have i3 : v3.1 36 10 = nI n := by rw [hv3]; exact i2
  refine RQ_n (ZY_ok P) 5 rfl trivial ?_
  rw [i3]
  refine RQ_n (ZY_ok P) 1 rfl ⟨nI_in (by omega) (by omega), trivial⟩ ?_
  rw [nI_clamp (show n < 2 ^ 31 by omega)]
  obtain ⟨v4, hv4⟩ : ∃ w : SX, w = (v3.1, updA v3.2.1 44 n y, v3.2.2) := ⟨_, rfl⟩
  rw [← hv4]
  have i4 : v4.1 36 10 = nI n := by rw [hv4]; exact i3
  have f4 : frX [(36, 10)] [41, 42, 43, 44, 45] u v4 := by
    rw [hv4]; refine (frX.tr ?_ (frX.a 44 (by decide)))
    rw [hv3]; refine (frX.tr ?_ (frX.a 43 (by decide)))
    rw [hv2]; refine (frX.tr ?_ (frX.a 41 (by decide)))
    rw [hv1]; exact frX.a 42 (by decide)
  have a42 : v4.2.1 42 = upd (u.2.1 42) s (nI n) := by rw [hv4, hv3, hv2, hv1]; rfl
  have a41 : v4.2.1 41 = upd (u.2.1 41) n (nI s) := by rw [hv4, hv3, hv2, hv1]; rfl
  have a43 : v4.2.1 43 = upd (u.2.1 43) n (fI o) := by rw [hv4, hv3, hv2, hv1]; rfl
  have a44 : v4.2.1 44 = upd (u.2.1 44) n y := by rw [hv4, hv3, hv2, hv1]; rfl
  have a45 : v4.2.1 45 = u.2.1 45 := by rw [hv4, hv3, hv2, hv1]; rfl
  refine RQ_n (ZY_ok P) 6 rfl trivial ?_
  rw [i4]
  have fin : ∀ x : Int32, x = (match o with | none => 0 | some k => u.2.1 45 k + 1) → RnQ (ZY P) mX1_addNumber (65, [some (.ref 36), some (.int (nI s)), some (.int (fI o)), some (.int y)], [.int x, .int (nI n), .ref 45], v4) (fun x v => x = none ∧ v.1 36 10 = nI (n + 1) ∧ v.2.1 42 = upd (u.2.1 42) s (nI n) ∧ v.2.1 41 = upd (u.2.1 41) n (nI s) ∧ v.2.1 43 = upd (u.2.1 43) n (fI o) ∧ v.2.1 44 = upd (u.2.1 44) n y ∧ v.2.1 45 = upd (u.2.1 45) n (match o with | none => 0 | some k => u.2.1 45 k + 1) ∧ frX [(36, 10)] [41, 42, 43, 44, 45] u v) := by
    intro x hx
    refine RQ_n (ZY_ok P) 1 rfl ⟨nI_in (by omega) (by omega), trivial⟩ ?_
    rw [nI_clamp (show n < 2 ^ 31 by omega)]
    obtain ⟨v5, hv5⟩ : ∃ w : SX, w = (v4.1, updA v4.2.1 45 n x, v4.2.2) := ⟨_, rfl⟩
    rw [← hv5]
    have i5 : v5.1 36 10 = nI n := by rw [hv5]; exact i4
    refine RQ_n (ZY_ok P) 6 rfl trivial ?_
    rw [i5, show nI n + 1 = nI (n + 1) from nI_add n 1]
    refine RQ_to (Rn_vret rfl rfl) ⟨rfl, ?_, ?_, ?_, ?_, ?_, ?_, ?_⟩
    · show updI v5.1 36 10 (nI (n + 1)) 36 10 = _
      rw [updI_eq, updS_at]
    · show v5.2.1 42 = _
      rw [hv5]; exact a42
    · show v5.2.1 41 = _
      rw [hv5]; exact a41
    · show v5.2.1 43 = _
      rw [hv5]; exact a43
    · show v5.2.1 44 = _
      rw [hv5]; exact a44
    · show v5.2.1 45 = _
      rw [hv5, ← hx]
      show upd (v4.2.1 45) n x = _
      rw [a45]
    · refine frX.tr ?_ (frX.i 36 10 (by decide))
      rw [hv5]
      exact f4.tr (frX.a 45 (by decide))
  cases o with
  | none =>
    refine RQ_b rfl (fun z => absurd (show (-1 : Int32) = -1 from rfl) z) (fun _ => ?_)
    refine RQ_n (ZY_ok P) 2 rfl trivial ?_
    exact fin 0 rfl
  | some k =>
    have hk := ho k rfl
    refine RQ_b rfl (fun _ => ?_) (fun z => absurd (Classical.not_not.mp z) (nI_m1 (a := k) (by omega)))
    refine RQ_n (ZY_ok P) 3 rfl trivial ?_
    refine RQ_n (ZY_ok P) 1 rfl ⟨nI_in (by omega) (by omega), trivial⟩ ?_
    rw [show (fI (some k)).toNatClampNeg = k from nI_clamp (by omega)]
    refine RQ_n (ZY_ok P) 2 rfl trivial ?_
    refine fin (v4.2.1 45 k + 1) ?_
    rw [a45]
/-- the numbers told before the step e -/
def XNb (A : ZAS) (e : Nat) (v : SX) : Prop :=
  v.1 36 10 = nI (zc0 A e) ∧ (∀ j, j < zc0 A e → v.2.1 41 j = nI ((znl A.2.2.1 e).getD j 0) ∧ v.2.1 42 ((znl A.2.2.1 e).getD j 0) = nI j) ∧ (∀ t, t < 200 → t ∉ znl A.2.2.1 e → v.2.1 42 t = -1) ∧ v.2.1 45 0 = 0 ∧
  ∀ t, 1 ≤ t → t < zc0 A e → ∃ f, f < e ∧ f / 14 < t ∧ zc0 A f = t ∧ zc0 A (f + 1) = t + 1 ∧ v.2.1 43 t = nI (f / 14) ∧ v.2.1 44 t = nI (f % 14) ∧ v.2.1 45 t = v.2.1 45 (f / 14) + 1
theorem XNb_id {A : ZAS} {e : Nat} {v : SX} (h : XNb A e v) (hs : znl A.2.2.1 (e + 1) = znl A.2.2.1 e) : XNb A (e + 1) v := by
  obtain ⟨h1, h2, h3, h4, h5⟩ := h
  have hc : zc0 A (e + 1) = zc0 A e := by unfold zc0; rw [hs]
  unfold XNb
  rw [hc, hs]
  refine ⟨h1, h2, h3, h4, fun t ht1 ht2 => ?_⟩
  obtain ⟨f, a, b⟩ := h5 t ht1 ht2
  exact ⟨f, by omega, b⟩
theorem XNb_up {G : ZGT} {A : ZAS} (hA : ZAI G A) {k b t : Nat} {u v : SX} (h : XNb A (14 * k + b) u) (hb : b < 14) (hk : k < zc0 A (14 * k + b)) (ht : t ∉ znl A.2.2.1 (14 * k + b)) (htm : t < 200) (hs : znl A.2.2.1 (14 * k + b + 1) = znl A.2.2.1 (14 * k + b) ++ [t])
    (a1 : v.1 36 10 = nI (zc0 A (14 * k + b) + 1)) (a2 : v.2.1 42 = upd (u.2.1 42) t (nI (zc0 A (14 * k + b)))) (a3 : v.2.1 41 = upd (u.2.1 41) (zc0 A (14 * k + b)) (nI t)) (a4 : v.2.1 43 = upd (u.2.1 43) (zc0 A (14 * k + b)) (nI k)) (a5 : v.2.1 44 = upd (u.2.1 44) (zc0 A (14 * k + b)) (nI b)) (a6 : v.2.1 45 = upd (u.2.1 45) (zc0 A (14 * k + b)) (u.2.1 45 k + 1)) : XNb A (14 * k + b + 1) v := by
  obtain ⟨h1, h2, h3, h4, h5⟩ := h
  obtain ⟨o1, o2, o3, o4⟩ := zL_ok hA (14 * k + b)
  have hc : zc0 A (14 * k + b + 1) = zc0 A (14 * k + b) + 1 := by unfold zc0; rw [hs, List.length_append]; rfl
  obtain ⟨L, hL⟩ : ∃ L, L = znl A.2.2.1 (14 * k + b) := ⟨_, rfl⟩
  obtain ⟨c, hcc⟩ : ∃ c, c = zc0 A (14 * k + b) := ⟨_, rfl⟩
  have hcL : c = L.length := by rw [hcc, hL]; rfl
  have hco := hc
  rw [← hcc] at hk h1 h2 h5 hc a1 a2 a3 a4 a5 a6
  rw [← hL] at o1 o2 o3 o4 ht hs h2 h3
  unfold XNb
  rw [hc, hs]
  refine ⟨a1, fun j hj => ?_, fun x hx hn => ?_, ?_, fun x hx1 hx2 => ?_⟩
  · by_cases y : j = c
    · subst y
      rw [getD_app, if_neg (by omega), if_pos hcL, a3, a2, upd_at, upd_at]
      exact ⟨rfl, rfl⟩
    · obtain ⟨b1, b2⟩ := h2 j (by omega)
      rw [getD_pre (by omega), a3, a2, upd_ne (by omega), upd_ne (fun w => ht (by rw [← w]; exact mem_getD (by omega)))]
      exact ⟨b1, b2⟩
  · have hne : x ≠ t := fun w => hn (List.mem_append.mpr (Or.inr (by rw [w]; exact List.mem_singleton.mpr rfl)))
    rw [a2, upd_ne hne]
    exact h3 x hx (fun w => hn (List.mem_append.mpr (Or.inl w)))
  · rw [a6, upd_ne (by omega)]; exact h4
  · by_cases y : x = c
    · refine ⟨14 * k + b, by omega, by omega, by omega, by omega, ?_, ?_, ?_⟩
      · rw [a4, y, upd_at, show (14 * k + b) / 14 = k by omega]
      · rw [a5, y, upd_at, show (14 * k + b) % 14 = b by omega]
      · rw [a6, y, upd_at, show (14 * k + b) / 14 = k by omega, upd_ne (by omega)]
    · obtain ⟨f, b1, b2, b3, b4, b5, b6, b7⟩ := h5 x hx1 (by omega)
      refine ⟨f, by omega, b2, b3, b4, ?_, ?_, ?_⟩
      · rw [a4, upd_ne y]; exact b5
      · rw [a5, upd_ne y]; exact b6
      · rw [a6, upd_ne y, upd_ne (by omega)]; exact b7
set_option maxHeartbeats 1000000 in
theorem y_number {P : YP} {G : ZGT} {A : ZAS} {u : SX} (hA : ZAI G A) (hgo : ∀ s, s < A.1 → ∀ b, b < 14 → u.2.1 40 (14 * s + b) = fI (A.2.2.1 s b)) : EvQ (ZY P) mX1_number [.ref 36] u (fun x v => x = none ∧ XNb A (14 * (zL A).length) v ∧ frX [(36, 10)] [41, 42, 43, 44, 45] u v) := by
  have h200 : (zL A).length ≤ 200 := zLl hA
  have hm200 : A.1 ≤ 200 := hA.1.2
  refine EQ_V vX1_number rfl ?_
  refine RQ_n (ZY_ok P) 3 rfl trivial ?_
  refine RQ_s vJ7_fill_53178 (y_fill u 42 200 (-1) (by omega) (by omega) (fun _ _ => rfl)) rfl k1_128 rfl rfl rfl rfl ?_
  obtain ⟨v1, hv1⟩ : ∃ w : SX, w = (u.1, setA u.2.1 42 (fil (u.2.1 42) 0 200 (-1)), u.2.2) := ⟨_, rfl⟩
  rw [← hv1]
  have f1 : frX [(36, 10)] [41, 42, 43, 44, 45] u v1 := by rw [hv1]; exact frX.s 42 (by decide)
  have a1 : v1.2.1 42 = fil (u.2.1 42) 0 200 (-1) := by rw [hv1]; show setA u.2.1 42 (fil (u.2.1 42) 0 200 (-1)) 42 = _; rw [setA_at]
  refine RQ_n (ZY_ok P) 7 rfl trivial ?_
  obtain ⟨v2, hv2⟩ : ∃ w : SX, w = (updI v1.1 36 10 0, v1.2) := ⟨_, rfl⟩
  rw [← hv2]
  have f2 : frX [(36, 10)] [41, 42, 43, 44, 45] u v2 := f1.tr (by rw [hv2]; exact frX.i 36 10 (by decide))
  have i2 : v2.1 36 10 = nI 0 := by rw [hv2]; show updI v1.1 36 10 0 36 10 = 0; rw [updI_eq, updS_at]
  refine RQ_V vX1_addNumber (y_addNumber v2 (s := 0) (o := none) (by omega) (by omega) (fun k hk => by cases hk) i2) rfl k1_134 rfl rfl rfl (zy36 _ rfl) (fun _ s1 q => by show 3 * s1.2.2.2.2.1 + 99 = 3 * v2.2.2.2.2.1 + 99; rw [q.2.2.2.2.2.2.2.2.2]) ?_
  rintro r3 v3 ⟨rfl, b1, b2, b3, b4, b5, b6, f3⟩
  have J0 : XNb A 0 v3 := by
    refine ⟨b1, fun j hj => ?_, fun t ht hn => ?_, ?_, fun t h1 h2 => ?_⟩
    · have hj : j < 1 := hj
      have hj : j = 0 := by omega
      subst hj
      show _ = nI 0 ∧ v3.2.1 42 0 = nI 0
      rw [b3, b2, upd_at, upd_at]
      exact ⟨rfl, rfl⟩
    · have hne : t ≠ 0 := fun y => hn (by rw [y]; exact List.mem_singleton.mpr rfl)
      rw [b2, upd_ne hne]
      have : v2.2.1 42 = v1.2.1 42 := by rw [hv2]
      rw [this, a1, fil_in (by omega) ht]
    · rw [b6, upd_at]
    · have h2 : t < 1 := h2
      omega
  refine RQ_n (ZY_ok P) 2 rfl trivial ?_
  have F3 := f2.tr f3
  have hg0 : ∀ v : SX, frX [(36, 10)] [41, 42, 43, 44, 45] u v → ∀ s, s < A.1 → ∀ b, b < 14 → v.2.1 40 (14 * s + b) = fI (A.2.2.1 s b) := fun v f s hs b hb => by rw [f.2.1 40 (by decide)]; exact hgo s hs b hb
  -- at the head of the outer loop
  have key : ∀ d k b v, 15 * k + b + d = 3015 → b ≤ 14 → k < (zL A).length → XNb A (14 * k + b) v → frX [(36, 10)] [41, 42, 43, 44, 45] u v → RnQ (ZY P) mX1_number (39, [some (.ref 36), some (.int (nI k)), some (.int (nI b)), none], [], v) (fun x v => x = none ∧ XNb A (14 * (zL A).length) v ∧ frX [(36, 10)] [41, 42, 43, 44, 45] u v) := by
    intro d
    induction d with
    | zero => intro k b v hd hb hk hJ hf; omega
    | succ d ih =>
      intro k b v hd hb hk hJ hf
      have hk1 : k < zc0 A (14 * k + b) := Nat.lt_of_lt_of_le (zL_k hA hk) (znl_le (by omega))
      have hc200 : zc0 A (14 * k + b) ≤ 200 := zL_len hA _
      refine RQ_n (ZY_ok P) 2 rfl trivial ?_
      refine RQ_b rfl (fun z => ?_) (fun z => ?_)
      · have z := (zq_le (a := 14) (b := b) rfl rfl (by omega) (by omega)).mp z
        have hb14 : b = 14 := by omega
        subst hb14
        refine RQ_n (ZY_ok P) 2 rfl trivial ?_
        rw [show nI k + 1 = nI (k + 1) from nI_add k 1]
        refine RQ_n (ZY_ok P) 3 rfl trivial ?_
        rw [hJ.1]
        have e14 : 14 * k + 14 = 14 * (k + 1) := by omega
        rw [e14] at hJ hc200 ⊢
        refine RQ_b rfl (fun z => ?_) (fun z => ?_)
        · have z := (zq_le (a := zc0 A (14 * (k + 1))) (b := k + 1) rfl rfl (by omega) (by omega)).mp z
          have he : (zL A).length = k + 1 := by
            refine Nat.le_antisymm (Classical.byContradiction fun y => ?_) hk
            have := zL_k hA (k := k + 1) (by omega)
            exact absurd z (Nat.not_le.mpr this)
          exact RQ_to (Rn_vret rfl rfl) ⟨rfl, by rw [he]; exact hJ, hf⟩
        · have z := (not_congr (zq_le (a := zc0 A (14 * (k + 1))) (b := k + 1) rfl rfl (by omega) (by omega))).mp z
          have hk2 : k + 1 < (zL A).length := Nat.lt_of_lt_of_le (Nat.not_le.mp z) (zL_le (by omega))
          refine RQ_n (ZY_ok P) 2 rfl trivial ?_
          refine RQ_b rfl (fun z2 => ?_) (fun _ => ?_)
          · have z2 := (zq_le (a := 200) (b := k + 1) rfl rfl (by omega) (by omega)).mp z2
            omega
          refine RQ_n (ZY_ok P) 2 rfl trivial ?_
          exact ih (k + 1) 0 v (by omega) (by omega) hk2 hJ hf
      · have z := (not_congr (zq_le (a := 14) (b := b) rfl rfl (by omega) (by omega))).mp z
        have hsk := (hJ.2.1 k hk1).1
        have hin := mem_getD (L := znl A.2.2.1 (14 * k + b)) hk1
        have hsm := (zL_ok hA (14 * k + b)).2.1 _ hin
        obtain ⟨sl, hsl⟩ : ∃ sl, sl = (znl A.2.2.1 (14 * k + b)).getD k 0 := ⟨_, rfl⟩
        rw [← hsl] at hsk hsm
        refine RQ_n (ZY_ok P) 4 rfl trivial ?_
        refine RQ_n (ZY_ok P) 1 rfl ⟨nI_in (by omega) (by omega), trivial⟩ ?_
        rw [nI_clamp (show k < 2 ^ 31 by omega), hsk]
        refine RQ_n (ZY_ok P) 1 rfl trivial ?_
        refine RQ_v vX1_goalOf (y_goalOf v (s := sl) (b := b) (by omega) (by omega)) rfl k1_138 rfl rfl rfl (zy36 _ rfl) rfl ?_
        rw [hg0 v hf sl hsm b (by omega)]
        refine RQ_n (ZY_ok P) 3 rfl trivial ?_
        have hst : znl A.2.2.1 (14 * k + b + 1) = zns A.2.2.1 (znl A.2.2.1 (14 * k + b)) k b := by
          have := znl_s (go := A.2.2.1) (e := 14 * k + b) (by rw [show (14 * k + b) / 14 = k by omega]; exact hk1)
          rw [show (14 * k + b) / 14 = k by omega, show (14 * k + b) % 14 = b by omega] at this
          exact this
        unfold zns at hst
        rw [← hsl] at hst
        have nb : nI b + 1 = nI (b + 1) := nI_add b 1
        -- the end of a step
        have fin : ∀ (y : Option Value) (w : SX), XNb A (14 * k + b + 1) w → frX [(36, 10)] [41, 42, 43, 44, 45] u w → RnQ (ZY P) mX1_number (79, [some (.ref 36), some (.int (nI k)), some (.int (nI b)), y], [], w) (fun x v => x = none ∧ XNb A (14 * (zL A).length) v ∧ frX [(36, 10)] [41, 42, 43, 44, 45] u v) := by
          intro y w hw fw
          refine RQ_le (l' := [some (.ref 36), some (.int (nI k)), some (.int (nI b)), none]) ⟨rfl, rfl, rfl, trivial⟩ ?_
          refine RQ_n (ZY_ok P) 2 rfl trivial ?_
          rw [nb]
          exact ih k (b + 1) w (by omega) (by omega) hk hw fw
        cases hg : A.2.2.1 sl b with
        | none =>
          rw [hg] at hst
          refine RQ_b rfl (fun _ => ?_) (fun y => absurd rfl y)
          exact fin _ v (XNb_id hJ hst) hf
        | some t =>
          rw [hg] at hst
          dsimp only at hst
          have htm : t < A.1 := hA.2.2.2.1 sl hsm b t hg
          refine RQ_b rfl (fun y => absurd y (nI_m1 (a := t) (by omega))) (fun _ => ?_)
          refine RQ_n (ZY_ok P) 3 rfl trivial ?_
          show RnQ (ZY P) mX1_number (_, _, [.int (nI t), _], v) _
          refine RQ_n (ZY_ok P) 1 rfl ⟨nI_in (show t < 200 by omega) (by omega), trivial⟩ ?_
          rw [nI_clamp (show t < 2 ^ 31 by omega)]
          refine RQ_n (ZY_ok P) 1 rfl trivial ?_
          by_cases y : t ∈ znl A.2.2.1 (14 * k + b)
          · rw [if_pos y] at hst
            have hl := List.idxOf_lt_length_of_mem y
            have hnum := (hJ.2.1 _ hl).2
            rw [getD_idx y] at hnum
            rw [hnum]
            have hl2 : (znl A.2.2.1 (14 * k + b)).idxOf t < 200 := Nat.lt_of_lt_of_le hl hc200
            refine RQ_b rfl (fun _ => ?_) (fun w => absurd (Classical.not_not.mp w) (nI_m1 (by omega)))
            exact fin _ v (XNb_id hJ hst) hf
          · rw [if_neg y] at hst
            rw [hJ.2.2.1 t (by omega) y]
            refine RQ_b rfl (fun w => absurd rfl w) (fun _ => ?_)
            have hlt : zc0 A (14 * k + b) < 200 := by
              have : zc0 A (14 * k + b + 1) ≤ 200 := zL_len hA _
              unfold zc0 at this ⊢
              rw [hst, List.length_append, List.length_singleton] at this
              omega
            refine RQ_n (ZY_ok P) 4 rfl trivial ?_
            refine RQ_V vX1_addNumber (y_addNumber v (s := t) (o := some k) (y := nI b) hlt (by omega) (fun k' hk' => by cases hk'; omega) hJ.1) rfl k1_134 rfl rfl rfl (zy36 _ rfl) (fun _ s1 q => by show 3 * s1.2.2.2.2.1 + 99 = 3 * v.2.2.2.2.1 + 99; rw [q.2.2.2.2.2.2.2.2.2]) ?_
            rintro r4 v4 ⟨rfl, c1, c2, c3, c4, c5, c6, f4⟩
            exact fin _ v4 (XNb_up hA hJ (by omega) hk1 y (by omega) hst c1 c2 c3 c4 c5 c6) (hf.tr f4)
  refine RQ_n (ZY_ok P) 3 rfl trivial ?_
  rw [J0.1]
  refine RQ_b rfl (fun z => absurd (show (1 : Int32) ≤ 0 from z) (by decide)) (fun _ => ?_)
  refine RQ_n (ZY_ok P) 2 rfl trivial ?_
  refine RQ_b rfl (fun z => absurd (show (200 : Int32) ≤ 0 from z) (by decide)) (fun _ => ?_)
  refine RQ_n (ZY_ok P) 2 rfl trivial ?_
  exact key 3015 0 0 v3 (by omega) (by omega) (zLo hA).2.2.1 J0 F3
