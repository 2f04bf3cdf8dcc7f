/-! Calls by a kind: states, goesTo, action, bridge. -/
/-- which of the first n a number is -/
def zix (x : Int32) (n : Nat) : Option Nat := zfst (fun k => decide (x = nI k)) n
theorem zix_s {x : Int32} {n k : Nat} (h : zix x n = some k) : k < n ∧ x = nI k := ⟨(zfst_s h).1, of_decide_eq_true (zfst_s h).2.1⟩
theorem zix_n {x : Int32} {n : Nat} (h : zix x n = none) : ¬ ∃ k, k < n ∧ x = nI k := fun ⟨k, h1, h2⟩ => by
  have := zfst_n.mp h k h1
  rw [decide_eq_true h2] at this
  cases this
theorem zix_i {n k : Nat} (hn : n < 2 ^ 31) (h : k < n) : zix (nI k) n = some k := zfst_i h (decide_eq_true rfl) (fun b hb => decide_eq_false (fun e => by have := (nI_eq (by omega) (by omega)).mp e; omega))
theorem zix_in {x : Int32} {n : Nat} (hn : n < 2 ^ 31) : inB x 0 (nI n - 1) = (zix x n).isSome := by
  cases h : zix x n with
  | none => exact in_no hn (zix_n h)
  | some k => obtain ⟨h1, h2⟩ := zix_s h; rw [h2]; exact in_yes hn h1
theorem zix_in1 {x : Int32} {n : Nat} (hn : n + 1 < 2 ^ 31) : inB x 0 (nI n) = (zix x (n + 1)).isSome := by
  have := zix_in (x := x) (n := n + 1) hn
  rw [show nI (n + 1) - 1 = nI n from nI_pred n] at this
  exact this
theorem zix_ge {x : Int32} {n : Nat} (hn : n < 2 ^ 31) (h : zix x n = none) (h0 : ¬ x < 0) : nI n ≤ x := Int32.not_lt.mp (fun y => zix_n h (nat_oI hn (Int32.not_lt.mp h0) y))
theorem zix_lt {x : Int32} {n k : Nat} (hn : n < 2 ^ 31) (h : zix x n = some k) : ¬ x < 0 ∧ ¬ nI n ≤ x := by
  obtain ⟨h1, h2⟩ := zix_s h
  rw [h2]
  refine ⟨fun y => ?_, fun y => ?_⟩
  · have := (zq_lt (a := k) (b := 0) rfl rfl (by omega) (by omega)).mp y; omega
  · have := (zq_le (a := n) (b := k) rfl rfl (by omega) (by omega)).mp y; omega
/-- how a call by a kind ends, class and reference -/
def kdQ (P : YP) (G : ZGT) (o : Option ZAS) (u : SX) (r : Int32) (x : Option Value) (v : SX) : Prop := x = some (.int r) ∧ XK P G o v ∧ frK u v
def frR (u v : SM) : Prop := frM [25, 29, 48, 57, 62, 63, 64, 65, 71] [26, 27, 28, 30, 38, 39, 40, 41, 42, 43, 44, 45, 46, 47, 49, 50, 51, 52, 53, 54, 55, 56, 58, 59, 60, 61, 66, 67, 68, 69, 70] u v
def rfQ (G : ZGT) (os : Nat → Option ZAS) (u : SM) (r : Int32) (x : Option Value) (v : SM) : Prop := x = some (.int r) ∧ RGr G os v ∧ frR u v
section Pub
variable {P : YP} {G : ZGT} {kd : Nat} {o : Option ZAS} {u : SX} {os : Nat → Option ZAS} {s : SM}
theorem y_hasState {N : ZNM} (hN : N.1 ≤ 200) (h : XV G N u) (x : Int32) : Ev (ZY P) mX1_hasState [.ref 36, .int x] u (some (.int (bI (zix x N.1).isSome))) u := by
  refine EQ_ev ?_
  refine EQ_V vX1_hasState rfl ?_
  have no : zix x N.1 = none → RnQ (ZY P) mX1_hasState (16, [some (.ref 36), some (.int x)], [], u) (fun y v => y = some (.int (bI (zix x N.1).isSome)) ∧ v = u) := by
    intro e
    refine RQ_n (ZY_ok P) 1 rfl trivial ?_
    rw [e]
    exact RQ_to (Rn_zret rfl rfl (Or.inl rfl)) ⟨rfl, rfl⟩
  refine RQ_n (ZY_ok P) 1 rfl trivial ?_
  cases e : zix x N.1 with
  | none =>
    rw [e] at no
    refine RQ_b rfl (fun _ => no rfl) (fun z => ?_)
    refine RQ_n (ZY_ok P) 3 rfl trivial ?_
    rw [h.1]
    exact RQ_b rfl (fun _ => no rfl) (fun y => absurd (zix_ge (by omega) e z) y)
  | some k =>
    obtain ⟨z1, z2⟩ := zix_lt (by omega) e
    refine RQ_b rfl (fun z => absurd z z1) (fun _ => ?_)
    refine RQ_n (ZY_ok P) 3 rfl trivial ?_
    rw [h.1]
    refine RQ_b rfl (fun z => absurd z z2) (fun _ => ?_)
    refine RQ_n (ZY_ok P) 2 rfl trivial ?_
    exact RQ_to (Rn_zret rfl rfl (Or.inr rfl)) ⟨rfl, rfl⟩
noncomputable def zvS (o : Option ZAS) : Int32 := match o with | none => -1 | some A => nI (zN A).1
theorem y_states (hP : P.2.1 kd = some 36) (hk : P.1 0 = nI kd) (hk3 : kd < 3) (hZ : ZAt G kd o) (h : XK P G o u) : EvQ (ZY P) mX11_states [.ref 0, .int (nI kd)] u (kdQ P G o u (zvS o)) := by
  have hin : vp_in (nI kd) 3 := nI_in (by omega) (by omega)
  have hic : (nI kd).toNatClampNeg = kd := nI_clamp (by omega)
  refine EQ_V vX11_states rfl ?_
  refine RQ_n (ZY_ok P) 2 rfl trivial ?_
  refine RQ_VN vX11_isThere (y_isThere hP hk hk3 hZ h) rfl k11_251 rfl rfl rfl (zy0 _ rfl) ?_ ?_
  · show (((Nat.blt 0 (3 * u.2.2.2.2.1 + 99)) && true) && true) = true
    rw [zblt (show 0 < 3 * u.2.2.2.2.1 + 99 by omega)]; rfl
  rintro r1 v1 ⟨rfl, h1, h3, h4, h5⟩
  cases o with
  | none =>
    refine RQ_b rfl (fun _ => ?_) (fun z => absurd rfl z)
    refine RQ_n (ZY_ok P) 1 rfl trivial ?_
    exact RQ_to (Rn_iret rfl rfl) ⟨rfl, h1, h5⟩
  | some A =>
    obtain ⟨x1, x2, x3, x4⟩ := h1.v hZ h3
    refine RQ_b rfl (fun z => absurd (show (1 : Int32) = 0 from z) (by decide)) (fun _ => ?_)
    refine RQ_n (ZY_ok P) 4 rfl ⟨hin, trivial⟩ ?_
    rw [hic, hP]
    refine RQ_n (ZY_ok P) 2 rfl trivial ?_
    rw [x3.1]
    exact RQ_to (Rn_iret rfl rfl) ⟨rfl, h1, h5⟩
theorem frR.th {u v : SM} (f : frM [25, 29, 48] [26, 27, 28, 30, 38, 39, 40, 41, 42, 43, 44, 45, 46, 47, 49, 50, 51, 52] u v) : frR u v := f.up (by decide) (by decide)
theorem m_states (hk3 : kd < 3) (hZ : ∀ kd, kd < 3 → ZAt G kd (os kd)) (h : RGr G os s) : EvQ ZR mX12_states [.ref 0, .int (nI kd)] s (rfQ G os s (zvS (os kd))) := by
  have hin : vp_in (nI kd) 3 := nI_in (by omega) (by omega)
  have hic : (nI kd).toNatClampNeg = kd := nI_clamp (by omega)
  refine EQ_V vX12_states rfl ?_
  refine RQ_n ZR_ok 2 rfl trivial ?_
  refine RQ_V vX12_isThere (m_isThere hk3 hZ h) rfl k12_424 rfl rfl rfl rfl (fun _ _ _ => rfl) (fun r1 v h1 => ?_)
  obtain ⟨rfl, a1, a2, a3⟩ := h1
  cases ho : os kd with
  | none =>
    refine RQ_b rfl (fun _ => ?_) (fun z => absurd rfl z)
    refine RQ_n ZR_ok 1 rfl trivial ?_
    exact RQ_to (Rn_iret rfl rfl) ⟨rfl, a1, frR.th a3⟩
  | some A =>
    refine RQ_b rfl (fun z => absurd (show (1 : Int32) = 0 from z) (by decide)) (fun _ => ?_)
    refine RQ_n ZR_ok 4 rfl ⟨hin, trivial⟩ ?_
    rw [hic, (a1.a hk3 a2 ho).1.1.1]
    refine RQ_n ZR_ok 1 rfl trivial ?_
    exact RQ_to (Rn_iret rfl rfl) ⟨rfl, a1, frR.th a3⟩
/-- a state of the automaton -/
noncomputable def zste (o : Option ZAS) (x : Int32) : Option (ZAS × Nat) := match o with | none => none | some A => match zix x (zN A).1 with | none => none | some k => some (A, k)
theorem zste_s {x : Int32} {A : ZAS} {k : Nat} (h : zste o x = some (A, k)) : o = some A ∧ k < (zN A).1 ∧ x = nI k := by
  unfold zste at h
  cases ho : o with
  | none => rw [ho] at h; cases h
  | some A' =>
    rw [ho] at h
    dsimp only at h
    cases hz : zix x (zN A').1 with
    | none => rw [hz] at h; cases h
    | some k' =>
      rw [hz] at h
      cases h
      exact ⟨rfl, zix_s hz⟩
theorem m_isState (hk3 : kd < 3) (hZ : ∀ kd, kd < 3 → ZAt G kd (os kd)) (h : RGr G os s) (x : Int32) : EvQ ZR mX12_isState [.ref 0, .int (nI kd), .int x] s (fun y v => y = some (.int (bI (zste (os kd) x).isSome)) ∧ RGr G os v ∧ v.2.1 30 kd = 1 ∧ frR s v) := by
  have hin : vp_in (nI kd) 3 := nI_in (by omega) (by omega)
  have hic : (nI kd).toNatClampNeg = kd := nI_clamp (by omega)
  refine EQ_V vX12_isState rfl ?_
  refine RQ_n ZR_ok 2 rfl trivial ?_
  refine RQ_V vX12_isThere (m_isThere hk3 hZ h) rfl k12_424 rfl rfl rfl rfl (fun _ _ _ => rfl) (fun r1 v h1 => ?_)
  obtain ⟨rfl, a1, a2, a3⟩ := h1
  cases ho : os kd with
  | none =>
    refine RQ_b rfl (fun _ => ?_) (fun z => absurd rfl z)
    refine RQ_n ZR_ok 1 rfl trivial ?_
    exact RQ_to (Rn_zret rfl rfl (Or.inl rfl)) ⟨rfl, a1, a2, frR.th a3⟩
  | some A =>
    obtain ⟨b1, b2⟩ := a1.a hk3 a2 ho
    have hn := zN_F (ZAt_all a1.1.1 b2 (ho ▸ hZ kd hk3)) (show ZAt G kd (some A) from ho ▸ hZ kd hk3).2
    have hn1 := hn.1
    refine RQ_b rfl (fun z => absurd (show (1 : Int32) = 0 from z) (by decide)) (fun _ => ?_)
    refine RQ_n ZR_ok 6 rfl ⟨hin, trivial⟩ ?_
    rw [hic, b1.1.1]
    refine RQ_n ZR_ok 2 rfl trivial ?_
    refine RQ_s vX12_in (e_in v x 0 (nI (zN A).1 - 1)) rfl k12_170 rfl rfl rfl rfl ?_
    rw [zix_in (by omega)]
    unfold zste
    dsimp only
    cases hz : zix x (zN A).1 with
    | none =>
      refine RQ_b rfl (fun _ => ?_) (fun z => absurd rfl z)
      refine RQ_n ZR_ok 1 rfl trivial ?_
      exact RQ_to (Rn_zret rfl rfl (Or.inl rfl)) ⟨rfl, a1, a2, frR.th a3⟩
    | some k =>
      refine RQ_b rfl (fun z => absurd (show (1 : Int32) = 0 from z) (by decide)) (fun _ => ?_)
      refine RQ_n ZR_ok 2 rfl trivial ?_
      exact RQ_to (Rn_zret rfl rfl (Or.inr rfl)) ⟨rfl, a1, a2, frR.th a3⟩
theorem m_isNamed (h : ZGM G s) (x : Int32) : Ev ZR mX12_isNamed [.ref 0, .int x] s (some (.int (bI (zix x (zgN G)).isSome))) s := by
  have hb := h.b
  refine EQ_ev ?_
  refine EQ_V vX12_isNamed rfl ?_
  refine RQ_n ZR_ok 6 rfl trivial ?_
  rw [h.2.1.2.1]
  refine RQ_s vX12_in (e_in s x 0 (nI (zgN G) - 1)) rfl k12_170 rfl rfl rfl rfl ?_
  rw [zix_in (by omega)]
  exact RQ_to (Rn_zret rfl rfl (bI_01 _)) ⟨rfl, rfl⟩
theorem y_isName (h : ZGX G u) (x : Int32) : Ev (ZY P) mX11_isName [.ref 0, .int x] u (some (.int (bI (zix x (zgN G)).isSome))) u := by
  have hb := h.b
  refine EQ_ev ?_
  refine EQ_V vX11_isName rfl ?_
  have no : zix x (zgN G) = none → RnQ (ZY P) mX11_isName (19, [some (.ref 0), some (.int x)], [], u) (fun y v => y = some (.int (bI (zix x (zgN G)).isSome)) ∧ v = u) := by
    intro e
    refine RQ_n (ZY_ok P) 1 rfl trivial ?_
    rw [e]
    exact RQ_to (Rn_zret rfl rfl (Or.inl rfl)) ⟨rfl, rfl⟩
  refine RQ_n (ZY_ok P) 1 rfl trivial ?_
  cases e : zix x (zgN G) with
  | none =>
    rw [e] at no
    refine RQ_b rfl (fun _ => no rfl) (fun z => ?_)
    refine RQ_n (ZY_ok P) 4 rfl trivial ?_
    rw [h.2.1.2.1]
    exact RQ_b rfl (fun _ => no rfl) (fun y => absurd (zix_ge (by omega) e z) y)
  | some k =>
    obtain ⟨z1, z2⟩ := zix_lt (by omega) e
    refine RQ_b rfl (fun z => absurd z z1) (fun _ => ?_)
    refine RQ_n (ZY_ok P) 4 rfl trivial ?_
    rw [h.2.1.2.1]
    refine RQ_b rfl (fun z => absurd z z2) (fun _ => ?_)
    refine RQ_n (ZY_ok P) 2 rfl trivial ?_
    exact RQ_to (Rn_zret rfl rfl (Or.inr rfl)) ⟨rfl, rfl⟩
theorem y_isEnding (h : ZGX G u) (x : Int32) : Ev (ZY P) mX11_isEnding [.ref 0, .int x] u (some (.int (bI (zix x (zgT G + 1)).isSome))) u := by
  have hb := h.b
  refine EQ_ev ?_
  refine EQ_V vX11_isEnding rfl ?_
  have no : zix x (zgT G + 1) = none → RnQ (ZY P) mX11_isEnding (29, [some (.ref 0), some (.int x)], [], u) (fun y v => y = some (.int (bI (zix x (zgT G + 1)).isSome)) ∧ v = u) := by
    intro e
    refine RQ_n (ZY_ok P) 1 rfl trivial ?_
    rw [e]
    exact RQ_to (Rn_zret rfl rfl (Or.inl rfl)) ⟨rfl, rfl⟩
  refine RQ_n (ZY_ok P) 3 rfl trivial ?_
  rw [h.2.1.1]
  refine RQ_b rfl (fun z => ?_) (fun _ => ?_)
  · have := (zq_le (a := zgR G) (b := 0) rfl rfl (by omega) (by omega)).mp z
    omega
  refine RQ_n (ZY_ok P) 1 rfl trivial ?_
  cases e : zix x (zgT G + 1) with
  | none =>
    rw [e] at no
    refine RQ_b rfl (fun _ => no rfl) (fun z => ?_)
    refine RQ_n (ZY_ok P) 4 rfl trivial ?_
    rw [h.2.1.2.2]
    refine RQ_b rfl (fun _ => no rfl) (fun y => ?_)
    refine absurd (Int32.lt_of_lt_of_le ?_ (zix_ge (by omega) e z)) y
    exact (zq_lt (a := zgT G) (b := zgT G + 1) rfl rfl (by omega) (by omega)).mpr (by omega)
  | some k =>
    obtain ⟨z1, -⟩ := zix_lt (by omega) e
    obtain ⟨k1, k2⟩ := zix_s e
    refine RQ_b rfl (fun z => absurd z z1) (fun _ => ?_)
    refine RQ_n (ZY_ok P) 4 rfl trivial ?_
    rw [h.2.1.2.2]
    refine RQ_b rfl (fun z => ?_) (fun _ => ?_)
    · have := (zq_lt (a := zgT G) (b := k) rfl k2 (by omega) (by omega)).mp z
      omega
    refine RQ_n (ZY_ok P) 2 rfl trivial ?_
    exact RQ_to (Rn_zret rfl rfl (Or.inr rfl)) ⟨rfl, rfl⟩
end Pub
