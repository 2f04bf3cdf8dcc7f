/-! The reference: isThere, isState; a number that is one of the first n. -/
theorem nat_oI {x : Int32} {n : Nat} (hn : n < 2 ^ 31) (h0 : 0 ≤ x) (h1 : x < nI n) : ∃ k, k < n ∧ x = nI k := by
  have e0 : (0 : Int) ≤ x.toInt := Int32.le_iff_toInt_le.mp h0
  have e1 : x.toInt < (nI n).toInt := Int32.lt_iff_toInt_lt.mp h1
  have e2 : (nI n).toInt = n := by
    show (Int32.ofNat n).toInt = n
    rw [Int32.toInt_ofNat_of_lt hn]
  refine ⟨x.toInt.toNat, by omega, Int32.toInt_inj.mp ?_⟩
  show _ = (Int32.ofNat x.toInt.toNat).toInt
  rw [Int32.toInt_ofNat_of_lt (by omega)]
  omega
theorem in_no {x : Int32} {n : Nat} (hn : n < 2 ^ 31) (h : ¬ ∃ k, k < n ∧ x = nI k) : inB x 0 (nI n - 1) = false := by
  unfold inB
  by_cases y : (0 : Int32) ≤ x
  · rw [decide_eq_true y, Bool.true_and]
    refine decide_eq_false (fun z => ?_)
    cases n with
    | zero => exact absurd (Int32.le_trans y z) (by decide)
    | succ n =>
      rw [show nI (n + 1) - 1 = nI n from nI_pred n] at z
      refine h (nat_oI hn y (Int32.lt_of_le_of_lt z ?_))
      exact (zq_lt (a := n) (b := n + 1) rfl rfl (by omega) hn).mpr (by omega)
  · rw [decide_eq_false y]; rfl
theorem in_yes {n k : Nat} (hn : n < 2 ^ 31) (hk : k < n) : inB (nI k) 0 (nI n - 1) = true := by rw [inB_t rfl rfl rfl (by omega) hn]; exact decide_eq_true hk
/-- up to n itself -/
theorem in_no1 {x : Int32} {n : Nat} (hn : n + 1 < 2 ^ 31) (h : ¬ ∃ k, k ≤ n ∧ x = nI k) : inB x 0 (nI n) = false := by
  have := in_no (n := n + 1) hn (x := x) (fun ⟨k, a, b⟩ => h ⟨k, by omega, b⟩)
  rw [show nI (n + 1) - 1 = nI n from nI_pred n] at this
  exact this
theorem in_yes1 {n k : Nat} (hn : n + 1 < 2 ^ 31) (hk : k ≤ n) : inB (nI k) 0 (nI n) = true := by
  have := in_yes (n := n + 1) (k := k) hn (by omega)
  rw [show nI (n + 1) - 1 = nI n from nI_pred n] at this
  exact this
def RKo (G : ZGT) (kd : Nat) (p : Int32) (v : SM) : Option ZAS → Prop
  | none => v.2.1 44 kd = 0
  | some A => RAu G (zE0 G) (zF0 G) kd p (zN A) v
/-- what the reference holds of a kind; of all -/
def RK (G : ZGT) (kd : Nat) (o : Option ZAS) (s : SM) : Prop := s.2.1 30 kd = 0 ∨ (s.2.1 30 kd = 1 ∧ s.1 29 = 1 ∧ SLM G s ∧ RKo G kd (s.1 24) s o)
def RGr (G : ZGT) (os : Nat → Option ZAS) (s : SM) : Prop := ZGM G s ∧ (s.1 29 = 0 ∨ (s.1 29 = 1 ∧ SLM G s)) ∧ ∀ kd, kd < 3 → RK G kd (os kd) s
theorem SLM.c {G : ZGT} {s : SM} (h : SLM G s) : zlE G (zE0 G) ∧ zlF G (zE0 G) (zF0 G) ∧ s.1 25 = zE0 G ∧ ∀ n, n < 6 → s.2.1 26 n = zF0 G n := by
  obtain ⟨h1, h2, -⟩ := h
  have e := zE0_eq h1
  rw [e] at h2
  exact ⟨zE0_ok h1, zF0_ok h2, e, zF0_eq h2⟩
theorem RAu.ok {G : ZGT} {E p : Int32} {F F' : Nat → Int32} {kd : Nat} {N : ZNM} {s : SM} (hG : GW G) (hF : ∀ n, n < 6 → F n = F' n) (h : RAu G E F kd p N s) : RAu G E F' kd p N s := by
  unfold RAu RSt at h ⊢
  rw [zcl_F hG hF] at h
  exact h
theorem RAu.o {G : ZGT} {E p : Int32} {F : Nat → Int32} {kd kd' : Nat} {N : ZNM} {u v : SM} (hN : N.1 ≤ 200) (hT : zgT G ≤ 8) (hR : zgR G ≤ 16) (h : RAu G E F kd p N u) (hk : kd ≠ kd') (f : oKa kd' u v) : RAu G E F kd p N v := by
  obtain ⟨⟨⟨o1, o2, o3⟩, o4, o5⟩, -⟩ : oKa kd' u v ∧ True := ⟨f, trivial⟩
  refine ⟨⟨by rw [o3 kd hk]; exact h.1.1, fun s hs i hi => ?_, fun s hs b hb => ?_⟩, fun k hk' => ?_⟩
  · show v.2.1 38 (mrow kd s + i) = _
    rw [(o1 _ (by unfold mrow; omega)).1]; exact h.1.2.1 s hs i hi
  · rw [o2 _ (by omega)]; exact h.1.2.2 s hs b hb
  · obtain ⟨a, b, c, d⟩ := h.2 k hk'
    refine ⟨fun i hi => ?_, fun t ht => ?_, ?_, ?_⟩
    · show v.2.1 39 (mrow kd k + i) = _
      rw [(o1 _ (by unfold mrow; omega)).2]; exact a i hi
    · rw [o4 _ (by omega)]; exact b t ht
    · rw [(o5 _ (by omega)).1]; exact c
    · rw [(o5 _ (by omega)).2]; exact d
section MTh
variable {G : ZGT} {os : Nat → Option ZAS} {u : SM} {kd : Nat}
theorem lyR.k {E p : Int32} {F : Nat → Int32} {o : Option ZAS} {v : SM} (hG : GW G) (hE : E = zE0 G) (hF : ∀ n, n < 6 → F n = zF0 G n) (hZ : ZAt G kd o) (h : lyR G E F kd p v) : RKo G kd p v o := by
  subst hE
  rcases h with ⟨j, A, b1, b2, -, -, -, b6⟩ | ⟨j, b1, b2⟩
  · rw [zitr_F hG hF] at b1
    have e : o = some A := ZAt_un hZ (show ZAt G kd (some A) from ⟨⟨j, b1⟩, b2⟩)
    subst e
    exact b6.ok hG hF
  · rw [zitr_F hG hF] at b1
    have e : o = none := ZAt_un hZ (show ZAt G kd none from ⟨j, b1⟩)
    subst e
    exact b2
theorem m_isThere (hk3 : kd < 3) (hZ : ∀ kd, kd < 3 → ZAt G kd (os kd)) (h : RGr G os u) : EvQ ZR mX12_isThere [.ref 0, .int (nI kd)] u (fun x v => x = some (.int (bI (os kd).isSome)) ∧ RGr G os v ∧ v.2.1 30 kd = 1 ∧ frM [25, 29, 48] [26, 27, 28, 30, 38, 39, 40, 41, 42, 43, 44, 45, 46, 47, 49, 50, 51, 52] u v) := by
  obtain ⟨hG, h29, hK⟩ := id h
  have hb := hG.b
  have hin : vp_in (nI kd) 3 := nI_in (by omega) (by omega)
  have hic : (nI kd).toNatClampNeg = kd := nI_clamp (by omega)
  have fin : ∀ v : SM, RGr G os v → v.2.1 30 kd = 1 → frM [25, 29, 48] [26, 27, 28, 30, 38, 39, 40, 41, 42, 43, 44, 45, 46, 47, 49, 50, 51, 52] u v → RnQ ZR mX12_isThere (39, [some (.ref 0), some (.int (nI kd))], [], v) (fun x v => x = some (.int (bI (os kd).isSome)) ∧ RGr G os v ∧ v.2.1 30 kd = 1 ∧ frM [25, 29, 48] [26, 27, 28, 30, 38, 39, 40, 41, 42, 43, 44, 45, 46, 47, 49, 50, 51, 52] u v) := by
    intro v hv h30 hf
    refine RQ_n ZR_ok 4 rfl ⟨hin, trivial⟩ ?_
    rw [hic]
    rcases hv.2.2 kd hk3 with y | ⟨-, -, y1, y⟩
    · rw [h30] at y; exact absurd y (by decide)
    cases ho : os kd with
    | none =>
      rw [ho] at y
      have y : v.2.1 44 kd = 0 := y
      rw [y]
      refine RQ_b rfl (fun _ => ?_) (fun z => absurd (show (0 : Int32) ≤ 0 by decide) z)
      refine RQ_n ZR_ok 1 rfl trivial ?_
      exact RQ_to (Rn_zret rfl rfl (Or.inl rfl)) ⟨rfl, hv, h30, hf⟩
    | some A =>
      rw [ho] at y
      have y : RAu G (zE0 G) (zF0 G) kd (v.1 24) (zN A) v := y
      have hn := zN_F (ZAt_all hG.1 y1.c.2.1 (ho ▸ hZ kd hk3)) (show ZAt G kd (some A) from ho ▸ hZ kd hk3).2
      have hn1 := hn.1
      rw [y.1.1]
      refine RQ_b rfl (fun z => ?_) (fun _ => ?_)
      · have := (zq_le (a := (zN A).1) (b := 0) rfl rfl (by omega) (by omega)).mp z
        omega
      refine RQ_n ZR_ok 2 rfl trivial ?_
      exact RQ_to (Rn_zret rfl rfl (Or.inr rfl)) ⟨rfl, hv, h30, hf⟩
  refine EQ_V vX12_isThere rfl ?_
  refine RQ_n ZR_ok 2 rfl trivial ?_
  rw [hG.2.1.1]
  refine RQ_b rfl (fun z => ?_) (fun _ => ?_)
  · have := (zq_eq (a := zgR G) (b := 0) rfl rfl (by omega) (by omega)).mp z
    omega
  refine RQ_n ZR_ok 3 rfl trivial ?_
  refine RQ_s vX12_in (e_in u (nI kd) 0 2) rfl k12_170 rfl rfl rfl rfl ?_
  rw [show inB (nI kd) 0 2 = true from in_yes1 (n := 2) (by omega) (by omega)]
  refine RQ_b rfl (fun _ => ?_) (fun z => absurd (Classical.not_not.mp z) (show ¬ (1 : Int32) = 0 by decide))
  refine RQ_n ZR_ok 4 rfl ⟨hin, trivial⟩ ?_
  rw [hic]
  rcases hK kd hk3 with y | ⟨y, -⟩
  · rw [y]
    refine RQ_b rfl (fun z => absurd rfl z) (fun _ => ?_)
    refine RQ_n ZR_ok 4 rfl trivial ?_
    refine RQ_n ZR_ok 1 rfl ⟨hin, trivial⟩ ?_
    rw [hic]
    obtain ⟨v1, hv1⟩ : ∃ w : SM, w = (u.1, updA u.2.1 30 kd 1, u.2.2) := ⟨_, rfl⟩
    show RnQ ZR mX12_isThere (_, _, _, ((u.1, updA u.2.1 30 kd 1, u.2.2) : SM)) _
    rw [← hv1]
    have f1 : frM [] [30] u v1 := by rw [hv1]; exact frM.a 30 (by decide)
    have h30 : v1.2.1 30 = upd (u.2.1 30) kd 1 := by rw [hv1]; rfl
    have h29' : v1.1 29 = 0 ∨ (v1.1 29 = 1 ∧ SLM G v1) := by
      unfold SLM SRM at h29 ⊢
      rw [f1.1 29 (by decide), f1.1 25 (by decide), f1.2.1 26 (by decide), f1.2.1 27 (by decide), f1.2.1 28 (by decide)]
      exact h29
    refine RQ_n ZR_ok 2 rfl trivial ?_
    refine RQ_V vX12_layAutomaton (m_layAutomaton (hG.fr f1 rfl) hk3 h29') rfl k12_405 rfl rfl rfl rfl (fun _ _ _ => rfl) (fun r1 v2 h2 => ?_)
    obtain ⟨rfl, a1, a2, a3, a4, a5⟩ := h2
    have F2 : frM [25, 29, 48] [26, 27, 28, 30, 38, 39, 40, 41, 42, 43, 44, 45, 46, 47, 49, 50, 51, 52] u v2 := (f1.up (by decide) (by decide)).tr (a4.up (by decide) (by decide))
    have e30 : v2.2.1 30 = upd (u.2.1 30) kd 1 := by rw [a4.2.1 30 (by decide)]; exact h30
    have e24 : v2.1 24 = u.1 24 := F2.1 24 (by decide)
    refine fin v2 ⟨hG.fr F2 rfl, Or.inr ⟨a2, a1⟩, fun kd' hk' => ?_⟩ (by rw [e30, upd_at]) F2
    by_cases q : kd' = kd
    · subst q
      refine Or.inr ⟨by rw [e30, upd_at], a2, a1, ?_⟩
      have := a3.k hG.1 a1.c.2.2.1 a1.c.2.2.2 (hZ kd' hk3)
      rw [f1.1 24 (by decide), ← e24] at this
      exact this
    · rcases hK kd' hk' with x | ⟨x1, x2, x3, x4⟩
      · exact Or.inl (by rw [e30, upd_ne q]; exact x)
      · refine Or.inr ⟨by rw [e30, upd_ne q]; exact x1, a2, a1, ?_⟩
        have hZ' := hZ kd' hk'
        have o1 : v1.2.1 = updA u.2.1 30 kd 1 := by rw [hv1]
        have oo : oKa kd u v1 := oKd.a ⟨fun j _ => ⟨by rw [f1.2.1 38 (by decide)], by rw [f1.2.1 39 (by decide)]⟩, fun j _ => by rw [f1.2.1 40 (by decide)], fun j _ => by rw [f1.2.1 44 (by decide)]⟩ (f1.2.1 41 (by decide)) (f1.2.1 42 (by decide)) (f1.2.1 43 (by decide))
        have oo2 := oo.tr a5
        cases ho : os kd' with
        | none =>
          rw [ho] at x4
          have x4 : u.2.1 44 kd' = 0 := x4
          show v2.2.1 44 kd' = 0
          rw [oo2.1.2.2 kd' q]; exact x4
        | some A =>
          rw [ho] at x4 hZ'
          have x4 : RAu G (zE0 G) (zF0 G) kd' (u.1 24) (zN A) u := x4
          have hn := zN_F (ZAt_all hG.1 x3.c.2.1 hZ') hZ'.2
          show RAu G (zE0 G) (zF0 G) kd' (v2.1 24) (zN A) v2
          rw [e24]
          exact x4.o hn.1.2 hb.2.2.2.2 hb.1 q oo2
  · rw [y]
    refine RQ_b rfl (fun _ => ?_) (fun z => absurd (Classical.not_not.mp z) (show ¬ (1 : Int32) = 0 by decide))
    exact fin u h y frM.rf
/-- of a kind that is laid -/
theorem RGr.a {A : ZAS} (hk3 : kd < 3) (h : RGr G os u) (h30 : u.2.1 30 kd = 1) (ho : os kd = some A) : RAu G (zE0 G) (zF0 G) kd (u.1 24) (zN A) u ∧ zlF G (zE0 G) (zF0 G) := by
  rcases h.2.2 kd hk3 with y | ⟨-, -, y1, y⟩
  · rw [h30] at y; exact absurd y (by decide)
  · rw [ho] at y
    exact ⟨y, y1.c.2.1⟩
theorem RGr.fr {v : SM} {ks as : List Nat} (h : RGr G os u) (f : frM ks as u v) (h1 : ∀ k ∈ ks, k < 15 ∨ 29 < k) (h2 : ∀ a ∈ as, a < 15 ∨ (30 < a ∧ a < 38) ∨ 44 < a) : RGr G os v := by
  have n1 : ∀ k, ¬ (k < 15 ∨ 29 < k) → v.1 k = u.1 k := fun k hk => f.1 k (fun y => hk (h1 k y))
  have n2 : ∀ a, ¬ (a < 15 ∨ (30 < a ∧ a < 38) ∨ 44 < a) → v.2.1 a = u.2.1 a := fun a ha => f.2.1 a (fun y => ha (h2 a y))
  obtain ⟨a1, a2, a3⟩ := h
  refine ⟨?_, ?_, fun kd hk => ?_⟩
  · unfold ZGM at a1 ⊢
    rw [n1 15 (by omega), n1 16 (by omega), n1 17 (by omega), n1 23 (by omega), n2 18 (by omega), n2 19 (by omega), n2 20 (by omega)]
    exact a1
  · unfold SLM SRM at a2 ⊢
    rw [n1 29 (by omega), n1 25 (by omega), n2 26 (by omega), n2 27 (by omega), n2 28 (by omega)]
    exact a2
  · have := a3 kd hk
    have hR : RKo G kd (v.1 24) v (os kd) ↔ RKo G kd (u.1 24) u (os kd) := by
      rw [n1 24 (by omega)]
      cases os kd with
      | none => unfold RKo; rw [n2 44 (by omega)]
      | some A =>
        unfold RKo RAu RMn RSt mK mC
        rw [n2 38 (by omega), n2 39 (by omega), n2 40 (by omega), n2 41 (by omega), n2 42 (by omega), n2 43 (by omega), n2 44 (by omega)]
    unfold RK SLM SRM at this ⊢
    rw [hR, n1 29 (by omega), n1 25 (by omega), n2 26 (by omega), n2 27 (by omega), n2 28 (by omega), n2 30 (by omega)]
    exact this
end MTh
