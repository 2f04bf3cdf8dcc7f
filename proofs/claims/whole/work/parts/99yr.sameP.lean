/-! same of the reference: its value; isThere leaves the other kinds laid. -/
/-- which words are well by the one and not by the other -/
noncomputable def zqw (G : ZGT) (M N : ZNM) (p : Int32) (L w : Nat) : Bool := decide ((zcan G M p 0 L (zdg (zgT G) L w)).1 = 1) && !decide ((zcan G N p 0 L (zdg (zgT G) L w)).1 = 1)
noncomputable def zsa (G : ZGT) (M N : ZNM) (p : Int32) : Nat → Nat → Int32
  | 0, _ => -1
  | n + 1, L => match zft (zqw G M N p L) (zgT G ^ L) 0 with
    | some w => zwn (zdg (zgT G) L w) L
    | none => zsa G M N p n (L + 1)
noncomputable def zvSa (G : ZGT) (o1 o2 : Option ZAS) (p x : Int32) : Int32 := match o1, o2, zix x 5 with
  | some A, some B, some m => zsa G (zN A) (zN B) p (m + 1) 0
  | _, _, _ => -1
section MSame
variable {G : ZGT} {kd : Nat} {os : Nat → Option ZAS} {u : SM}
theorem zsa_s {M N : ZNM} {p : Int32} {n L : Nat} : zsa G M N p (n + 1) L = match zft (zqw G M N p L) (zgT G ^ L) 0 with
    | some w => zwn (zdg (zgT G) L w) L
    | none => zsa G M N p n (L + 1) := rfl
theorem zT4 {T L : Nat} (hT : T ≤ 8) (hL : L ≤ 5) : T ^ L ≤ 32768 := Nat.le_trans (Nat.pow_le_pow_left hT L) (Nat.le_trans (Nat.pow_le_pow_right (by decide) hL) (by decide))
set_option maxHeartbeats 1000000 in
theorem m_isThere2 (hk3 : kd < 3) (hZ : ∀ kd, kd < 3 → ZAt G kd (os kd)) (h : RGr G os u) : EvQ ZR mX12_isThere [.ref 0, .int (nI kd)] u (fun x v => x = some (.int (bI (os kd).isSome)) ∧ RGr G os v ∧ v.2.1 30 kd = 1 ∧ frM [25, 29, 48] [26, 27, 28, 30, 38, 39, 40, 41, 42, 43, 44, 45, 46, 47, 49, 50, 51, 52] u v ∧ ∀ kd', u.2.1 30 kd' = 1 → v.2.1 30 kd' = 1) := by
  obtain ⟨hG, h29, hK⟩ := id h
  have hb := hG.b
  have hin : vp_in (nI kd) 3 := nI_in (by omega) (by omega)
  have hic : (nI kd).toNatClampNeg = kd := nI_clamp (by omega)
  have fin : ∀ v : SM, RGr G os v → v.2.1 30 kd = 1 → frM [25, 29, 48] [26, 27, 28, 30, 38, 39, 40, 41, 42, 43, 44, 45, 46, 47, 49, 50, 51, 52] u v → (∀ kd', u.2.1 30 kd' = 1 → v.2.1 30 kd' = 1) → RnQ ZR mX12_isThere (39, [some (.ref 0), some (.int (nI kd))], [], v) (fun x v => x = some (.int (bI (os kd).isSome)) ∧ RGr G os v ∧ v.2.1 30 kd = 1 ∧ frM [25, 29, 48] [26, 27, 28, 30, 38, 39, 40, 41, 42, 43, 44, 45, 46, 47, 49, 50, 51, 52] u v ∧ ∀ kd', u.2.1 30 kd' = 1 → v.2.1 30 kd' = 1) := by
    intro v hv h30 hf hk'
    refine RQ_n ZR_ok 4 rfl ⟨hin, trivial⟩ ?_
    rw [hic]
    rcases hv.2.2 kd hk3 with y | ⟨-, -, y1, y⟩
    · rw [h30] at y; exact absurd y (by decide)
    cases ho : os kd with
    | none =>
      rw [ho] at y
      have y : v.2.1 44 kd = 0 := y
      rw [y]
      refine RQ_b rfl (fun _ => ?_) (fun z => absurd (show (0 : Int32) ≤ 0 by decide) z)
      refine RQ_n ZR_ok 1 rfl trivial ?_
      exact RQ_to (Rn_zret rfl rfl (Or.inl rfl)) ⟨rfl, hv, h30, hf, hk'⟩
    | some A =>
      rw [ho] at y
      have y : RAu G (zE0 G) (zF0 G) kd (v.1 24) (zN A) v := y
      have hn := zN_F (ZAt_all hG.1 y1.c.2.1 (ho ▸ hZ kd hk3)) (show ZAt G kd (some A) from ho ▸ hZ kd hk3).2
      have hn1 := hn.1
      rw [y.1.1]
      refine RQ_b rfl (fun z => ?_) (fun _ => ?_)
      · have := (zq_le (a := (zN A).1) (b := 0) rfl rfl (by omega) (by omega)).mp z
        omega
      refine RQ_n ZR_ok 2 rfl trivial ?_
      exact RQ_to (Rn_zret rfl rfl (Or.inr rfl)) ⟨rfl, hv, h30, hf, hk'⟩
  refine EQ_V vX12_isThere rfl ?_
  refine RQ_n ZR_ok 2 rfl trivial ?_
  rw [hG.2.1.1]
  refine RQ_b rfl (fun z => ?_) (fun _ => ?_)
  · have := (zq_eq (a := zgR G) (b := 0) rfl rfl (by omega) (by omega)).mp z
    omega
  refine RQ_n ZR_ok 3 rfl trivial ?_
  refine RQ_s vX12_in (e_in u (nI kd) 0 2) rfl k12_170 rfl rfl rfl rfl ?_
  rw [show inB (nI kd) 0 2 = true from in_yes1 (n := 2) (by omega) (by omega)]
  refine RQ_b rfl (fun _ => ?_) (fun z => absurd (Classical.not_not.mp z) (show ¬ (1 : Int32) = 0 by decide))
  refine RQ_n ZR_ok 4 rfl ⟨hin, trivial⟩ ?_
  rw [hic]
  rcases hK kd hk3 with y | ⟨y, -⟩
  · rw [y]
    refine RQ_b rfl (fun z => absurd rfl z) (fun _ => ?_)
    refine RQ_n ZR_ok 4 rfl trivial ?_
    refine RQ_n ZR_ok 1 rfl ⟨hin, trivial⟩ ?_
    rw [hic]
    obtain ⟨v1, hv1⟩ : ∃ w : SM, w = (u.1, updA u.2.1 30 kd 1, u.2.2) := ⟨_, rfl⟩
    show RnQ ZR mX12_isThere (_, _, _, ((u.1, updA u.2.1 30 kd 1, u.2.2) : SM)) _
    rw [← hv1]
    have f1 : frM [] [30] u v1 := by rw [hv1]; exact frM.a 30 (by decide)
    have h30 : v1.2.1 30 = upd (u.2.1 30) kd 1 := by rw [hv1]; rfl
    have h29' : v1.1 29 = 0 ∨ (v1.1 29 = 1 ∧ SLM G v1) := by
      unfold SLM SRM at h29 ⊢
      rw [f1.1 29 (by decide), f1.1 25 (by decide), f1.2.1 26 (by decide), f1.2.1 27 (by decide), f1.2.1 28 (by decide)]
      exact h29
    refine RQ_n ZR_ok 2 rfl trivial ?_
    refine RQ_V vX12_layAutomaton (m_layAutomaton (hG.fr f1 rfl) hk3 h29') rfl k12_405 rfl rfl rfl rfl (fun _ _ _ => rfl) (fun r1 v2 h2 => ?_)
    obtain ⟨rfl, a1, a2, a3, a4, a5⟩ := h2
    have F2 : frM [25, 29, 48] [26, 27, 28, 30, 38, 39, 40, 41, 42, 43, 44, 45, 46, 47, 49, 50, 51, 52] u v2 := (f1.up (by decide) (by decide)).tr (a4.up (by decide) (by decide))
    have e30 : v2.2.1 30 = upd (u.2.1 30) kd 1 := by rw [a4.2.1 30 (by decide)]; exact h30
    have e24 : v2.1 24 = u.1 24 := F2.1 24 (by decide)
    refine fin v2 ⟨hG.fr F2 rfl, Or.inr ⟨a2, a1⟩, fun kd' hk' => ?_⟩ (by rw [e30, upd_at]) F2 (fun kd' hq => by
      rw [e30]
      by_cases q : kd' = kd
      · rw [q, upd_at]
      · rw [upd_ne q]; exact hq)
    by_cases q : kd' = kd
    · subst q
      refine Or.inr ⟨by rw [e30, upd_at], a2, a1, ?_⟩
      have := a3.k hG.1 a1.c.2.2.1 a1.c.2.2.2 (hZ kd' hk3)
      rw [f1.1 24 (by decide), ← e24] at this
      exact this
    · rcases hK kd' hk' with x | ⟨x1, x2, x3, x4⟩
      · exact Or.inl (by rw [e30, upd_ne q]; exact x)
      · refine Or.inr ⟨by rw [e30, upd_ne q]; exact x1, a2, a1, ?_⟩
        have hZ' := hZ kd' hk'
        have o1 : v1.2.1 = updA u.2.1 30 kd 1 := by rw [hv1]
        have oo : oKa kd u v1 := oKd.a ⟨fun j _ => ⟨by rw [f1.2.1 38 (by decide)], by rw [f1.2.1 39 (by decide)]⟩, fun j _ => by rw [f1.2.1 40 (by decide)], fun j _ => by rw [f1.2.1 44 (by decide)]⟩ (f1.2.1 41 (by decide)) (f1.2.1 42 (by decide)) (f1.2.1 43 (by decide))
        have oo2 := oo.tr a5
        cases ho : os kd' with
        | none =>
          rw [ho] at x4
          have x4 : u.2.1 44 kd' = 0 := x4
          show v2.2.1 44 kd' = 0
          rw [oo2.1.2.2 kd' q]; exact x4
        | some A =>
          rw [ho] at x4 hZ'
          have x4 : RAu G (zE0 G) (zF0 G) kd' (u.1 24) (zN A) u := x4
          have hn := zN_F (ZAt_all hG.1 x3.c.2.1 hZ') hZ'.2
          show RAu G (zE0 G) (zF0 G) kd' (v2.1 24) (zN A) v2
          rw [e24]
          exact x4.o hn.1.2 hb.2.2.2.2 hb.1 q oo2
  · rw [y]
    refine RQ_b rfl (fun _ => ?_) (fun z => absurd (Classical.not_not.mp z) (show ¬ (1 : Int32) = 0 by decide))
    exact fin u h y frM.rf (fun _ hq => hq)
end MSame
