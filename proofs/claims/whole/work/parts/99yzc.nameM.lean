/-! name, names of the reference. -/
theorem RGr.fr2 {G : ZGT} {os : Nat → Option ZAS} {u v : SM} {ks as : List Nat} (h : RGr G os u) (f : frM ks as u v) (h1 : ∀ k ∈ ks, k < 15 ∨ 29 < k) (h2 : ∀ a ∈ as, a < 15 ∨ (30 < a ∧ a < 38) ∨ 44 < a) : RGr G os v := h.fr f h1 h2
section NamM
variable {G : ZGT} {s : SM} {nb : Nat → Int32} {sl : Nat → Nat} {os : Nat → Option ZAS}
theorem m_name (h : RGr G os s) (hTM : TMc G nb sl s) (x y : Int32) : EvQ ZR mX12_name [.ref 0, .int x, .int y] s (rfV G os s (zvNm G nb x y)) := by
  have hb := h.1.b
  refine EQ_V vX12_name rfl ?_
  refine RQ_n ZR_ok 2 rfl trivial ?_
  refine RQ_v vX12_isNamed (m_isNamed h.1 x) rfl k12_310 rfl rfl rfl rfl rfl ?_
  have no : RnQ ZR mX12_name (17, [some (.ref 0), some (.int x), some (.int y)], [], s) (rfV G os s (-1)) := by
    refine RQ_n ZR_ok 1 rfl trivial ?_
    exact RQ_to (Rn_iret rfl rfl) ⟨rfl, h, frV.rf⟩
  unfold zvNm
  cases e : zix x (zgN G) with
  | none => exact RQ_b rfl (fun _ => no) (fun z => absurd rfl z)
  | some n =>
  obtain ⟨n1, n2⟩ := zix_s e
  subst n2
  have hin : vp_in (nI n) 6 := nI_in (by omega) (by omega)
  have hic : (nI n).toNatClampNeg = n := nI_clamp (by omega)
  refine RQ_b rfl (fun z => absurd (show (1 : Int32) = 0 from z) (by decide)) (fun _ => ?_)
  refine RQ_n ZR_ok 3 rfl trivial ?_
  refine RQ_s vX12_in (e_in s y 0 4) rfl k12_170 rfl rfl rfl rfl ?_
  rw [show inB y 0 4 = (zix y 5).isSome from zix_in1 (n := 4) (by omega)]
  dsimp only
  cases e2 : zix y 5 with
  | none => exact RQ_b rfl (fun z => absurd rfl z) (fun _ => no)
  | some j =>
  obtain ⟨j1, j2⟩ := zix_s e2
  refine RQ_b rfl (fun _ => ?_) (fun z => absurd (show ¬ (1 : Int32) = 0 by decide) z)
  refine RQ_n ZR_ok 1 rfl trivial ?_
  refine RQ_V vX12_laySets (m_laySets h.1 h.2.1) rfl k12_313 rfl rfl rfl rfl (fun _ _ _ => rfl) ?_
  rintro r1 v ⟨rfl, q1, q2, q3⟩
  obtain ⟨a1, a2, a3, S, a4, a5⟩ := q1.all h.1.1
  have hR := h.sl q1 q2 q3
  have hf : frV s v := q3.v (by decide) (by decide)
  refine RQ_n ZR_ok 1 rfl trivial ?_
  rcases (show j = 0 ∨ j = 1 ∨ j = 2 ∨ j = 3 ∨ j = 4 by omega) with q | q | q | q | q <;> subst q <;> subst j2
  · obtain ⟨rr, ss, hq, hr⟩ : RnQ ZR mX12_name (56, [some (.ref 0), some (.int (nI n)), some (.int (nI 0))], [], v) (rfV G os s (bI (bt (zE0 G) n))) := by
      refine RQ_n ZR_ok 3 rfl trivial ?_
      refine RQ_s vX12_has (e_has v (v.1 25) (nI n)) rfl k12_237 rfl rfl rfl rfl ?_
      rw [a1, hasB_bt _ (by omega)]
      cases bt (zE0 G) n with
      | true =>
        refine RQ_b rfl (fun z => absurd (show (1 : Int32) = 0 from z) (by decide)) (fun _ => ?_)
        refine RQ_n ZR_ok 2 rfl trivial ?_
        exact RQ_to (Rn_iret rfl rfl) ⟨rfl, hR, hf⟩
      | false =>
        refine RQ_b rfl (fun _ => ?_) (fun z => absurd rfl z)
        refine RQ_n ZR_ok 1 rfl trivial ?_
        exact RQ_to (Rn_iret rfl rfl) ⟨rfl, hR, hf⟩
    exact ⟨rr, ss, hq, Rn_swI (off := 32) (tgt := 56) rfl (by decide) (by decide) rfl rfl hr⟩
  · obtain ⟨rr, ss, hq, hr⟩ : RnQ ZR mX12_name (73, [some (.ref 0), some (.int (nI n)), some (.int (nI 1))], [], v) (rfV G os s (zF0 G n)) := by
      refine RQ_n ZR_ok 4 rfl ⟨hin, trivial⟩ ?_
      rw [hic, a2 n (by omega)]
      exact RQ_to (Rn_iret rfl rfl) ⟨rfl, hR, hf⟩
    exact ⟨rr, ss, hq, Rn_swI (off := 49) (tgt := 73) rfl (by decide) (by decide) rfl rfl hr⟩
  · obtain ⟨rr, ss, hq, hr⟩ : RnQ ZR mX12_name (80, [some (.ref 0), some (.int (nI n)), some (.int (nI 2))], [], v) (rfV G os s (zW0 G n)) := by
      refine RQ_n ZR_ok 4 rfl ⟨hin, trivial⟩ ?_
      rw [hic, a3 n (by omega)]
      exact RQ_to (Rn_iret rfl rfl) ⟨rfl, hR, hf⟩
    exact ⟨rr, ss, hq, Rn_swI (off := 56) (tgt := 80) rfl (by decide) (by decide) rfl rfl hr⟩
  · obtain ⟨rr, ss, hq, hr⟩ : RnQ ZR mX12_name (87, [some (.ref 0), some (.int (nI n)), some (.int (nI 3))], [], v) (rfV G os s (zSI (zSh G n))) := by
      obtain ⟨k1, k2⟩ := a4 n (by omega)
      rw [a5 n (by omega)] at k1 k2
      refine RQ_n ZR_ok 5 rfl ⟨hin, trivial⟩ ?_
      rw [hic, k1]
      refine RQ_b rfl (fun z => ?_) (fun z => ?_)
      · have z := (not_congr (zq_le (a := 1000000) (b := zSh G n) rfl rfl (by omega) (by omega))).mp (Int32.not_le.mpr z)
        refine RQ_n ZR_ok 4 rfl ⟨hin, trivial⟩ ?_
        rw [hic, k1]
        refine RQ_to (Rn_iret rfl rfl) ⟨?_, hR, hf⟩
        rw [zSI, if_neg (by omega)]
      · have z := (zq_le (a := 1000000) (b := zSh G n) rfl rfl (by omega) (by omega)).mp (Int32.not_lt.mp z)
        refine RQ_n ZR_ok 2 rfl trivial ?_
        refine RQ_to (Rn_iret rfl rfl) ⟨?_, hR, hf⟩
        rw [zSI, if_pos (by omega)]
    exact ⟨rr, ss, hq, Rn_swI (off := 63) (tgt := 87) rfl (by decide) (by decide) rfl rfl hr⟩
  · obtain ⟨rr, ss, hq, hr⟩ : RnQ ZR mX12_name (110, [some (.ref 0), some (.int (nI n)), some (.int (nI 4))], [], v) (rfV G os s (nb n)) := by
      refine RQ_n ZR_ok 4 rfl ⟨hin, trivial⟩ ?_
      rw [hic, q3.2.1 21 (by decide), hTM.1 n n1]
      exact RQ_to (Rn_iret rfl rfl) ⟨rfl, hR, hf⟩
    exact ⟨rr, ss, hq, Rn_swO (tgt := 110) rfl (by decide) rfl hr⟩
theorem m_names (h : RGr G os s) (x : Int32) : EvQ ZR mX12_names [.ref 0, .int x] s (rfV G os s (zvNs G x)) := by
  have hb := h.1.b
  refine EQ_V vX12_names rfl ?_
  refine RQ_n ZR_ok 2 rfl trivial ?_
  rw [h.1.2.1.1]
  refine RQ_b rfl (fun z => ?_) (fun _ => ?_)
  · have := (zq_eq (a := zgR G) (b := 0) rfl rfl (by omega) (by omega)).mp z
    omega
  refine RQ_n ZR_ok 3 rfl trivial ?_
  refine RQ_s vX12_in (e_in s x 0 3) rfl k12_170 rfl rfl rfl rfl ?_
  rw [show inB x 0 3 = (zix x 4).isSome from zix_in1 (n := 3) (by omega)]
  unfold zvNs
  cases e2 : zix x 4 with
  | none =>
    refine RQ_b rfl (fun z => absurd rfl z) (fun _ => ?_)
    refine RQ_n ZR_ok 1 rfl trivial ?_
    exact RQ_to (Rn_iret rfl rfl) ⟨rfl, h, frV.rf⟩
  | some j =>
  obtain ⟨j1, j2⟩ := zix_s e2
  refine RQ_b rfl (fun _ => ?_) (fun z => absurd (show ¬ (1 : Int32) = 0 by decide) z)
  refine RQ_n ZR_ok 1 rfl trivial ?_
  refine RQ_V vX12_laySets (m_laySets h.1 h.2.1) rfl k12_313 rfl rfl rfl rfl (fun _ _ _ => rfl) ?_
  rintro r1 v ⟨rfl, q1, q2, q3⟩
  obtain ⟨a1, a2, a3, S, a4, a5⟩ := q1.all h.1.1
  have hR := h.sl q1 q2 q3
  have hf : frV s v := q3.v (by decide) (by decide)
  have hS : zEN S (zgN G) = zEN (zSh G) (zgN G) := zEN_cg _ (fun i hi => a5 i (by omega))
  subst j2
  refine RQ_n ZR_ok 1 rfl trivial ?_
  have ne : ∀ k, k < 4 → k ≠ j → ¬ nI j = nI k := fun k hk hne y => by have := (nI_eq (by omega) (by omega)).mp y; omega
  dsimp only
  by_cases c0 : j = 0
  · subst c0
    rw [if_pos rfl]
    refine RQ_b rfl (fun z => absurd rfl z) (fun _ => ?_)
    refine RQ_n ZR_ok 1 rfl trivial ?_
    refine RQ_V vX12_leftOnes (m_leftOnes hR.1) rfl k12_337 rfl rfl rfl rfl (fun _ _ _ => rfl) ?_
    rintro r2 w ⟨rfl, p⟩
    rw [a1]
    refine RQ_n ZR_ok 1 rfl trivial ?_
    exact RQ_to (Rn_iret rfl rfl) ⟨rfl, hR.fr p (by decide) (by decide), hf.tr (p.v (by decide) (by decide))⟩
  rw [if_neg c0]
  refine RQ_b rfl (fun _ => ?_) (fun z => absurd (ne 0 (by omega) (by omega)) z)
  refine RQ_n ZR_ok 2 rfl trivial ?_
  by_cases c1 : j = 1
  · subst c1
    rw [if_pos rfl]
    refine RQ_b rfl (fun z => absurd rfl z) (fun _ => ?_)
    refine RQ_n ZR_ok 1 rfl trivial ?_
    refine RQ_V vX12_usefulOnes (m_usefulOnes hR.1) rfl k12_340 rfl rfl rfl rfl (fun _ _ _ => rfl) ?_
    rintro r2 w ⟨rfl, p⟩
    rw [a1]
    refine RQ_n ZR_ok 1 rfl trivial ?_
    exact RQ_to (Rn_iret rfl rfl) ⟨rfl, hR.fr p (by decide) (by decide), hf.tr (p.v (by decide) (by decide))⟩
  rw [if_neg c1]
  refine RQ_b rfl (fun _ => ?_) (fun z => absurd (ne 1 (by omega) (by omega)) z)
  refine RQ_n ZR_ok 2 rfl trivial ?_
  by_cases c2 : j = 2
  · subst c2
    rw [if_pos rfl]
    refine RQ_b rfl (fun z => absurd rfl z) (fun _ => ?_)
    refine RQ_n ZR_ok 3 rfl trivial ?_
    rw [a1]
    exact RQ_to (Rn_iret rfl rfl) ⟨rfl, hR, hf⟩
  rw [if_neg c2]
  refine RQ_b rfl (fun _ => ?_) (fun z => absurd (ne 2 (by omega) (by omega)) z)
  refine RQ_n ZR_ok 1 rfl trivial ?_
  refine RQ_v vX12_endingOnes (m_endingOnes hR.1 a4) rfl k12_343 rfl rfl rfl rfl rfl ?_
  rw [hS]
  exact RQ_to (Rn_iret rfl rfl) ⟨rfl, hR, hf⟩
end NamM
