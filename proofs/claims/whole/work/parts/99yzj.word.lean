/-! word, keep: both sides. -/
theorem ZFX.sh {G : ZGT} {u : SX} (h : ZFX G u) : SB (zSh G) ∧ SR (zSh G) u := by
  obtain ⟨-, -, -, a4, -, -⟩ := h.all
  obtain ⟨-, -, -, -, -, ⟨S, s1, s2, -⟩, -⟩ := h
  exact ⟨fun n hn => by rw [← zSh_eq s1 hn]; exact s2 n hn, a4⟩
noncomputable def zvWo (G : ZGT) (z : Int64) (y : Int32) : Int32 := match zwd G (zSh G) z with
  | none => -1
  | some lw => if y = -1 then nI lw.1 else match zix y lw.1 with
    | none => -1
    | some i => nI (lw.2 i)
noncomputable def zkp (G : ZGT) (m : Nat) (z : Int64) : Option (Nat × (Nat → Nat)) := if m = 4 then none else match zwd G (zSh G) z with
  | none => none
  | some lw => if 24 < lw.1 then none else some lw
def kpm (o : Option (Nat × (Nat → Nat))) (m : Nat) : Nat := match o with | none => m | some _ => m + 1
def kpl (o : Option (Nat × (Nat → Nat))) (m : Nat) (ln : Nat → Nat) : Nat → Nat := match o with | none => ln | some lw => fun k => if k = m then lw.1 else ln k
def kpy (o : Option (Nat × (Nat → Nat))) (m : Nat) (sl : Nat → Nat) (yy : Nat → Nat → Nat) : Nat → Nat → Nat := match o with | none => yy | some lw => fun k j => if k = m then sl (lw.2 j) else yy k j
def kpv (o : Option (Nat × (Nat → Nat))) (m : Nat) : Int32 := match o with | none => -1 | some _ => nI m
def frKp (u v : SX) : Prop := (∀ b j, (b, j) ∉ [(97, 3), (11, 0)] → v.1 b j = u.1 b j) ∧ (∀ a, a ∉ [98, 12, 13] → v.2.1 a = u.2.1 a) ∧ (∀ b, b ≠ 97 → v.2.2.1 b = u.2.2.1 b) ∧ v.2.2.2 = u.2.2.2
theorem frDw.kp {u v : SX} (f : frDw u v) : frKp u v := ⟨fun b j hb => f.1 b j (fun y => hb (by rw [y]; decide)), fun a ha => f.2.1 a (fun y => ha (by rw [y]; decide)), f.2.2.1, f.2.2.2⟩
theorem frKp.tr {u v w : SX} (h1 : frKp u v) (h2 : frKp v w) : frKp u w := ⟨fun b j hb => (h2.1 b j hb).trans (h1.1 b j hb), fun a ha => (h2.2.1 a ha).trans (h1.2.1 a ha), fun b hb => (h2.2.2.1 b hb).trans (h1.2.2.1 b hb), h2.2.2.2.trans h1.2.2.2⟩
theorem frKp.of {u v : SX} (f : frX [(11, 0)] [12, 13] u v) : frKp u v := ⟨fun b j hb => f.1 b j (fun y => hb (by rw [List.mem_singleton.mp y]; decide)), fun a ha => f.2.1 a (fun y => ha (by simp only [List.mem_cons, List.not_mem_nil, or_false] at y ⊢; omega)), fun b _ => by rw [f.2.2], by rw [f.2.2]⟩
theorem SnX.dw {m : Nat} {ln : Nat → Nat} {yy : Nat → Nat → Nat} {u v : SX} (h : SnX m ln yy u) (f : frDw u v) : SnX m ln yy v := by
  unfold SnX at h ⊢
  rw [f.1 11 0 (by decide), f.2.1 12 (by decide), f.2.1 13 (by decide)]; exact h
section WrdX
variable {G : ZGT} {u : SX} {m : Nat} {ln : Nat → Nat} {yy : Nat → Nat → Nat} {nb : Nat → Int32} {sl : Nat → Nat} {s : SM} {os : Nat → Option ZAS}
theorem y_word {P : YP} (h : ZFX G u) (z : Int64) (y : Int32) : EvQ (ZY P) mX11_word [.ref 0, .long z, .int y] u (fun x v => x = some (.int (zvWo G z y)) ∧ frDw u v) := by
  have hb := h.1.b
  obtain ⟨hS, hR⟩ := h.sh
  refine EQ_V vX11_word rfl ?_
  refine RQ_n (ZY_ok P) 3 rfl trivial ?_
  rw [h.1.2.1.1]
  refine RQ_b rfl (fun q => ?_) (fun _ => ?_)
  · have := (zq_eq (a := zgR G) (b := 0) rfl rfl (by omega) (by omega)).mp q
    omega
  refine RQ_n (ZY_ok P) 3 rfl trivial ?_
  refine RQ_V vX3_make (y_make h.1 hS hR z) rfl k11_411 rfl rfl rfl (zy97 _ rfl) (fun _ s1 q => by show 3 * s1.2.2.2.2.1 + 99 = 3 * u.2.2.2.2.1 + 99; rw [q.2.2.2.2.2]) ?_
  rintro r1 v ⟨rfl, q1, q2⟩
  unfold zvWo
  cases e : zwd G (zSh G) z with
  | none =>
    refine RQ_b rfl (fun q => absurd rfl q) (fun _ => ?_)
    refine RQ_n (ZY_ok P) 1 rfl trivial ?_
    exact RQ_to (Rn_iret rfl rfl) ⟨rfl, q2⟩
  | some lw =>
  obtain ⟨l, w⟩ := lw
  obtain ⟨⟨w1, w2⟩, w3, w4⟩ := q1 l w e
  refine RQ_b rfl (fun _ => ?_) (fun q => absurd (show ¬ (1 : Int32) = 0 by decide) q)
  refine RQ_n (ZY_ok P) 2 rfl trivial ?_
  dsimp only
  by_cases hy : y = -1
  · rw [if_pos hy]
    refine RQ_b rfl (fun q => absurd hy q) (fun _ => ?_)
    refine RQ_n (ZY_ok P) 3 rfl trivial ?_
    rw [w1]
    exact RQ_to (Rn_iret rfl rfl) ⟨rfl, q2⟩
  rw [if_neg hy]
  refine RQ_b rfl (fun _ => ?_) (fun q => absurd hy q)
  refine RQ_n (ZY_ok P) 1 rfl trivial ?_
  have no : RnQ (ZY P) mX11_word (51, [some (.ref 0), some (.long z), none, some (.int y)], [], v) (fun x v => x = some (.int (-1)) ∧ frDw u v) := by
    refine RQ_n (ZY_ok P) 2 rfl trivial ?_
    exact RQ_to (Rn_iret rfl rfl) ⟨rfl, q2⟩
  cases e2 : zix y l with
  | none =>
    refine RQ_b rfl (fun _ => no) (fun q => ?_)
    refine RQ_n (ZY_ok P) 4 rfl trivial ?_
    rw [w1]
    exact RQ_b rfl (fun q2 => absurd (zix_ge (by omega) e2 q) (Int32.not_le.mpr q2)) (fun _ => no)
  | some i =>
  obtain ⟨i1, i2⟩ := zix_s e2
  obtain ⟨z1, z2⟩ := zix_lt (by omega) e2
  refine RQ_b rfl (fun q => absurd q z1) (fun _ => ?_)
  refine RQ_n (ZY_ok P) 4 rfl trivial ?_
  rw [w1]
  refine RQ_b rfl (fun _ => ?_) (fun q => absurd (Int32.not_lt.mp q) z2)
  subst i2
  refine RQ_n (ZY_ok P) 5 rfl ⟨nI_in (by omega) (by omega), trivial⟩ ?_
  rw [nI_clamp (by omega), w2 i i1]
  exact RQ_to (Rn_iret rfl rfl) ⟨rfl, q2⟩
theorem m_word (h : RGr G os s) (z : Int64) (y : Int32) : EvQ ZR mX12_word [.ref 0, .long z, .int y] s (rfV G os s (zvWo G z y)) := by
  have hb := h.1.b
  refine EQ_V vX12_word rfl ?_
  refine RQ_n ZR_ok 2 rfl trivial ?_
  refine RQ_V vX12_layWord (m_layWord h z) rfl k12_566 rfl rfl rfl rfl (fun _ _ _ => rfl) ?_
  rintro r1 v ⟨rfl, q1, q2, q3⟩
  unfold zvWo
  have no : RnQ ZR mX12_word (22, [some (.ref 0), some (.long z), none, some (.int y)], [], v) (rfV G os s (-1)) := by
    refine RQ_n ZR_ok 1 rfl trivial ?_
    exact RQ_to (Rn_iret rfl rfl) ⟨rfl, q2, q3⟩
  cases e : zwd G (zSh G) z with
  | none => exact RQ_b rfl (fun _ => no) (fun q => absurd rfl q)
  | some lw =>
  obtain ⟨l, w⟩ := lw
  obtain ⟨⟨w1, w2⟩, w3, w4⟩ := q1 l w e
  refine RQ_b rfl (fun q => absurd (show (1 : Int32) = 0 from q) (by decide)) (fun _ => ?_)
  refine RQ_n ZR_ok 6 rfl trivial ?_
  rw [w1]
  refine RQ_s vX12_in (e_in v y (-1) (nI l - 1)) rfl k12_170 rfl rfl rfl rfl ?_
  rw [inB_m1 (by omega)]
  dsimp only
  by_cases hy : y = -1
  · rw [if_pos hy, decide_eq_true hy, Bool.true_or]
    refine RQ_b rfl (fun _ => ?_) (fun q => absurd (show ¬ (1 : Int32) = 0 by decide) q)
    refine RQ_n ZR_ok 2 rfl trivial ?_
    refine RQ_b rfl (fun q => absurd hy q) (fun _ => ?_)
    refine RQ_n ZR_ok 3 rfl trivial ?_
    rw [w1]
    exact RQ_to (Rn_iret rfl rfl) ⟨rfl, q2, q3⟩
  rw [if_neg hy, decide_eq_false hy, Bool.false_or]
  cases e2 : zix y l with
  | none => exact RQ_b rfl (fun q => absurd rfl q) (fun _ => no)
  | some i =>
  obtain ⟨i1, i2⟩ := zix_s e2
  refine RQ_b rfl (fun _ => ?_) (fun q => absurd (show ¬ (1 : Int32) = 0 by decide) q)
  refine RQ_n ZR_ok 2 rfl trivial ?_
  refine RQ_b rfl (fun _ => ?_) (fun q => absurd hy q)
  subst i2
  refine RQ_n ZR_ok 4 rfl ⟨nI_in (by omega) (by omega), trivial⟩ ?_
  have h4 := w4 i i1
  rw [nI_clamp (by omega), w2 i i1, zlm_8 (by omega)]
  exact RQ_to (Rn_iret rfl rfl) ⟨rfl, q2, q3⟩
end WrdX
