/-! Which items a closure has depends on the kernel's core alone; so does the core behind a letter. -/
theorem bsub_m1 {x : Int32} : bsub x (-1) := fun i h => by
  by_cases hi : i < 32
  · exact b_m1 i hi
  · rw [b_big (by omega)] at h; cases h
theorem zlC_co1 {G : ZGT} {E : Int32} {F k k' C C' : Nat → Int32} (hG : GW G) (h : zlC G E F k C) (h' : zcC G E F k' C') (hz : zco k k') {i : Nat} (hi : i < 102) (hc : C i ≠ 0) : C' i ≠ 0 := by
  have hD : zcC G E F k (fun j => if C' j = 0 then 0 else -1) := by
    refine ⟨fun j hj => ?_, fun r hr d hd h8 hne q hq h1 h2 => ?_⟩
    · show bsub (k j) (if C' j = 0 then 0 else -1)
      by_cases y : C' j = 0
      · rw [if_pos y]
        by_cases w : k j = 0
        · rw [w]; exact bsub_0
        · exact absurd y (bsub_ne (h'.1 j hj) (fun y2 => w ((hz j hj).mpr y2)))
      · rw [if_neg y]; exact bsub_m1
    · show bsub _ (if C' (6 * q) = 0 then 0 else -1)
      have hne : (if C' (6 * r + d) = 0 then (0 : Int32) else -1) ≠ 0 := hne
      have hne' : C' (6 * r + d) ≠ 0 := fun y => hne (if_pos y)
      by_cases y : C' (6 * q) = 0
      · rw [if_pos y]
        have h3 := h'.2 r hr d hd h8 hne' q hq h1 h2
        rw [y] at h3
        unfold zLB at h3 ⊢
        by_cases z : zAE G E r (d + 1) = true
        · rw [if_pos z] at h3
          exact absurd (bsub_an (bsub_tr bsub_r h3) bsub_0) hne'
        · rw [if_neg z] at h3 ⊢
          exact h3
      · rw [if_neg y]; exact bsub_m1
  have h4 : bsub (C i) (if C' i = 0 then 0 else -1) := h.2 _ hD i hi
  intro y
  rw [if_pos y] at h4
  exact bsub_ne h4 hc rfl
theorem zlC_co {G : ZGT} {E : Int32} {F k k' C C' : Nat → Int32} (hG : GW G) (h : zlC G E F k C) (h' : zlC G E F k' C') (hz : zco k k') : zco C C' := fun i hi =>
  ⟨fun y => Classical.byContradiction (fun w => zlC_co1 hG h' h.1 (zco_sy hz) hi w y), fun y => Classical.byContradiction (fun w => zlC_co1 hG h h'.1 hz hi w y)⟩
theorem zNX_co {G : ZGT} {C C' : Nat → Int32} {b : Nat} (h : zco C C') : zco (zNX G C b) (zNX G C' b) := by
  intro i hi
  unfold zNX
  split
  · exact h (i - 1) (by omega)
  · exact Iff.rfl
/-- goals fit the cores behind the letters -/
def zCG (G : ZGT) (E : Int32) (F : Nat → Int32) (A : ZAS) : Prop := ∀ s, s < A.1 → ∀ b, b < 14 → ∀ w, A.2.2.1 s b = some w → zco (A.2.1 w) (zNX G (zcl G E F (A.2.1 s)) b)
