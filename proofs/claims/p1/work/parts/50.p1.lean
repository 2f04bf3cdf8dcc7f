/-! p1: one call on new objects. -/
theorem xisR0 (r : Int32) : xisR sX0 r = false := by
  show (decide ((0 : Int32) ≤ r) && decide (r < (0 : Int32))) = false
  by_cases h : r < 0
  · rw [decide_eq_false (Int32.not_le.mpr h), Bool.false_and]
  · rw [decide_eq_false h, Bool.and_false]
theorem RA0 : RA sX0 sM0 I1 := fun r w => Or.inl ⟨by rw [xisR0, Bool.false_and], by rw [inB_no (show sM0.1 15 = 0 from rfl), Bool.false_and], Nat.zero_le _⟩
def IvP (j : Nat) (a : SX) (b : SM) : Prop := match j with
  | 0 => a = sX0 ∧ b = sM0
  | _ + 1 => I1 a b
theorem whole_start {p : Program} {e : Env} {s : State} {m : MethodId} {below : List Frame} {meth : Method} {c : Code} {b L : Nat} {xs : Nat → Int32} (l : Launch) (hflags : l.flags = flags0) (hL : L ≤ 6) (C0 : lw_At p s m meth c b L xs) :
    W p l e room_1 s m #[Value.ref b] below meth c s.heap [] 0 0 (lw_Z below #[Value.ref b] s) (entryFrame m ([Value.ref b] : List Value).toArray 7) := by
  have hfl : l.stackTraces = false := by
    unfold Launch.stackTraces
    rw [hflags]
    decide +kernel
  refine law_enter (l0 := l) C0 (by omega) IvP ⟨rfl, rfl⟩ (fun dC dI dA qo j sX sM hj h => ?_) (fun j sX sM h => ?_)
  · have hj0 : j = 0 := by omega
    subst hj0
    obtain ⟨rfl, rfl⟩ := h
    exact ⟨sim0, Nat.zero_le _, R4_of C0 hfl RA0⟩
  · match j, h with
    | 0, h => rw [h.1]; exact Nat.zero_le _
    | _ + 1, h => exact h
