/-! The class: treesAt, addWays, joinWays. -/
theorem y_treesAt {P : YP} (u : SX) (n h : Nat) : Ev (ZY P) mX4_treesAt [.int (nI n), .int (nI h)] u (some (.int (nI ((h * 6 + n) * 9)))) u := by
  refine EQ_ev ?_
  refine EQ_T vX4_treesAt rfl ?_
  refine RQ_n (ZY_ok P) 7 rfl trivial ?_
  rw [show (nI h * 6 + nI n) * 9 = nI ((h * 6 + n) * 9) from by rw [show (6 : Int32) = nI 6 from rfl, show (9 : Int32) = nI 9 from rfl, nI_mul, nI_add, nI_mul]]
  exact RQ_to (Rn_iret rfl rfl) ⟨rfl, rfl⟩
theorem y_addWays21 {P : YP} {u : SX} {w t : Nat → Nat} {q : Nat} (h11 : u.2.2.2.1 14 11 = .ref 21) (hw : ∀ i, i < 9 → u.2.2.1 21 i = nL (w i)) (hwl : ∀ i, w i ≤ 1000000000) (ht : ∀ i, i < 9 → u.2.1 20 (q + i) = nI (t i)) (htl : ∀ i, t i ≤ 1000000000) (hq : q + 9 ≤ 378) : EvQ (ZY P) mX4_addWays [.ref 14, .int (nI q)] u (fun x v => x = none ∧ (∀ i, i < 9 → v.2.1 20 (q + i) = nI (zcp (t i + w i))) ∧ (∀ j, (j < q ∨ q + 9 ≤ j) → v.2.1 20 j = u.2.1 20 j) ∧ frX [] [20] u v) := by
  refine EQ_V vX4_addWays rfl ?_
  refine RQ_n (ZY_ok P) 2 rfl trivial ?_
  refine loopU (M := mX4_addWays) (pc := 2) 9 (fun n (_ : Unit) => [some (.ref 14), some (.int (nI q)), some (.int (nI n))]) (fun n _ v => (∀ i, i < 9 → v.2.1 20 (q + i) = nI (if i < n then zcp (t i + w i) else t i)) ∧ (∀ j, (j < q ∨ q + 9 ≤ j) → v.2.1 20 j = u.2.1 20 j) ∧ frX [] [20] u v) ?_ 0 () u (by omega) ⟨fun i hi => by rw [if_neg (by omega)]; exact ht i hi, fun _ _ => rfl, frX.rf⟩
  intro n _ v hn hJ ih
  obtain ⟨j1, j2, j3⟩ := hJ
  have e11 : v.2.2.2.1 14 11 = .ref 21 := by rw [j3.2.2]; exact h11
  have ew : v.2.2.1 21 = u.2.2.1 21 := by rw [j3.2.2]
  refine RQ_n (ZY_ok P) 2 rfl trivial ?_
  refine RQ_b rfl (fun z => ?_) (fun z => ?_)
  · have z := (zq_lt (a := 8) (b := n) rfl rfl (by omega) (by omega)).mp z
    have : n = 9 := by omega
    subst this
    refine RQ_to (Rn_vret rfl rfl) ⟨rfl, fun i hi => ?_, j2, j3⟩
    have := j1 i hi
    rw [if_pos hi] at this
    exact this
  have z := (not_congr (zq_lt (a := 8) (b := n) rfl rfl (by omega) (by omega))).mp z
  refine RQ_n (ZY_ok P) 10 rfl trivial ?_
  rw [nI_add]
  refine RQ_n (ZY_ok P) 1 rfl ⟨nI_in (by omega) (by omega), trivial⟩ ?_
  have hv := j1 n (by omega)
  rw [if_neg (by omega)] at hv
  rw [nI_clamp (by omega), hv]
  refine RQ_n (ZY_ok P) 3 rfl trivial ?_
  rw [e11, nI_lg (htl n)]
  refine RQ_n (ZY_ok P) 2 rfl ⟨nI_in (by omega) (by omega), trivial⟩ ?_
  rw [nI_clamp (by omega), ew, hw n (by omega)]
  refine RQ_n (ZY_ok P) 2 rfl trivial ?_
  rw [nL_add]
  refine RQ_minL rfl k4_151 rfl ?_
  have hb1 := htl n
  have hb2 := hwl n
  rw [minL1 (show t n + w n ≤ 1000000000000000000 by omega)]
  refine RQ_n (ZY_ok P) 4 rfl ⟨nI_in (by omega) (by omega), trivial⟩ ?_
  rw [nI_clamp (by omega), nL_i]
  refine ih (by omega) () _ _ ⟨rfl, rfl, nIs n, trivial⟩ ⟨fun i hi => ?_, fun j hj => ?_, j3.tr (frX.a 20 (by decide))⟩
  · by_cases e : i = n
    · rw [e, if_pos (by omega)]; exact upd_at
    · refine ((upd_ne (f := v.2.1 20) (by omega)).trans (j1 i hi)).trans ?_
      by_cases e2 : i < n
      · rw [if_pos e2, if_pos (by omega)]
      · rw [if_neg e2, if_neg (by omega)]
  · exact (upd_ne (f := v.2.1 20) (by omega)).trans (j2 j hj)
theorem y_joinWays21 {P : YP} {u : SX} {w t : Nat → Nat} {q : Nat} (h11 : u.2.2.2.1 14 11 = .ref 21) (h12 : u.2.2.2.1 14 12 = .ref 22) (hw : ∀ i, i < 9 → u.2.2.1 21 i = nL (w i)) (hwl : ∀ i, w i ≤ 1000000000) (ht : ∀ i, i < 9 → u.2.1 20 (q + i) = nI (t i)) (htl : ∀ i, t i ≤ 1000000000) (hq : q + 9 ≤ 378) (h0 : ∀ i, i < 9 → u.2.2.1 22 i = 0) : EvQ (ZY P) mX4_joinWays [.ref 14, .int (nI q)] u (fun x v => x = none ∧ (∀ c, c < 9 → v.2.2.1 22 c = nL (zjoi w t c)) ∧ frLo 22 u v) := by
  refine EQ_V vX4_joinWays rfl ?_
  refine RQ_n (ZY_ok P) 2 rfl trivial ?_
  refine loopU (M := mX4_joinWays) (pc := 2) 9 (fun n (_ : Unit) => [some (.ref 14), some (.int (nI q)), some (.int (nI n)), none, none, none]) (fun n _ v => (∀ c, c < 9 → v.2.2.1 22 c = nL (zjn w t c (min n (c + 1)))) ∧ frLo 22 u v) ?_ 0 () u (by omega) ⟨fun c hc => by rw [Nat.zero_min]; exact h0 c hc, frLo.rf⟩
  intro n _ v hn hJ ih
  obtain ⟨j1, j2⟩ := hJ
  refine RQ_n (ZY_ok P) 2 rfl trivial ?_
  refine RQ_b rfl (fun z => ?_) (fun z => ?_)
  · have z := (zq_lt (a := 8) (b := n) rfl rfl (by omega) (by omega)).mp z
    have : n = 9 := by omega
    subst this
    refine RQ_to (Rn_vret rfl rfl) ⟨rfl, fun c hc => ?_, j2⟩
    have := j1 c hc
    rw [show min 9 (c + 1) = c + 1 by omega] at this
    exact this
  have z := (not_congr (zq_lt (a := 8) (b := n) rfl rfl (by omega) (by omega))).mp z
  refine RQ_n (ZY_ok P) 2 rfl trivial ?_
  refine loopU (M := mX4_joinWays) (pc := 10) (9 - n) (fun m (_ : Unit) => [some (.ref 14), some (.int (nI q)), some (.int (nI n)), some (.int (nI m)), none, none]) (fun m _ x => (∀ c, c < 9 → x.2.2.1 22 c = nL (zjn w t c (if n ≤ c ∧ c < n + m then n + 1 else min n (c + 1)))) ∧ frLo 22 u x) ?_ 0 () v (by omega) ⟨fun c hc => by rw [if_neg (by omega)]; exact j1 c hc, j2⟩
  intro m _ x hm hJ2 ih2
  obtain ⟨i1, i2⟩ := hJ2
  have e11 : x.2.2.2.1 14 11 = .ref 21 := by rw [i2.2.2.2]; exact h11
  have e12 : x.2.2.2.1 14 12 = .ref 22 := by rw [i2.2.2.2]; exact h12
  have ew : x.2.2.1 21 = u.2.2.1 21 := i2.2.2.1 21 (by decide)
  have e20 : x.2.1 20 = u.2.1 20 := by rw [i2.2.1]
  refine RQ_n (ZY_ok P) 4 rfl trivial ?_
  rw [nI_add]
  refine RQ_b rfl (fun y => ?_) (fun y => ?_)
  · have y := (zq_lt (a := 8) (b := n + m) rfl rfl (by omega) (by omega)).mp y
    refine RQ_n (ZY_ok P) 2 rfl trivial ?_
    refine ih (by omega) () _ _ ⟨rfl, rfl, nIs n, trivial⟩ ⟨fun c hc => ?_, i2⟩
    rw [i1 c hc]
    by_cases e : n ≤ c ∧ c < n + m
    · rw [if_pos e, show min (n + 1) (c + 1) = n + 1 by omega]
    · rw [if_neg e, show min (n + 1) (c + 1) = min n (c + 1) by omega]
  have y := (not_congr (zq_lt (a := 8) (b := n + m) rfl rfl (by omega) (by omega))).mp y
  refine RQ_n (ZY_ok P) 2 rfl trivial ?_
  rw [e11]
  refine RQ_n (ZY_ok P) 2 rfl ⟨nI_in (by omega) (by omega), trivial⟩ ?_
  rw [nI_clamp (by omega), ew, hw n (by omega)]
  refine RQ_n (ZY_ok P) 5 rfl trivial ?_
  rw [nI_add]
  refine RQ_n (ZY_ok P) 1 rfl ⟨nI_in (by omega) (by omega), trivial⟩ ?_
  rw [nI_clamp (by omega), e20, ht m (by omega)]
  refine RQ_n (ZY_ok P) 3 rfl trivial ?_
  rw [nI_lg (htl m), nL_mul]
  refine RQ_minL rfl k4_151 rfl ?_
  rw [minL1 (mul9 (hwl n) (htl m))]
  refine RQ_n (ZY_ok P) 3 rfl trivial ?_
  rw [e12]
  refine RQ_n (ZY_ok P) 5 rfl trivial ?_
  rw [e12]
  refine RQ_n (ZY_ok P) 3 rfl trivial ?_
  rw [nI_add]
  refine RQ_n (ZY_ok P) 1 rfl ⟨nI_in (by omega) (by omega), trivial⟩ ?_
  have hv := i1 (n + m) (by omega)
  rw [if_neg (by omega), show min n (n + m + 1) = n by omega] at hv
  rw [nI_clamp (by omega), hv]
  refine RQ_n (ZY_ok P) 3 rfl trivial ?_
  rw [nL_add]
  refine RQ_minL rfl k4_151 rfl ?_
  have hb1 := zjn_le w t (n + m) n
  have hb2 := zcp_le (w n * t m)
  rw [minL1 (show zjn w t (n + m) n + zcp (w n * t m) ≤ 1000000000000000000 by omega)]
  refine RQ_n (ZY_ok P) 3 rfl ⟨nI_in (by omega) (by omega), trivial⟩ ?_
  rw [nI_clamp (by omega)]
  refine ih2 (by omega) () _ _ ⟨rfl, rfl, rfl, nIs m, trivial⟩ ⟨fun c hc => ?_, i2.tr ⟨rfl, rfl, fun b hb => updL_ne hb, rfl⟩⟩
  by_cases e : c = n + m
  · rw [e, if_pos (by omega)]
    show vp_updL (x.2.2.1 22) (n + m) _ (n + m) = nL (zcp (zjn w t (n + m) n + zcp (w n * t (n + m - n))))
    rw [updl_at, show n + m - n = m by omega]
  · refine ((updl_ne (f := x.2.2.1 22) e).trans (i1 c hc)).trans ?_
    by_cases e2 : n ≤ c ∧ c < n + m
    · rw [if_pos e2, if_pos (by omega)]
    · rw [if_neg e2, if_neg (by omega)]
theorem y_addWays22 {P : YP} {u : SX} {w t : Nat → Nat} {q : Nat} (h11 : u.2.2.2.1 14 11 = .ref 22) (hw : ∀ i, i < 9 → u.2.2.1 22 i = nL (w i)) (hwl : ∀ i, w i ≤ 1000000000) (ht : ∀ i, i < 9 → u.2.1 20 (q + i) = nI (t i)) (htl : ∀ i, t i ≤ 1000000000) (hq : q + 9 ≤ 378) : EvQ (ZY P) mX4_addWays [.ref 14, .int (nI q)] u (fun x v => x = none ∧ (∀ i, i < 9 → v.2.1 20 (q + i) = nI (zcp (t i + w i))) ∧ (∀ j, (j < q ∨ q + 9 ≤ j) → v.2.1 20 j = u.2.1 20 j) ∧ frX [] [20] u v) := by
  refine EQ_V vX4_addWays rfl ?_
  refine RQ_n (ZY_ok P) 2 rfl trivial ?_
  refine loopU (M := mX4_addWays) (pc := 2) 9 (fun n (_ : Unit) => [some (.ref 14), some (.int (nI q)), some (.int (nI n))]) (fun n _ v => (∀ i, i < 9 → v.2.1 20 (q + i) = nI (if i < n then zcp (t i + w i) else t i)) ∧ (∀ j, (j < q ∨ q + 9 ≤ j) → v.2.1 20 j = u.2.1 20 j) ∧ frX [] [20] u v) ?_ 0 () u (by omega) ⟨fun i hi => by rw [if_neg (by omega)]; exact ht i hi, fun _ _ => rfl, frX.rf⟩
  intro n _ v hn hJ ih
  obtain ⟨j1, j2, j3⟩ := hJ
  have e11 : v.2.2.2.1 14 11 = .ref 22 := by rw [j3.2.2]; exact h11
  have ew : v.2.2.1 22 = u.2.2.1 22 := by rw [j3.2.2]
  refine RQ_n (ZY_ok P) 2 rfl trivial ?_
  refine RQ_b rfl (fun z => ?_) (fun z => ?_)
  · have z := (zq_lt (a := 8) (b := n) rfl rfl (by omega) (by omega)).mp z
    have : n = 9 := by omega
    subst this
    refine RQ_to (Rn_vret rfl rfl) ⟨rfl, fun i hi => ?_, j2, j3⟩
    have := j1 i hi
    rw [if_pos hi] at this
    exact this
  have z := (not_congr (zq_lt (a := 8) (b := n) rfl rfl (by omega) (by omega))).mp z
  refine RQ_n (ZY_ok P) 10 rfl trivial ?_
  rw [nI_add]
  refine RQ_n (ZY_ok P) 1 rfl ⟨nI_in (by omega) (by omega), trivial⟩ ?_
  have hv := j1 n (by omega)
  rw [if_neg (by omega)] at hv
  rw [nI_clamp (by omega), hv]
  refine RQ_n (ZY_ok P) 3 rfl trivial ?_
  rw [e11, nI_lg (htl n)]
  refine RQ_n (ZY_ok P) 2 rfl ⟨nI_in (by omega) (by omega), trivial⟩ ?_
  rw [nI_clamp (by omega), ew, hw n (by omega)]
  refine RQ_n (ZY_ok P) 2 rfl trivial ?_
  rw [nL_add]
  refine RQ_minL rfl k4_151 rfl ?_
  have hb1 := htl n
  have hb2 := hwl n
  rw [minL1 (show t n + w n ≤ 1000000000000000000 by omega)]
  refine RQ_n (ZY_ok P) 4 rfl ⟨nI_in (by omega) (by omega), trivial⟩ ?_
  rw [nI_clamp (by omega), nL_i]
  refine ih (by omega) () _ _ ⟨rfl, rfl, nIs n, trivial⟩ ⟨fun i hi => ?_, fun j hj => ?_, j3.tr (frX.a 20 (by decide))⟩
  · by_cases e : i = n
    · rw [e, if_pos (by omega)]; exact upd_at
    · refine ((upd_ne (f := v.2.1 20) (by omega)).trans (j1 i hi)).trans ?_
      by_cases e2 : i < n
      · rw [if_pos e2, if_pos (by omega)]
      · rw [if_neg e2, if_neg (by omega)]
  · exact (upd_ne (f := v.2.1 20) (by omega)).trans (j2 j hj)
theorem y_joinWays22 {P : YP} {u : SX} {w t : Nat → Nat} {q : Nat} (h11 : u.2.2.2.1 14 11 = .ref 22) (h12 : u.2.2.2.1 14 12 = .ref 21) (hw : ∀ i, i < 9 → u.2.2.1 22 i = nL (w i)) (hwl : ∀ i, w i ≤ 1000000000) (ht : ∀ i, i < 9 → u.2.1 20 (q + i) = nI (t i)) (htl : ∀ i, t i ≤ 1000000000) (hq : q + 9 ≤ 378) (h0 : ∀ i, i < 9 → u.2.2.1 21 i = 0) : EvQ (ZY P) mX4_joinWays [.ref 14, .int (nI q)] u (fun x v => x = none ∧ (∀ c, c < 9 → v.2.2.1 21 c = nL (zjoi w t c)) ∧ frLo 21 u v) := by
  refine EQ_V vX4_joinWays rfl ?_
  refine RQ_n (ZY_ok P) 2 rfl trivial ?_
  refine loopU (M := mX4_joinWays) (pc := 2) 9 (fun n (_ : Unit) => [some (.ref 14), some (.int (nI q)), some (.int (nI n)), none, none, none]) (fun n _ v => (∀ c, c < 9 → v.2.2.1 21 c = nL (zjn w t c (min n (c + 1)))) ∧ frLo 21 u v) ?_ 0 () u (by omega) ⟨fun c hc => by rw [Nat.zero_min]; exact h0 c hc, frLo.rf⟩
  intro n _ v hn hJ ih
  obtain ⟨j1, j2⟩ := hJ
  refine RQ_n (ZY_ok P) 2 rfl trivial ?_
  refine RQ_b rfl (fun z => ?_) (fun z => ?_)
  · have z := (zq_lt (a := 8) (b := n) rfl rfl (by omega) (by omega)).mp z
    have : n = 9 := by omega
    subst this
    refine RQ_to (Rn_vret rfl rfl) ⟨rfl, fun c hc => ?_, j2⟩
    have := j1 c hc
    rw [show min 9 (c + 1) = c + 1 by omega] at this
    exact this
  have z := (not_congr (zq_lt (a := 8) (b := n) rfl rfl (by omega) (by omega))).mp z
  refine RQ_n (ZY_ok P) 2 rfl trivial ?_
  refine loopU (M := mX4_joinWays) (pc := 10) (9 - n) (fun m (_ : Unit) => [some (.ref 14), some (.int (nI q)), some (.int (nI n)), some (.int (nI m)), none, none]) (fun m _ x => (∀ c, c < 9 → x.2.2.1 21 c = nL (zjn w t c (if n ≤ c ∧ c < n + m then n + 1 else min n (c + 1)))) ∧ frLo 21 u x) ?_ 0 () v (by omega) ⟨fun c hc => by rw [if_neg (by omega)]; exact j1 c hc, j2⟩
  intro m _ x hm hJ2 ih2
  obtain ⟨i1, i2⟩ := hJ2
  have e11 : x.2.2.2.1 14 11 = .ref 22 := by rw [i2.2.2.2]; exact h11
  have e12 : x.2.2.2.1 14 12 = .ref 21 := by rw [i2.2.2.2]; exact h12
  have ew : x.2.2.1 22 = u.2.2.1 22 := i2.2.2.1 22 (by decide)
  have e20 : x.2.1 20 = u.2.1 20 := by rw [i2.2.1]
  refine RQ_n (ZY_ok P) 4 rfl trivial ?_
  rw [nI_add]
  refine RQ_b rfl (fun y => ?_) (fun y => ?_)
  · have y := (zq_lt (a := 8) (b := n + m) rfl rfl (by omega) (by omega)).mp y
    refine RQ_n (ZY_ok P) 2 rfl trivial ?_
    refine ih (by omega) () _ _ ⟨rfl, rfl, nIs n, trivial⟩ ⟨fun c hc => ?_, i2⟩
    rw [i1 c hc]
    by_cases e : n ≤ c ∧ c < n + m
    · rw [if_pos e, show min (n + 1) (c + 1) = n + 1 by omega]
    · rw [if_neg e, show min (n + 1) (c + 1) = min n (c + 1) by omega]
  have y := (not_congr (zq_lt (a := 8) (b := n + m) rfl rfl (by omega) (by omega))).mp y
  refine RQ_n (ZY_ok P) 2 rfl trivial ?_
  rw [e11]
  refine RQ_n (ZY_ok P) 2 rfl ⟨nI_in (by omega) (by omega), trivial⟩ ?_
  rw [nI_clamp (by omega), ew, hw n (by omega)]
  refine RQ_n (ZY_ok P) 5 rfl trivial ?_
  rw [nI_add]
  refine RQ_n (ZY_ok P) 1 rfl ⟨nI_in (by omega) (by omega), trivial⟩ ?_
  rw [nI_clamp (by omega), e20, ht m (by omega)]
  refine RQ_n (ZY_ok P) 3 rfl trivial ?_
  rw [nI_lg (htl m), nL_mul]
  refine RQ_minL rfl k4_151 rfl ?_
  rw [minL1 (mul9 (hwl n) (htl m))]
  refine RQ_n (ZY_ok P) 3 rfl trivial ?_
  rw [e12]
  refine RQ_n (ZY_ok P) 5 rfl trivial ?_
  rw [e12]
  refine RQ_n (ZY_ok P) 3 rfl trivial ?_
  rw [nI_add]
  refine RQ_n (ZY_ok P) 1 rfl ⟨nI_in (by omega) (by omega), trivial⟩ ?_
  have hv := i1 (n + m) (by omega)
  rw [if_neg (by omega), show min n (n + m + 1) = n by omega] at hv
  rw [nI_clamp (by omega), hv]
  refine RQ_n (ZY_ok P) 3 rfl trivial ?_
  rw [nL_add]
  refine RQ_minL rfl k4_151 rfl ?_
  have hb1 := zjn_le w t (n + m) n
  have hb2 := zcp_le (w n * t m)
  rw [minL1 (show zjn w t (n + m) n + zcp (w n * t m) ≤ 1000000000000000000 by omega)]
  refine RQ_n (ZY_ok P) 3 rfl ⟨nI_in (by omega) (by omega), trivial⟩ ?_
  rw [nI_clamp (by omega)]
  refine ih2 (by omega) () _ _ ⟨rfl, rfl, rfl, nIs m, trivial⟩ ⟨fun c hc => ?_, i2.tr ⟨rfl, rfl, fun b hb => updL_ne hb, rfl⟩⟩
  by_cases e : c = n + m
  · rw [e, if_pos (by omega)]
    show vp_updL (x.2.2.1 21) (n + m) _ (n + m) = nL (zcp (zjn w t (n + m) n + zcp (w n * t (n + m - n))))
    rw [updl_at, show n + m - n = m by omega]
  · refine ((updl_ne (f := x.2.2.1 21) e).trans (i1 c hc)).trans ?_
    by_cases e2 : n ≤ c ∧ c < n + m
    · rw [if_pos e2, if_pos (by omega)]
    · rw [if_neg e2, if_neg (by omega)]
