/-! The class: the shortest rule, a name replaced. -/
theorem zSM_le (G : ZGT) (S : Nat → Nat) (r : Nat) : zSM G S r ≤ 1000000 := Nat.min_le_left _ _
theorem zSI_m1 {x : Nat} (h : x ≤ 1000000) : zSI x = -1 ↔ x = 1000000 := by
  unfold zSI
  by_cases e : x = 1000000
  · rw [if_pos e]; exact ⟨fun _ => e, fun _ => rfl⟩
  · rw [if_neg e]; exact ⟨fun q => absurd q (nI_m1 (by omega)), fun q => absurd q e⟩
def zbl (G : ZGT) (S : Nat → Nat) (o : Option Nat) : Nat := match o with | none => 0 | some b => zSM G S b
theorem zbl_le (G : ZGT) (S : Nat → Nat) (o : Option Nat) : zbl G S o ≤ 1000000 := by
  cases o with
  | none => exact Nat.zero_le _
  | some b => exact zSM_le G S b
/-- a name replaced by the letters of a rule -/
def zrp (G : ZGT) (w : Nat → Nat) (a r : Nat) : Nat → Nat := fun i => if i < a then w i else if i < a + zgn G r then zgt G r (i - a) else w (i + 1 - zgn G r)
def WX (len : Nat) (w : Nat → Nat) (u : SX) : Prop := u.1 97 3 = nI len ∧ ∀ i, i < len → u.2.1 98 i = nI (w i)
section DrwY
variable {P : YP} {G : ZGT} {u : SX}
theorem y_shortestRule {S : Nat → Nat} (h : ZGX G u) (hS : SB S) (hR : SR S u) {n : Nat} (hn : n < 6) : Ev (ZY P) mX3_shortestRule [.ref 97, .int (nI n)] u (some (.int (fI (zbs G S n (zgR G))))) u := by
  have hb := h.b
  obtain ⟨Q, hQ⟩ : ∃ Q : Option Value → SX → Prop, Q = (fun x v => x = some (.int (fI (zbs G S n (zgR G)))) ∧ v = u) := ⟨_, rfl⟩
  refine EQ_ev (EQ_V vX3_shortestRule rfl ?_)
  rw [← hQ]
  refine RQ_n (ZY_ok P) 6 rfl trivial ?_
  refine loopU (zgR G) (fun k (_ : Unit) => [some (.ref 97), some (.int (nI n)), some (.int (fI (zbs G S n k))), some (.int (nI (zbl G S (zbs G S n k)))), some (.int (nI k)), none]) (fun k _ v => v = u) ?_ 0 () u (by omega) rfl
  intro k _ v hk hJ ih
  subst hJ
  refine RQ_n (ZY_ok P) 4 rfl trivial ?_
  refine RQ_b rfl (fun q => ?_) (fun q => ?_)
  · have q := (zq_le h.2.1.1 rfl (by omega) (by omega)).mp q
    have : k = zgR G := by omega
    subst this
    refine RQ_n (ZY_ok P) 1 rfl trivial ?_
    rw [hQ]
    exact RQ_to (Rn_iret rfl rfl) ⟨rfl, rfl⟩
  have q := (not_congr (zq_le h.2.1.1 rfl (by omega) (by omega))).mp q
  have hsl := zSM_le G S k
  have hbl := zbl_le G S (zbs G S n k)
  have hlt : ∀ b, zbs G S n k = some b → b < 16 := fun b e => by have := zbs_lt k b e; omega
  -- nothing better
  have skip : ∀ x : Int32, zbsB G S n k (zbs G S n k) = false → RnQ (ZY P) mX3_shortestRule (67, [some (.ref 97), some (.int (nI n)), some (.int (fI (zbs G S n k))), some (.int (nI (zbl G S (zbs G S n k)))), some (.int (nI k)), some (.int x)], [], v) Q := by
    intro x e
    refine RQ_n (ZY_ok P) 2 rfl trivial ?_
    have e2 : zbs G S n (k + 1) = zbs G S n k := by rw [zbs_s, e, if_neg (by decide)]
    refine ih (by omega) () _ _ ?_ rfl
    rw [e2]
    exact ⟨rfl, rfl, rfl, rfl, nIs k, trivial⟩
  have take : zbsB G S n k (zbs G S n k) = true → RnQ (ZY P) mX3_shortestRule (61, [some (.ref 97), some (.int (nI n)), some (.int (fI (zbs G S n k))), some (.int (nI (zbl G S (zbs G S n k)))), some (.int (nI k)), some (.int (nI (zSM G S k)))], [], v) Q := by
    intro e
    refine RQ_n (ZY_ok P) 6 rfl trivial ?_
    have e2 : zbs G S n (k + 1) = some k := by rw [zbs_s, e, if_pos rfl]
    refine ih (by omega) () _ _ ?_ rfl
    rw [e2]
    exact ⟨rfl, rfl, rfl, rfl, nIs k, trivial⟩
  have p42 : ∀ x : Int32, x = (if zrrB G n k = true then zSI (zSM G S k) else -1) → RnQ (ZY P) mX3_shortestRule (42, [some (.ref 97), some (.int (nI n)), some (.int (fI (zbs G S n k))), some (.int (nI (zbl G S (zbs G S n k)))), some (.int (nI k)), none], [.int x], v) Q := by
    intro x hx
    refine RQ_n (ZY_ok P) 3 rfl trivial ?_
    by_cases e1 : zrrB G n k = true ∧ zSM G S k ≠ 1000000
    · have hx2 : x = nI (zSM G S k) := by rw [hx, if_pos e1.1, zSI, if_neg e1.2]
      subst hx2
      refine RQ_b rfl (fun z => absurd z (nI_m1 (by omega))) (fun _ => ?_)
      refine RQ_n (ZY_ok P) 2 rfl trivial ?_
      cases eo : zbs G S n k with
      | none =>
        rw [eo] at take
        refine RQ_b rfl (fun _ => take ?_) (fun z => absurd rfl z)
        show (zrrB G n k && (decide (zSM G S k < 1000000) && true)) = true
        rw [e1.1, decide_eq_true (show zSM G S k < 1000000 by omega)]; rfl
      | some b =>
        rw [eo] at take skip
        have hb16 := hlt b eo
        refine RQ_b rfl (fun z => absurd (show nI b = -1 from z) (nI_m1 (by omega))) (fun _ => ?_)
        refine RQ_n (ZY_ok P) 2 rfl trivial ?_
        have hbb := zSM_le G S b
        refine RQ_b rfl (fun z => ?_) (fun z => ?_)
        · have z := (zq_le (a := zSM G S b) (b := zSM G S k) rfl rfl (by omega) (by omega)).mp z
          refine skip _ ?_
          show (zrrB G n k && (decide (zSM G S k < 1000000) && decide (zSM G S k < zSM G S b))) = false
          rw [decide_eq_false (show ¬ zSM G S k < zSM G S b by omega), Bool.and_false, Bool.and_false]
        · have z := (not_congr (zq_le (a := zSM G S b) (b := zSM G S k) rfl rfl (by omega) (by omega))).mp z
          refine take ?_
          show (zrrB G n k && (decide (zSM G S k < 1000000) && decide (zSM G S k < zSM G S b))) = true
          rw [e1.1, decide_eq_true (show zSM G S k < 1000000 by omega), decide_eq_true (show zSM G S k < zSM G S b by omega)]; rfl
    · have hx2 : x = -1 := by
        rw [hx]
        by_cases c : zrrB G n k = true
        · rw [if_pos c]
          exact (zSI_m1 hsl).mpr (Classical.byContradiction fun y => e1 ⟨c, y⟩)
        · rw [if_neg c]
      subst hx2
      refine RQ_b rfl (fun _ => skip _ ?_) (fun z => absurd rfl z)
      unfold zbsB
      cases c : zrrB G n k with
      | false => rfl
      | true =>
        have : zSM G S k = 1000000 := Classical.byContradiction fun y => e1 ⟨c, y⟩
        rw [decide_eq_false (show ¬ zSM G S k < 1000000 by omega)]; rfl
  refine RQ_n (ZY_ok P) 3 rfl trivial ?_
  refine RQ_v vX3_isRuleOf (y_isRuleOf h (r := k) (by omega) hn) rfl k3_47 rfl rfl rfl (zy97 _ rfl) rfl ?_
  cases ep : zrrB G n k with
  | false =>
    rw [ep] at p42
    refine RQ_b rfl (fun _ => ?_) (fun z => absurd rfl z)
    refine RQ_n (ZY_ok P) 1 rfl trivial ?_
    exact p42 _ (by rw [if_neg (by decide)])
  | true =>
    rw [ep] at p42
    refine RQ_b rfl (fun z => absurd (show (1 : Int32) = 0 from z) (by decide)) (fun _ => ?_)
    refine RQ_n (ZY_ok P) 3 rfl trivial ?_
    refine RQ_v vX4_shortestSum (y_shortestSum h hS hR (r := k) (by omega)) rfl k3_62 rfl rfl rfl (zyr (ci := 4) rfl rfl (by omega)) rfl ?_
    refine RQ_n (ZY_ok P) 1 rfl trivial ?_
    exact p42 _ (by rw [if_pos rfl])
theorem y_replace (h : ZGX G u) {len a r : Nat} {w : Nat → Nat} (hW : WX len w u) (hl : len ≤ 60) (ha : a < len) (hr : r < zgR G) : EvQ (ZY P) mX3_replace [.ref 97, .int (nI a), .int (nI r)] u (fun x v => x = none ∧ WX (len + zgn G r - 1) (zrp G w a r) v ∧ frX [(97, 3)] [98] u v) := by
  have hb := h.b
  have hn := h.1.n (show r ≤ zgR G by omega)
  obtain ⟨n, hnn⟩ : ∃ n, n = zgn G r := ⟨_, rfl⟩
  obtain ⟨w1, w2⟩ := hW
  rw [← hnn] at hn ⊢
  refine EQ_V vX3_replace rfl ?_
  refine RQ_n (ZY_ok P) 5 rfl ⟨nI_in (by omega) (by omega), trivial⟩ ?_
  rw [nI_clamp (by omega), h.n (by omega), ← hnn]
  refine RQ_n (ZY_ok P) 17 rfl trivial ?_
  rw [w1]
  have e1 : nI a + 1 = nI (a + 1) := (nI_succ a).symm
  have e2 : nI a + nI n = nI (a + n) := nI_add _ _
  have e3 : nI len - nI a - 1 = nI (len - a - 1) := by
    rw [nI_sub (by omega), show (1 : Int32) = nI 1 from rfl, nI_sub (by omega)]
  refine RQ_copy (s' := (u.1, setA u.2.1 98 (va_cpy (u.2.1 98) (u.2.1 98) (a + 1) (a + n) (len - a - 1)), u.2.2)) (i := a + 1) (j := a + n) (n := len - a - 1) (n0 := 65) (n1 := 65) (f := u.2.1 98) (g := u.2.1 98) rfl k3_69 rfl e1 e2 e3 rfl rfl (by show 98 < 3 * u.2.2.2.2.1 + 99; omega) (by show 98 < 3 * u.2.2.2.2.1 + 99; omega) (by omega) (by omega) ⟨by omega, by omega⟩ (y_cps rfl) ?_
  obtain ⟨v0, hv0⟩ : ∃ v : SX, v = (u.1, setA u.2.1 98 (va_cpy (u.2.1 98) (u.2.1 98) (a + 1) (a + n) (len - a - 1)), u.2.2) := ⟨_, rfl⟩
  rw [← hv0]
  have f0 : frX [] [98] u v0 := by rw [hv0]; exact frX.s 98 (by decide)
  have c1 : ∀ j, j < a → v0.2.1 98 j = nI (w j) := by
    intro j hj
    rw [hv0]
    show setA u.2.1 98 (va_cpy (u.2.1 98) (u.2.1 98) (a + 1) (a + n) (len - a - 1)) 98 j = _
    rw [setA_at]
    show (if a + n ≤ j ∧ j < a + n + (len - a - 1) then u.2.1 98 (a + 1 + (j - (a + n))) else u.2.1 98 j) = _
    rw [if_neg (by omega)]
    exact w2 j (by omega)
  have c2 : ∀ j, a + n ≤ j → j < len + n - 1 → v0.2.1 98 j = nI (w (j + 1 - n)) := by
    intro j hj1 hj2
    rw [hv0]
    show setA u.2.1 98 (va_cpy (u.2.1 98) (u.2.1 98) (a + 1) (a + n) (len - a - 1)) 98 j = _
    rw [setA_at]
    show (if a + n ≤ j ∧ j < a + n + (len - a - 1) then u.2.1 98 (a + 1 + (j - (a + n))) else u.2.1 98 j) = _
    rw [if_pos ⟨hj1, by omega⟩, show a + 1 + (j - (a + n)) = j + 1 - n by omega]
    exact w2 _ (by omega)
  refine RQ_n (ZY_ok P) 2 rfl trivial ?_
  refine loopU n (fun i (_ : Unit) => [some (.ref 97), some (.int (nI a)), some (.int (nI r)), some (.int (nI n)), some (.int (nI i))]) (fun i _ v => frX [] [98] u v ∧ (∀ j, j < a → v.2.1 98 j = nI (w j)) ∧ (∀ j, j < i → v.2.1 98 (a + j) = nI (zgt G r j)) ∧ ∀ j, a + n ≤ j → j < len + n - 1 → v.2.1 98 j = nI (w (j + 1 - n))) ?_ 0 () v0 (by omega) ⟨f0, c1, fun j hj => by omega, c2⟩
  intro i _ v hi hJ ih
  obtain ⟨g1, g2, g3, g4⟩ := hJ
  refine RQ_n (ZY_ok P) 2 rfl trivial ?_
  refine RQ_b rfl (fun q => ?_) (fun q => ?_)
  · have q := (zq_le (a := n) (b := i) rfl rfl (by omega) (by omega)).mp q
    have hin : i = n := by omega
    subst hin
    refine RQ_n (ZY_ok P) 8 rfl trivial ?_
    refine RQ_to (Rn_vret rfl rfl) ⟨rfl, ⟨?_, fun j hj => ?_⟩, (g1.up (by decide) (by decide)).tr (frX.i 97 3 (by decide))⟩
    · show v.1 97 3 + (nI i - 1) = _
      rw [g1.1 97 3 (by decide), w1]
      by_cases hi0 : i = 0
      · subst hi0
        rw [show len + 0 - 1 = len - 1 by omega]
        have : nI len - 1 = nI (len - 1) := by rw [show (1 : Int32) = nI 1 from rfl, nI_sub (by omega)]
        rw [← this]
        show nI len + (0 - 1) = nI len - 1
        rw [Int32.zero_sub, ← Int32.sub_eq_add_neg]
      · rw [show (1 : Int32) = nI 1 from rfl, nI_sub (by omega), nI_add, show len + (i - 1) = len + i - 1 by omega]
    · show v.2.1 98 j = _
      unfold zrp
      rw [← hnn]
      by_cases j1 : j < a
      · rw [if_pos j1]; exact g2 j j1
      · rw [if_neg j1]
        by_cases j2 : j < a + i
        · rw [if_pos j2]
          have := g3 (j - a) (by omega)
          rw [show a + (j - a) = j by omega] at this
          exact this
        · rw [if_neg j2]; exact g4 j (by omega) hj
  have q := (not_congr (zq_le (a := n) (b := i) rfl rfl (by omega) (by omega))).mp q
  have hG : ZGX G v := h.fr4 g1 (fun j hj y => by cases y) (fun b _ _ y => by simp only [List.mem_cons, List.not_mem_nil, or_false] at y; omega)
  refine RQ_n (ZY_ok P) 9 rfl trivial ?_
  rw [show nI a + nI i = nI (a + i) from nI_add _ _]
  refine RQ_v vX5_letterAt (y_letterAt hG (r := r) (i := i) (by omega) (by omega)) rfl k3_75 rfl rfl rfl (zyr (ci := 5) rfl rfl (by omega)) rfl ?_
  rw [show zlt G r i = nI (zgt G r i) from if_pos (by omega)]
  refine RQ_n (ZY_ok P) 3 rfl ⟨nI_in (by omega) (by omega), trivial⟩ ?_
  rw [nI_clamp (by omega)]
  refine ih (by omega) () _ _ ⟨rfl, rfl, rfl, rfl, nIs i, trivial⟩ ⟨g1.tr (frX.a 98 (by decide)), fun j hj => ?_, fun j hj => ?_, fun j hj1 hj2 => ?_⟩
  · show upd (v.2.1 98) (a + i) (nI (zgt G r i)) j = _
    rw [upd_ne (by omega)]; exact g2 j hj
  · show upd (v.2.1 98) (a + i) (nI (zgt G r i)) (a + j) = _
    by_cases y : j = i
    · subst y; rw [upd_at]
    · rw [upd_ne (by omega)]; exact g3 j (by omega)
  · show upd (v.2.1 98) (a + i) (nI (zgt G r i)) j = _
    rw [upd_ne (by omega)]; exact g4 j hj1 hj2
end DrwY
