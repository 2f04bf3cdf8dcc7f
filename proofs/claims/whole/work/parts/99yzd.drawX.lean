/-! The class: a rule drawn, the shortest one. -/
def zrrB (G : ZGT) (n r : Nat) : Bool := zgi G r && decide (zgl G r = n)
def znsd (z : Int64) : Int64 := z * 6364136223846793005 + 1442695040888963407
def zdwl (z : Int64) : Int64 := (z.toUInt64 >>> ((Int32.toInt64 33).toUInt64 &&& Int64.toUInt64 63)).toInt64
def zdw (z : Int64) (k : Int32) : Int32 := (zdwl z - zdwl z / k.toInt64 * k.toInt64).toInt32
/-- the rule at that place among those of a name -/
def zpk (p : Nat → Bool) : Nat → Nat → Int32 → Option Nat
  | 0, _, _ => none
  | d + 1, r, i => if p r = true then (if i = 0 then some r else zpk p d (r + 1) (i + -1)) else zpk p d (r + 1) i
theorem zpk_s (p : Nat → Bool) (d r : Nat) (i : Int32) : zpk p (d + 1) r i = if p r = true then (if i = 0 then some r else zpk p d (r + 1) (i + -1)) else zpk p d (r + 1) i := rfl
def zdr (G : ZGT) (n : Nat) (z : Int64) : Option Nat := if zcnt (zrrB G n) (zgR G) = 0 then none else zpk (zrrB G n) (zgR G) 0 (zdw (znsd z) (nI (zcnt (zrrB G n) (zgR G))))
def zdz (G : ZGT) (n : Nat) (z : Int64) : Int64 := if zcnt (zrrB G n) (zgR G) = 0 then z else znsd z
/-- the shortest rule of a name among the first k -/
def zbsB (G : ZGT) (S : Nat → Nat) (n k : Nat) (o : Option Nat) : Bool := zrrB G n k && (decide (zSM G S k < 1000000) && (match o with | none => true | some b => decide (zSM G S k < zSM G S b)))
def zbs (G : ZGT) (S : Nat → Nat) (n : Nat) : Nat → Option Nat
  | 0 => none
  | k + 1 => if zbsB G S n k (zbs G S n k) = true then some k else zbs G S n k
theorem zbs_s (G : ZGT) (S : Nat → Nat) (n k : Nat) : zbs G S n (k + 1) = if zbsB G S n k (zbs G S n k) = true then some k else zbs G S n k := rfl
theorem zpk_lt {p : Nat → Bool} : ∀ d r i k, zpk p d r i = some k → k < r + d
  | 0, _, _, _, h => by cases h
  | d + 1, r, i, k, h => by
    unfold zpk at h
    split at h
    · split at h
      · cases h; omega
      · have := zpk_lt d (r + 1) _ k h; omega
    · have := zpk_lt d (r + 1) _ k h; omega
theorem zdr_lt {G : ZGT} {n k : Nat} {z : Int64} (h : zdr G n z = some k) : k < zgR G := by
  unfold zdr at h
  split at h
  · cases h
  · have := zpk_lt _ _ _ _ h; omega
theorem zbs_lt {G : ZGT} {S : Nat → Nat} {n : Nat} : ∀ m k, zbs G S n m = some k → k < m
  | 0, _, h => by cases h
  | m + 1, k, h => by
    rw [zbs_s] at h
    by_cases c : zbsB G S n m (zbs G S n m) = true
    · rw [if_pos c] at h
      have := Option.some.inj h
      omega
    · rw [if_neg c] at h
      have := zbs_lt m k h
      omega
theorem z64n0 : ∀ c, c ≤ 16 → c ≠ 0 → ¬ (nI c).toInt64 = 0 := by decide +kernel
section DrwX
variable {P : YP} {G : ZGT} {u : SX}
theorem y_isRuleOf (h : ZGX G u) {n r : Nat} (hr : r < zgR G) (hn : n < 6) : Ev (ZY P) mX3_isRuleOf [.ref 97, .int (nI r), .int (nI n)] u (some (.int (bI (zrrB G n r)))) u := by
  have hb := h.b
  have hl := h.1.2.1 r hr
  refine EQ_ev (EQ_V vX3_isRuleOf rfl ?_)
  refine RQ_n (ZY_ok P) 3 rfl trivial ?_
  refine RQ_v vX5_isIn (y_isIn h hr) rfl k3_55 rfl rfl rfl (zyr (ci := 5) rfl rfl (by omega)) rfl ?_
  unfold zrrB
  cases zgi G r with
  | false =>
    refine RQ_b rfl (fun _ => ?_) (fun z => absurd rfl z)
    refine RQ_n (ZY_ok P) 1 rfl trivial ?_
    exact RQ_to (Rn_zret rfl rfl (Or.inl rfl)) ⟨rfl, rfl⟩
  | true =>
    refine RQ_b rfl (fun z => absurd (show (1 : Int32) = 0 from z) (by decide)) (fun _ => ?_)
    refine RQ_n (ZY_ok P) 6 rfl ⟨nI_in (by omega) (by omega), trivial⟩ ?_
    rw [nI_clamp (by omega), (h.2.2.1 r hr).1]
    rw [Bool.true_and]
    by_cases e : zgl G r = n
    · rw [decide_eq_true e]
      refine RQ_b rfl (fun z => absurd (show nI (zgl G r) = nI n by rw [e]) z) (fun _ => ?_)
      refine RQ_n (ZY_ok P) 2 rfl trivial ?_
      exact RQ_to (Rn_zret rfl rfl (Or.inr rfl)) ⟨rfl, rfl⟩
    · rw [decide_eq_false e]
      refine RQ_b rfl (fun _ => ?_) (fun z => absurd (fun q => e ((nI_eq (by omega) (by omega)).mp q)) z)
      refine RQ_n (ZY_ok P) 1 rfl trivial ?_
      exact RQ_to (Rn_zret rfl rfl (Or.inl rfl)) ⟨rfl, rfl⟩
theorem zy97 (s : SX) {MX : MD} (h : MX.1 = 3) : zrc (ZY P) MX s 97 = true := zyr (ci := 3) rfl h (by omega)
theorem y_drawnRule (h : ZGX G u) {n : Nat} (hn : n < 6) : EvQ (ZY P) mX3_drawnRule [.ref 97, .int (nI n)] u (fun x v => x = some (.int (fI (zdr G n (u.2.2.1 97 0)))) ∧ v.2.2.1 97 0 = zdz G n (u.2.2.1 97 0) ∧ v.1 = u.1 ∧ v.2.1 = u.2.1 ∧ (∀ b, b ≠ 97 → v.2.2.1 b = u.2.2.1 b) ∧ v.2.2.2 = u.2.2.2) := by
  have hb := h.b
  obtain ⟨p, hp⟩ : ∃ p, p = zrrB G n := ⟨_, rfl⟩
  obtain ⟨c, hc⟩ : ∃ c, c = zcnt p (zgR G) := ⟨_, rfl⟩
  have hc16 : c ≤ 16 := by
    have := zcnt_le p (zgR G)
    omega
  obtain ⟨Q, hQ⟩ : ∃ Q : Option Value → SX → Prop, Q = (fun x v => x = some (.int (fI (zdr G n (u.2.2.1 97 0)))) ∧ v.2.2.1 97 0 = zdz G n (u.2.2.1 97 0) ∧ v.1 = u.1 ∧ v.2.1 = u.2.1 ∧ (∀ b, b ≠ 97 → v.2.2.1 b = u.2.2.1 b) ∧ v.2.2.2 = u.2.2.2) := ⟨_, rfl⟩
  rw [← hQ]
  refine EQ_V vX3_drawnRule rfl ?_
  have p38 : RnQ (ZY P) mX3_drawnRule (38, [some (.ref 97), some (.int (nI n)), some (.int (nI c)), some (.int (nI (zgR G))), none], [], u) Q := by
    refine RQ_n (ZY_ok P) 1 rfl trivial ?_
    by_cases hc0 : c = 0
    · refine RQ_b rfl (fun z => absurd (show nI c = 0 by rw [hc0]; rfl) z) (fun _ => ?_)
      refine RQ_n (ZY_ok P) 1 rfl trivial ?_
      rw [hQ]
      have h0 : zcnt (zrrB G n) (zgR G) = 0 := by rw [← hp, ← hc]; exact hc0
      refine RQ_to (Rn_iret rfl rfl) ⟨?_, ?_, rfl, rfl, fun _ _ => rfl, rfl⟩
      · rw [zdr, if_pos h0]; rfl
      · rw [zdz, if_pos h0]
    have h0 : ¬ zcnt (zrrB G n) (zgR G) = 0 := by rw [← hp, ← hc]; exact hc0
    refine RQ_b rfl (fun _ => ?_) (fun z => absurd (fun y => hc0 ((zq_eq (a := c) (b := 0) rfl rfl (by omega) (by omega)).mp y)) z)
    refine RQ_n (ZY_ok P) 16 rfl ⟨z64n0 c hc16 hc0, trivial⟩ ?_
    obtain ⟨w, hw⟩ : ∃ w : SX, w = (u.1, u.2.1, updL u.2.2.1 97 0 (znsd (u.2.2.1 97 0)), u.2.2.2) := ⟨_, rfl⟩
    show RnQ (ZY P) mX3_drawnRule (71, [some (.ref 97), some (.int (nI n)), some (.int (nI c)), some (.int (nI (zgR G))), none], [.int (zdw (znsd (u.2.2.1 97 0)) (nI c))], (u.1, u.2.1, updL u.2.2.1 97 0 (znsd (u.2.2.1 97 0)), u.2.2.2)) Q
    rw [← hw]
    obtain ⟨i0, hi0⟩ : ∃ i0, i0 = zdw (znsd (u.2.2.1 97 0)) (nI c) := ⟨_, rfl⟩
    rw [← hi0]
    have ed : zdr G n (u.2.2.1 97 0) = zpk p (zgR G) 0 i0 := by rw [zdr, if_neg h0, hi0, hc, hp]
    have hG : ZGX G w := by rw [hw]; exact h
    have fin : ∀ x, x = zpk p (zgR G) 0 i0 → Q (some (.int (fI x))) w := by
      intro x hx
      rw [hQ, hw]
      refine ⟨by rw [ed, hx], ?_, rfl, rfl, fun b hb => updL_ne hb, rfl⟩
      show updL u.2.2.1 97 0 (znsd (u.2.2.1 97 0)) 97 0 = _
      rw [zdz, if_neg h0]; rfl
    refine RQ_n (ZY_ok P) 3 rfl trivial ?_
    refine loopU (zgR G) (fun k (i : Int32) => [some (.ref 97), some (.int (nI n)), some (.int (nI c)), some (.int i), some (.int (nI k))]) (fun k i v => v = w ∧ zpk p (zgR G - k) k i = zpk p (zgR G) 0 i0) ?_ 0 i0 w (by omega) ⟨rfl, rfl⟩
    intro k i v hk hJ ih
    obtain ⟨rfl, e⟩ := hJ
    refine RQ_n (ZY_ok P) 4 rfl trivial ?_
    refine RQ_b rfl (fun q => ?_) (fun q => ?_)
    · have q := (zq_le hG.2.1.1 rfl (by omega) (by omega)).mp q
      have : k = zgR G := by omega
      subst this
      rw [Nat.sub_self] at e
      refine RQ_n (ZY_ok P) 1 rfl trivial ?_
      exact RQ_to (Rn_iret rfl rfl) (fin none e)
    have q := (not_congr (zq_le hG.2.1.1 rfl (by omega) (by omega))).mp q
    obtain ⟨d, hd⟩ : ∃ d, zgR G - k = d + 1 := ⟨zgR G - k - 1, by omega⟩
    have hd1 : zgR G - (k + 1) = d := by omega
    rw [hd, zpk_s] at e
    refine RQ_n (ZY_ok P) 3 rfl trivial ?_
    refine RQ_v vX3_isRuleOf (y_isRuleOf hG (r := k) (by omega) hn) rfl k3_47 rfl rfl rfl (zy97 _ rfl) rfl ?_
    rw [← hp]
    cases ep : p k with
    | false =>
      rw [ep, if_neg (by decide)] at e
      refine RQ_b rfl (fun _ => ?_) (fun z => absurd rfl z)
      refine RQ_n (ZY_ok P) 2 rfl trivial ?_
      exact ih (by omega) i _ _ ⟨rfl, rfl, rfl, rfl, nIs k, trivial⟩ ⟨rfl, by rw [hd1]; exact e⟩
    | true =>
      rw [ep, if_pos rfl] at e
      refine RQ_b rfl (fun z => absurd (show (1 : Int32) = 0 from z) (by decide)) (fun _ => ?_)
      refine RQ_n (ZY_ok P) 1 rfl trivial ?_
      by_cases hi : i = 0
      · rw [if_pos hi] at e
        refine RQ_b rfl (fun z => absurd hi z) (fun _ => ?_)
        refine RQ_n (ZY_ok P) 1 rfl trivial ?_
        exact RQ_to (Rn_iret rfl rfl) (fin (some k) e)
      · rw [if_neg hi] at e
        refine RQ_b rfl (fun _ => ?_) (fun z => absurd hi z)
        refine RQ_n (ZY_ok P) 3 rfl trivial ?_
        exact ih (by omega) (i + -1) _ _ ⟨rfl, rfl, rfl, rfl, nIs k, trivial⟩ ⟨rfl, by rw [hd1]; exact e⟩
  refine RQ_n (ZY_ok P) 4 rfl trivial ?_
  refine loopU (zgR G) (fun k (_ : Unit) => [some (.ref 97), some (.int (nI n)), some (.int (nI (zcnt p k))), some (.int (nI k)), none]) (fun k _ v => v = u) ?_ 0 () u (by omega) rfl
  intro k _ v hk hJ ih
  subst hJ
  refine RQ_n (ZY_ok P) 4 rfl trivial ?_
  refine RQ_b rfl (fun q => ?_) (fun q => ?_)
  · have q := (zq_le h.2.1.1 rfl (by omega) (by omega)).mp q
    have : k = zgR G := by omega
    subst this
    rw [← hc]
    exact p38
  have q := (not_congr (zq_le h.2.1.1 rfl (by omega) (by omega))).mp q
  refine RQ_n (ZY_ok P) 4 rfl trivial ?_
  refine RQ_v vX3_isRuleOf (y_isRuleOf h (r := k) (by omega) hn) rfl k3_47 rfl rfl rfl (zy97 _ rfl) rfl ?_
  rw [← hp]
  cases ep : p k with
  | false =>
    refine RQ_b rfl (fun _ => ?_) (fun z => absurd rfl z)
    refine RQ_n (ZY_ok P) 5 rfl trivial ?_
    refine ih (by omega) () _ _ ⟨rfl, rfl, ?_, nIs k, trivial⟩ rfl
    show Value.int _ = Value.int _
    rw [zcnt, ep, if_neg (by decide)]
    exact congrArg Value.int (Int32.add_zero _).symm
  | true =>
    refine RQ_b rfl (fun z => absurd (show (1 : Int32) = 0 from z) (by decide)) (fun _ => ?_)
    refine RQ_n (ZY_ok P) 2 rfl trivial ?_
    refine RQ_n (ZY_ok P) 4 rfl trivial ?_
    refine ih (by omega) () _ _ ⟨rfl, rfl, ?_, nIs k, trivial⟩ rfl
    show Value.int _ = Value.int _
    rw [zcnt, ep, if_pos rfl]
    exact nIs _
end DrwX
