/-! fault and text: both sides, in every state. -/
def zflt (f : Nat → Int32) (n : Nat) (x : Int32) : Int32 := if x = 0 then fI (gF f n 0 gq0) else if x = 1 then fI (sF f n 0 0) else -2
theorem gF_le (f : Nat → Int32) : ∀ d i q k, gF f d i q = some k → k ≤ i + d
  | 0, i, q, k, h => by
    rw [gF] at h
    split at h
    · cases h
    · cases h; omega
  | d + 1, i, q, k, h => by
    rw [gF_s] at h
    unfold gFo at h
    split at h
    · cases h; omega
    · have := gF_le f d (i + 1) _ k h; omega
theorem sF_le (f : Nat → Int32) : ∀ d i c k, sF f d i c = some k → k ≤ i + d
  | 0, i, c, k, h => by cases h
  | d + 1, i, c, k, h => by
    rw [sF] at h
    split at h
    · have := sF_le f d (i + 1) c k h; omega
    · split at h
      · have := sF_le f d (i + 1) (c + 1) k h; omega
      · cases h; omega
/-- the signs of a sentence without a fault -/
theorem sL_ok (f : Nat → Int32) : ∀ d i c, c ≤ 24 → sF f d i c = none → c + (sL f d i).length ≤ 24 ∧ ∀ x ∈ sL f d i, isSg x = true
  | 0, i, c, hc, _ => ⟨by show c + 0 ≤ 24; omega, fun x hx => by cases hx⟩
  | d + 1, i, c, hc, h => by
    rw [sF] at h
    rw [sL]
    split at h
    · rename_i e
      rw [if_pos e]
      exact sL_ok f d (i + 1) c hc h
    · rename_i e
      rw [if_neg e]
      split at h
      · rename_i e2
        obtain ⟨a, b⟩ := sL_ok f d (i + 1) (c + 1) (by omega) h
        refine ⟨by rw [List.length_cons]; omega, fun x hx => ?_⟩
        rcases List.mem_cons.mp hx with y | y
        · rw [y]; exact e2.1
        · exact b x y
      · cases h
/-- a sentence's letters by numbers -/
def zyy (p : List Int32) (j : Nat) : Nat := (p.getD j 0 - 97).toNatClampNeg
theorem zyy_ok {p : List Int32} (h : ∀ x ∈ p, isSg x = true) {j : Nat} (hj : j < p.length) : zyy p j < 26 ∧ p.getD j 0 = nI (97 + zyy p j) ∧ p.getD j 0 - 97 = nI (zyy p j) := by
  have hm : p.getD j 0 ∈ p := by
    rw [List.getD_eq_getElem?_getD, List.getElem?_eq_getElem hj]
    exact List.getElem_mem hj
  obtain ⟨i, hi, hx, -⟩ := isSg_ix (h _ hm)
  have e : p.getD j 0 - 97 = nI i := by rw [hx, show (97 : Int32) = nI 97 from rfl, nI_sub (by omega), show 97 + i - 97 = i by omega]
  have e2 : zyy p j = i := by unfold zyy; rw [e, nI_clamp (by omega)]
  rw [e2]
  exact ⟨hi, hx, e⟩
def txm (ok : Bool) (m : Nat) : Nat := if ok = true then m + 1 else m
def txl (ok : Bool) (m : Nat) (p : List Int32) (ln : Nat → Nat) : Nat → Nat := fun k => if ok = true ∧ k = m then p.length else ln k
def txy (ok : Bool) (m : Nat) (p : List Int32) (yy : Nat → Nat → Nat) : Nat → Nat → Nat := fun k j => if ok = true ∧ k = m then zyy p j else yy k j
section TxX
variable {s : SX} {f : Nat → Int32} {n m : Nat} {ln : Nat → Nat} {yy : Nat → Nat → Nat}
theorem x_faultG (hn : s.1 1 1 = nI n) (hf : s.2.1 2 = f) (h2 : n ≤ 240) (x : Int32) : Ev ZX mX11_fault [.ref 0, .int x] s (some (.int (zflt f n x))) s := by
  refine EQ_ev ?_
  refine EQ_V vX11_fault rfl ?_
  refine RQ_n ZX_ok 1 rfl trivial ?_
  unfold zflt
  by_cases h0 : x = 0
  · rw [if_pos h0]
    refine RQ_b rfl (fun z => absurd h0 z) (fun _ => ?_)
    refine RQ_n ZX_ok 2 rfl trivial ?_
    have e := x_grammarFault s n hn h2
    rw [hf] at e
    refine RQ_v vX10_grammarFault e rfl k11_99 rfl rfl rfl (zx1 s rfl) rfl ?_
    exact RQ_to (Rn_iret rfl rfl) ⟨rfl, rfl⟩
  rw [if_neg h0]
  refine RQ_b rfl (fun _ => ?_) (fun z => absurd h0 z)
  refine RQ_n ZX_ok 2 rfl trivial ?_
  by_cases h1 : x = 1
  · rw [if_pos h1]
    refine RQ_b rfl (fun z => absurd h1 z) (fun _ => ?_)
    refine RQ_n ZX_ok 2 rfl trivial ?_
    have e := x_sentenceFault s n hn h2
    rw [hf] at e
    refine RQ_v vX10_sentenceFault e rfl k11_103 rfl rfl rfl (zx1 s rfl) rfl ?_
    refine RQ_n ZX_ok 1 rfl trivial ?_
    exact RQ_to (Rn_iret rfl rfl) ⟨rfl, rfl⟩
  · rw [if_neg h1]
    refine RQ_b rfl (fun _ => ?_) (fun z => absurd h1 z)
    refine RQ_n ZX_ok 1 rfl trivial ?_
    exact RQ_to (Rn_iret rfl rfl) ⟨rfl, rfl⟩
/-- the class with another grammar -/
def tgX (f : Nat → Int32) (n : Nat) (s : SX) (x : Option Value) (v : SX) : Prop :=
  x = some (.int (nI (zgR (zGD (pr f n 0 false gD0) (so f n 0 0))))) ∧ (ZFX (zGD (pr f n 0 false gD0) (so f n 0 0)) v ∧ TXc (zGD (pr f n 0 false gD0) (so f n 0 0)) (nms (pr f n 0 false gD0).2.1 (pr f n 0 false gD0).1).2 (sgs (so f n 0 0) 26).2 v) ∧ (v.1 1 1 = 0 ∧ v.1 14 10 = 0 ∧ v.1 23 0 = 0 ∧ v.1 23 1 = 0 ∧ v.1 3 4 = 0 ∧ v.1 3 3 = (1 : Int32) <<< (nI (pr f n 0 false gD0).1 &&& 31) - 1) ∧
  ((v.1 36 3 = 1 ∧ v.1 53 3 = 1 ∧ v.1 70 3 = 1) ∧ (v.1 47 3 = 1 ∧ v.1 64 3 = 1 ∧ v.1 81 3 = 1)) ∧ frX [(1, 1), (3, 0), (3, 1), (3, 2), (3, 3), (3, 4), (23, 0), (23, 1), (14, 1), (14, 2), (14, 3), (14, 10), (36, 3), (53, 3), (70, 3), (47, 3), (64, 3), (81, 3)] [4, 5, 6, 7, 8, 9, 10, 15, 16, 17, 18, 19] s v
theorem y_clear {P : YP} (u : SX) : Ev (ZY P) mX6_clear [.ref 23] u none (updI (updI u.1 23 0 0) 23 1 0, u.2) := by
  refine EQ_ev ?_
  refine EQ_V vX6_clear rfl ?_
  refine RQ_n (ZY_ok P) 6 rfl ⟨Or.inl rfl, trivial⟩ ?_
  exact RQ_to (Rn_vret rfl rfl) ⟨rfl, rfl⟩
theorem TXc.fr {G : ZGT} {nb : Nat → Int32} {sl : Nat → Nat} {u v : SX} {ks : List (Nat × Nat)} {as : List Nat} (h : TXc G nb sl u) (f : frX ks as u v) (h2 : ∀ a ∈ [7, 9, 10], a ∉ as) : TXc G nb sl v := by
  unfold TXc at h ⊢
  rw [f.2.1 7 (h2 7 (by decide)), f.2.1 9 (h2 9 (by decide)), f.2.1 10 (h2 10 (by decide))]; exact h
set_option maxHeartbeats 1000000 in
theorem y_takeGrammar (hn : s.1 1 1 = nI n) (hf : s.2.1 2 = f) (h2 : n ≤ 240) (hF : gF f n 0 gq0 = none) : EvQ (ZY YP0) mX11_takeGrammar [.ref 0] s (tgX f n s) := by
  subst hf
  obtain ⟨r, l, nm, hC⟩ := tape_ok hF
  obtain ⟨b1, b2, b3, b4, b5, b6⟩ := gC_b hC
  refine EQ_V vX11_takeGrammar rfl ?_
  refine RQ_n (ZY_ok YP0) 4 rfl trivial ?_
  have el := x_load s n hn h2 hF b3 b5 b2 b6
  rw [← ZY_0] at el
  refine RQ_V vX5_load el rfl k11_115 rfl rfl rfl (zyr (ci := 5) rfl rfl (by omega)) (fun _ s1 q => by show 3 * s1.2.2.2.2.1 + 99 = 3 * s.2.2.2.2.1 + 99; rw [q.2.2.2.2.2.2]) ?_
  rintro r1 v1 ⟨rfl, q⟩
  obtain ⟨g1, g2⟩ := zGD_X hC q
  obtain ⟨⟨⟨a1, -, -, a4, a5⟩, -⟩, -, -, a9⟩ := q
  refine RQ_n (ZY_ok YP0) 6 rfl trivial ?_
  obtain ⟨v2, hv2⟩ : ∃ w : SX, w = (updI v1.1 1 1 0, v1.2) := ⟨_, rfl⟩
  show RnQ (ZY YP0) mX11_takeGrammar (23, _, _, ((updI v1.1 1 1 0, v1.2) : SX)) _
  rw [← hv2]
  have f2 : frX [(1, 1)] [] v1 v2 := by rw [hv2]; exact frX.i 1 1 (by decide)
  have e11 : v2.1 1 1 = 0 := by rw [hv2]; rfl
  refine RQ_v vX6_clear (y_clear v2) rfl k11_119 rfl rfl rfl (zyr (ci := 6) rfl rfl (by omega)) rfl ?_
  obtain ⟨v3, hv3⟩ : ∃ w : SX, w = (updI (updI v2.1 23 0 0) 23 1 0, v2.2) := ⟨_, rfl⟩
  rw [← hv3]
  have f3 : frX [(23, 0), (23, 1)] [] v2 v3 := by rw [hv3]; exact (frX.i 23 0 (by decide)).tr (frX.i 23 1 (by decide))
  have e23 : v3.1 23 0 = 0 ∧ v3.1 23 1 = 0 := by rw [hv3]; exact ⟨rfl, rfl⟩
  have hG3 := (g1.fr4 f2 (by decide) (fun b _ _ y => by cases y)).fr4 f3 (by decide) (fun b _ _ y => by cases y)
  refine RQ_n (ZY_ok YP0) 1 rfl trivial ?_
  refine RQ_V vX11_rulesChanged (y_rulesChanged hG3) rfl k11_122 rfl rfl rfl (zy0 _ rfl) (fun _ s1 q => by show 3 * s1.2.2.2.2.1 + 99 = 3 * v3.2.2.2.2.1 + 99; rw [q.2.2.2.2.2.2.2]) ?_
  rintro r2 v4 ⟨rfl, p1, p2, p3, p4, p5⟩
  refine RQ_n (ZY_ok YP0) 3 rfl trivial ?_
  rw [p1.1.2.1.1]
  refine RQ_to (Rn_iret rfl rfl) ⟨rfl, ⟨p1, ((g2.fr f2 (by decide)).fr f3 (by decide)).fr p5 (by decide)⟩, ⟨?_, p2, ?_, ?_, ?_, ?_⟩, ⟨p3, p4⟩, ?_⟩
  · rw [p5.1 1 1 (by decide), f3.1 1 1 (by decide)]; exact e11
  · rw [p5.1 23 0 (by decide)]; exact e23.1
  · rw [p5.1 23 1 (by decide)]; exact e23.2
  · rw [p5.1 3 4 (by decide), f3.1 3 4 (by decide), f2.1 3 4 (by decide)]; exact a5
  · rw [p5.1 3 3 (by decide), f3.1 3 3 (by decide), f2.1 3 3 (by decide)]; exact a4
  · exact (((a9.up (by decide) (by decide)).tr (f2.up (by decide) (by decide))).tr (f3.up (by decide) (by decide))).tr (p5.up (by decide) (by decide))
/-- the class with one sentence more, or not -/
def tsX (f : Nat → Int32) (n m : Nat) (ln : Nat → Nat) (yy : Nat → Nat → Nat) (ok : Bool) (s v : SX) : Prop :=
  SnX (txm ok m) (txl ok m (sL f n 0) ln) (txy ok m (sL f n 0) yy) v ∧ v.1 1 1 = (if ok = true then 0 else nI n) ∧ frX [(1, 1), (11, 0)] [12, 13] s v
theorem tx_no {s : SX} (h : SnX m ln yy s) (hn : s.1 1 1 = nI n) : tsX f n m ln yy false s s := ⟨h, hn, frX.rf⟩
theorem y_takeSentG (hn : s.1 1 1 = nI n) (hf : s.2.1 2 = f) (h2 : n ≤ 240) (hS : SnX m ln yy s) (hF : sF f n 0 0 = none) : EvQ (ZY YP0) mX11_takeSentence [.ref 0] s (fun x v => x = some (.int (if m < 4 then nI m else -1)) ∧ tsX f n m ln yy (decide (m < 4)) s v) := by
  subst hf
  by_cases hm : m < 4
  · have e := x_takeSentence s n m hn h2 hS.1 hm hF
    rw [← ZY_0] at e
    refine EQ_mono e ?_
    rintro x v ⟨rfl, ⟨a1, a2, a3⟩, a4, a5, a6, a7⟩
    obtain ⟨l1, l2⟩ := sL_ok _ n 0 0 (by omega) hF
    rw [if_pos hm, decide_eq_true hm]
    refine ⟨rfl, ⟨a2, by show m + 1 ≤ 4; omega, fun k hk => ?_⟩, a1, a4⟩
    have hk : k < m + 1 := hk
    show v.2.1 12 k = nI (if true = true ∧ k = m then _ else ln k) ∧ (if true = true ∧ k = m then _ else ln k) ≤ 24 ∧ ∀ j, j < (if true = true ∧ k = m then _ else ln k) → v.2.1 13 (24 * k + j) = nI (if true = true ∧ k = m then _ else yy k j) ∧ (if true = true ∧ k = m then _ else yy k j) < 26
    by_cases ek : k = m
    · rw [if_pos ⟨rfl, ek⟩]
      refine ⟨by rw [ek]; exact a3, by omega, fun j hj => ?_⟩
      obtain ⟨z1, z2, z3⟩ := zyy_ok l2 hj
      rw [if_pos ⟨rfl, ek⟩, ek]
      exact ⟨by rw [a7 j hj]; exact z3, z1⟩
    · obtain ⟨s1, s2, s3⟩ := hS.2.2 k (by omega)
      rw [if_neg (fun y => ek y.2)]
      refine ⟨by rw [a5 k ek]; exact s1, s2, fun j hj => ?_⟩
      rw [if_neg (fun y => ek y.2), a6 _ (Or.inl (by omega))]
      exact s3 j hj
  · have h4 := hS.2.1
    have hm4 : m = 4 := by omega
    rw [if_neg hm, decide_eq_false hm]
    refine EQ_V vX11_takeSentence rfl ?_
    refine RQ_n (ZY_ok YP0) 4 rfl trivial ?_
    rw [hS.1, hm4]
    refine RQ_b rfl (fun z => absurd rfl z) (fun _ => ?_)
    refine RQ_n (ZY_ok YP0) 1 rfl trivial ?_
    refine RQ_to (Rn_iret rfl rfl) ⟨rfl, ?_⟩
    rw [← hm4]
    exact tx_no hS hn
/-- what text answers; whether a sentence is taken -/
def ztx (f : Nat → Int32) (n m : Nat) (x : Int32) : Bool := decide (x = 1) && decide (sF f n 0 0 = none) && decide (m < 4)
theorem y_textG (hn : s.1 1 1 = nI n) (hf : s.2.1 2 = f) (h2 : n ≤ 240) (hS : SnX m ln yy s) (x : Int32) (hx : ¬ (x = 0 ∧ gF f n 0 gq0 = none)) : EvQ (ZY YP0) mX11_text [.ref 0, .int x] s (fun r v => r = some (.int (if ztx f n m x = true then nI m else -1)) ∧ tsX f n m ln yy (ztx f n m x) s v) := by
  refine EQ_V vX11_text rfl ?_
  refine RQ_n (ZY_ok YP0) 2 rfl trivial ?_
  have ef := x_faultG hn hf h2 x
  rw [← ZY_0] at ef
  refine RQ_v vX11_fault ef rfl k11_106 rfl rfl rfl (zy0 _ rfl) rfl ?_
  refine RQ_n (ZY_ok YP0) 1 rfl trivial ?_
  have no : ztx f n m x = false → zflt f n x ≠ -1 → RnQ (ZY YP0) mX11_text (6, [some (.ref 0), some (.int x)], [.int (-1), .int (zflt f n x)], s) (fun r v => r = some (.int (if ztx f n m x = true then nI m else -1)) ∧ tsX f n m ln yy (ztx f n m x) s v) := by
    intro e1 e2
    rw [e1]
    refine RQ_b rfl (fun z => absurd z e2) (fun _ => ?_)
    refine RQ_n (ZY_ok YP0) 1 rfl trivial ?_
    exact RQ_to (Rn_iret rfl rfl) ⟨rfl, tx_no hS hn⟩
  by_cases h0 : x = 0
  · have hne : gF f n 0 gq0 ≠ none := fun y => hx ⟨h0, y⟩
    refine no (by unfold ztx; rw [decide_eq_false (fun y => by rw [h0] at y; exact absurd y (by decide))]; rfl) ?_
    unfold zflt
    rw [if_pos h0]
    intro y
    exact hne ((fI_m1 (fun k hk => by have := gF_le f n 0 gq0 k hk; omega)).mp y)
  by_cases h1 : x = 1
  · cases e : sF f n 0 0 with
    | some k =>
      refine no (by unfold ztx; rw [e, decide_eq_false (show ¬ some k = none from fun y => by cases y), Bool.and_false]; rfl) ?_
      unfold zflt
      rw [if_neg h0, if_pos h1]
      intro y
      have := (fI_m1 (fun k hk => by have := sF_le f n 0 0 k hk; omega)).mp y
      rw [e] at this; cases this
    | none =>
      have ez : zflt f n x = -1 := by unfold zflt; rw [if_neg h0, if_pos h1, e]; rfl
      have et : ztx f n m x = decide (m < 4) := by unfold ztx; rw [e, decide_eq_true h1, decide_eq_true rfl]; rfl
      rw [ez, et]
      refine RQ_b rfl (fun _ => ?_) (fun z => absurd rfl z)
      refine RQ_n (ZY_ok YP0) 1 rfl trivial ?_
      refine RQ_b rfl (fun _ => ?_) (fun z => absurd h0 z)
      refine RQ_n (ZY_ok YP0) 1 rfl trivial ?_
      refine RQ_V vX11_takeSentence (y_takeSentG hn hf h2 hS e) rfl k11_112 rfl rfl rfl (zy0 _ rfl) (fun _ s1 q => by show 3 * s1.2.2.2.2.1 + 99 = 3 * s.2.2.2.2.1 + 99; rw [q.2.2.2.2.2]) ?_
      rintro r1 v1 ⟨rfl, q⟩
      refine RQ_to (Rn_iret rfl rfl) ⟨?_, q⟩
      by_cases hm : m < 4
      · rw [if_pos hm, decide_eq_true hm]; rfl
      · rw [if_neg hm, decide_eq_false hm]; rfl
  · refine no (by unfold ztx; rw [decide_eq_false h1]; rfl) ?_
    unfold zflt
    rw [if_neg h0, if_neg h1]
    decide
theorem y_textGr (hn : s.1 1 1 = nI n) (hf : s.2.1 2 = f) (h2 : n ≤ 240) (hF : gF f n 0 gq0 = none) : EvQ (ZY YP0) mX11_text [.ref 0, .int 0] s (tgX f n s) := by
  refine EQ_V vX11_text rfl ?_
  refine RQ_n (ZY_ok YP0) 2 rfl trivial ?_
  have ef := x_faultG hn hf h2 0
  rw [← ZY_0, show zflt f n 0 = -1 by unfold zflt; rw [if_pos rfl, hF]; rfl] at ef
  refine RQ_v vX11_fault ef rfl k11_106 rfl rfl rfl (zy0 _ rfl) rfl ?_
  refine RQ_n (ZY_ok YP0) 1 rfl trivial ?_
  refine RQ_b rfl (fun _ => ?_) (fun z => absurd rfl z)
  refine RQ_n (ZY_ok YP0) 1 rfl trivial ?_
  refine RQ_b rfl (fun z => absurd rfl z) (fun _ => ?_)
  refine RQ_n (ZY_ok YP0) 1 rfl trivial ?_
  refine RQ_V vX11_takeGrammar (y_takeGrammar hn hf h2 hF) rfl k11_109 rfl rfl rfl (zy0 _ rfl) (fun _ s1 q => by show 3 * s1.2.2.2.2.1 + 99 = 3 * s.2.2.2.2.1 + 99; rw [q.2.2.2.2.2.2]) ?_
  rintro r1 v1 ⟨rfl, q⟩
  refine RQ_n (ZY_ok YP0) 1 rfl trivial ?_
  exact RQ_to (Rn_iret rfl rfl) ⟨rfl, q⟩
end TxX
