/-! The reference: a rule that replaces a name. -/
def WM (len : Nat) (w : Nat → Nat) (s : SM) : Prop := s.1 73 = nI len ∧ ∀ i, i < len → s.2.1 72 i = nI (zlm (w i))
section WrdM
variable {G : ZGT} {s : SM} {S : Nat → Nat}
theorem zbsB_f {n k : Nat} {o : Option Nat} (h : zrrB G n k = false) : zbsB G S n k o = false := by unfold zbsB; rw [h, Bool.false_and]
theorem zbsB_g {n k : Nat} {o : Option Nat} (h : zSM G S k = 1000000) : zbsB G S n k o = false := by unfold zbsB; rw [decide_eq_false (show ¬ zSM G S k < 1000000 by omega), Bool.false_and, Bool.and_false]
theorem m_draw (s : SM) {c : Nat} (h16 : c ≤ 16) (h0 : c ≠ 0) : Ev ZR mX12_draw [.ref 0, .int (nI c)] s (some (.int (zdw (znsd s.2.2) (nI c)))) (s.1, s.2.1, znsd s.2.2) := by
  refine EQ_ev (EQ_V vX12_draw rfl ?_)
  refine RQ_n ZR_ok 16 rfl ⟨z64n0 c h16 h0, trivial⟩ ?_
  exact RQ_to (Rn_iret rfl rfl) ⟨rfl, rfl⟩
theorem ZGM.z {v : SM} (h : ZGM G s) (h1 : v.1 = s.1) (h2 : v.2.1 = s.2.1) : ZGM G v := by
  unfold ZGM at h ⊢
  rw [h1, h2]; exact h
theorem m_drawQ (s : SM) {c : Nat} (h16 : c ≤ 16) (h0 : c ≠ 0) : EvQ ZR mX12_draw [.ref 0, .int (nI c)] s (fun x v => x = some (.int (zdw (znsd s.2.2) (nI c))) ∧ v.1 = s.1 ∧ v.2.1 = s.2.1 ∧ v.2.2 = znsd s.2.2) := by
  have e := m_draw s h16 h0
  obtain ⟨q, hq⟩ : ∃ q, q = znsd s.2.2 := ⟨_, rfl⟩
  rw [← hq] at e ⊢
  exact ⟨some (.int (zdw q (nI c))), (s.1, s.2.1, q), ⟨rfl, rfl, rfl, rfl⟩, e⟩
-- METHOD X12_replacing
theorem m_repl88 (h : ZGM G s) {n c : Nat} (hn : n < 6) (dr : Bool) {p : Nat → Bool} (hp : p = zrrB G n) (hc : c = zcnt p (zgR G)) {Q : Option Value → SM → Prop} (hQ : Q = (fun x v => x = some (.int (fI (if dr = true then zdr G n s.2.2 else zbs G S n (zgR G)))) ∧ v.2.2 = (if dr = true then zdz G n s.2.2 else s.2.2) ∧ v.1 = s.1 ∧ v.2.1 = s.2.1)) : ∀ x6, RnQ ZR mX12_replacing (88, [some (.ref 0), some (.int (nI n)), some (.int (bI dr)), some (.int (nI c)), some (.int (fI (zbs G S n (zgR G)))), some (.int (nI (zgR G))), x6], [], s) Q := by
  have hb := h.b
  have hc16 : c ≤ 16 := by
    have := zcnt_le p (zgR G)
    omega
  intro x6
  refine RQ_n ZR_ok 1 rfl trivial ?_
  cases dr with
  | false =>
    refine RQ_b rfl (fun _ => ?_) (fun q => absurd rfl q)
    refine RQ_n ZR_ok 1 rfl trivial ?_
    refine RQ_b rfl (fun _ => ?_) (fun q => absurd rfl q)
    refine RQ_n ZR_ok 1 rfl trivial ?_
    rw [hQ]
    refine RQ_to (Rn_iret rfl rfl) ⟨?_, ?_, rfl, rfl⟩
    · rw [if_neg (show ¬ false = true by decide)]
    · rw [if_neg (show ¬ false = true by decide)]
  | true =>
  refine RQ_b rfl (fun q => absurd (show (1 : Int32) = 0 from q) (by decide)) (fun _ => ?_)
  refine RQ_n ZR_ok 1 rfl trivial ?_
  by_cases hc0 : c = 0
  · have h0 : zcnt (zrrB G n) (zgR G) = 0 := by rw [← hp, ← hc]; exact hc0
    refine RQ_b rfl (fun z => absurd (show nI c = 0 by rw [hc0]; rfl) z) (fun _ => ?_)
    refine RQ_n ZR_ok 1 rfl trivial ?_
    refine RQ_b rfl (fun q => absurd (show (1 : Int32) = 0 from q) (by decide)) (fun _ => ?_)
    refine RQ_n ZR_ok 2 rfl trivial ?_
    rw [hQ]
    refine RQ_to (Rn_iret rfl rfl) ⟨?_, ?_, rfl, rfl⟩
    · rw [if_pos (show true = true from rfl), zdr, if_pos h0]; rfl
    · rw [if_pos (show true = true from rfl), zdz, if_pos h0]
  have h0 : ¬ zcnt (zrrB G n) (zgR G) = 0 := by rw [← hp, ← hc]; exact hc0
  refine RQ_b rfl (fun _ => ?_) (fun z => absurd (fun y => hc0 ((zq_eq (a := c) (b := 0) rfl rfl (by omega) (by omega)).mp y)) z)
  refine RQ_n ZR_ok 2 rfl trivial ?_
  refine RQ_V vX12_draw (m_drawQ s hc16 hc0) rfl k12_550 rfl rfl rfl rfl (fun _ _ _ => rfl) ?_
  obtain ⟨i0, hi0⟩ : ∃ i0, i0 = zdw (znsd s.2.2) (nI c) := ⟨_, rfl⟩
  rw [← hi0]
  rintro r1 w ⟨rfl, w1, w2, w3⟩
  have ed : zdr G n s.2.2 = zpk p (zgR G) 0 i0 := by rw [zdr, if_neg h0, hi0, hc, hp]
  have hG : ZGM G w := h.z w1 w2
  have fin : ∀ x, x = zpk p (zgR G) 0 i0 → Q (some (.int (fI x))) w := by
    intro x hx
    rw [hQ]
    refine ⟨?_, ?_, w1, w2⟩
    · rw [if_pos (show true = true from rfl), ed, hx]
    · rw [if_pos (show true = true from rfl), zdz, if_neg h0]; exact w3
  refine RQ_n ZR_ok 3 rfl trivial ?_
  refine loopU (zgR G) (fun k (i : Int32) => [some (.ref 0), some (.int (nI n)), some (.int (bI true)), some (.int (nI c)), some (.int (fI (zbs G S n (zgR G)))), some (.int i), some (.int (nI k))]) (fun k i v => v = w ∧ zpk p (zgR G - k) k i = zpk p (zgR G) 0 i0) ?_ 0 i0 w (by omega) ⟨rfl, rfl⟩
  intro k i v hk hJ ih
  obtain ⟨rfl, e⟩ := hJ
  refine RQ_n ZR_ok 3 rfl trivial ?_
  refine RQ_b rfl (fun q => ?_) (fun q => ?_)
  · have q := (zq_le hG.2.1.1 rfl (by omega) (by omega)).mp q
    have : k = zgR G := by omega
    subst this
    rw [Nat.sub_self] at e
    refine RQ_n ZR_ok 1 rfl trivial ?_
    exact RQ_to (Rn_iret rfl rfl) (fin none e)
  have q := (not_congr (zq_le hG.2.1.1 rfl (by omega) (by omega))).mp q
  have hl := h.1.2.1 k (by omega)
  obtain ⟨d, hd⟩ : ∃ d, zgR G - k = d + 1 := ⟨zgR G - k - 1, by omega⟩
  have hd1 : zgR G - (k + 1) = d := by omega
  rw [hd, zpk_s] at e
  have skip : p k = false → RnQ ZR mX12_replacing (157, [some (.ref 0), some (.int (nI n)), some (.int (bI true)), some (.int (nI c)), some (.int (fI (zbs G S n (zgR G)))), some (.int i), some (.int (nI k))], [], v) Q := by
    intro ep
    rw [ep, if_neg (by decide)] at e
    refine RQ_n ZR_ok 2 rfl trivial ?_
    exact ih (by omega) i _ _ ⟨rfl, rfl, rfl, rfl, rfl, rfl, nIs k, trivial⟩ ⟨rfl, by rw [hd1]; exact e⟩
  refine RQ_n ZR_ok 2 rfl trivial ?_
  refine RQ_v vX12_isIn (m_isIn hG (r := k) (by omega)) rfl k12_269 rfl rfl rfl rfl rfl ?_
  cases e1 : zgi G k with
  | false => exact RQ_b rfl (fun _ => skip (by rw [hp, zrrB, e1]; rfl)) (fun z => absurd rfl z)
  | true =>
  refine RQ_b rfl (fun z => absurd (show (1 : Int32) = 0 from z) (by decide)) (fun _ => ?_)
  refine RQ_n ZR_ok 5 rfl ⟨nI_in (by omega) (by omega), trivial⟩ ?_
  rw [nI_clamp (by omega), (hG.2.2.1 k (by omega)).1]
  by_cases e2 : zgl G k = n
  · have ep : p k = true := by rw [hp, zrrB, e1, decide_eq_true e2]; rfl
    rw [ep, if_pos rfl] at e
    refine RQ_b rfl (fun z => absurd (show nI (zgl G k) = nI n by rw [e2]) z) (fun _ => ?_)
    refine RQ_n ZR_ok 1 rfl trivial ?_
    by_cases hi : i = 0
    · rw [if_pos hi] at e
      refine RQ_b rfl (fun z => absurd hi z) (fun _ => ?_)
      refine RQ_n ZR_ok 1 rfl trivial ?_
      exact RQ_to (Rn_iret rfl rfl) (fin (some k) e)
    · rw [if_neg hi] at e
      refine RQ_b rfl (fun _ => ?_) (fun z => absurd hi z)
      refine RQ_n ZR_ok 3 rfl trivial ?_
      exact ih (by omega) (i + -1) _ _ ⟨rfl, rfl, rfl, rfl, rfl, rfl, nIs k, trivial⟩ ⟨rfl, by rw [hd1]; exact e⟩
  · exact RQ_b rfl (fun _ => skip (by rw [hp, zrrB, e1, decide_eq_false e2]; rfl)) (fun z => absurd (fun y => e2 ((nI_eq (by omega) (by omega)).mp y)) z)

theorem m_replacing (h : ZGM G s) (hS : SRM S s) {n : Nat} (hn : n < 6) (dr : Bool) : EvQ ZR mX12_replacing [.ref 0, .int (nI n), .int (bI dr)] s (fun x v => x = some (.int (fI (if dr = true then zdr G n s.2.2 else zbs G S n (zgR G)))) ∧ v.2.2 = (if dr = true then zdz G n s.2.2 else s.2.2) ∧ v.1 = s.1 ∧ v.2.1 = s.2.1) := by
  have hb := h.b
  obtain ⟨p, hp⟩ : ∃ p, p = zrrB G n := ⟨_, rfl⟩
  obtain ⟨c, hc⟩ : ∃ c, c = zcnt p (zgR G) := ⟨_, rfl⟩
  have hc16 : c ≤ 16 := by
    have := zcnt_le p (zgR G)
    omega
  obtain ⟨Q, hQ⟩ : ∃ Q : Option Value → SM → Prop, Q = (fun x v => x = some (.int (fI (if dr = true then zdr G n s.2.2 else zbs G S n (zgR G)))) ∧ v.2.2 = (if dr = true then zdz G n s.2.2 else s.2.2) ∧ v.1 = s.1 ∧ v.2.1 = s.2.1) := ⟨_, rfl⟩
  rw [← hQ]
  refine EQ_V vX12_replacing rfl ?_
  refine RQ_n ZR_ok 6 rfl trivial ?_
  refine loopU (zgR G) (fun k (_ : Unit) => [some (.ref 0), some (.int (nI n)), some (.int (bI dr)), some (.int (nI (zcnt p k))), some (.int (fI (zbs G S n k))), some (.int (nI k)), none]) (fun k _ v => v = s) ?_ 0 () s (by omega) rfl
  intro k _ v hk hJ ih
  subst hJ
  refine RQ_n ZR_ok 3 rfl trivial ?_
  refine RQ_b rfl (fun q => ?_) (fun q => ?_)
  · have q := (zq_le h.2.1.1 rfl (by omega) (by omega)).mp q
    have : k = zgR G := by omega
    subst this
    rw [← hc]
    exact m_repl88 h hn dr hp hc hQ none
  have q := (not_congr (zq_le h.2.1.1 rfl (by omega) (by omega))).mp q
  have hl := h.1.2.1 k (by omega)
  have hsl := zSM_le G S k
  have skip : p k = false → RnQ ZR mX12_replacing (82, [some (.ref 0), some (.int (nI n)), some (.int (bI dr)), some (.int (nI (zcnt p k))), some (.int (fI (zbs G S n k))), some (.int (nI k)), none], [], v) Q := by
    intro ep
    refine RQ_n ZR_ok 2 rfl trivial ?_
    have e1 : zcnt p (k + 1) = zcnt p k := by rw [zcnt, ep, if_neg (by decide)]; rfl
    have e2 : zbs G S n (k + 1) = zbs G S n k := by
      rw [zbs_s, zbsB_f (by rw [← hp]; exact ep), if_neg (by decide)]
    refine ih (by omega) () _ _ ?_ rfl
    rw [e1, e2]
    exact ⟨rfl, rfl, rfl, rfl, rfl, nIs k, trivial⟩
  refine RQ_n ZR_ok 2 rfl trivial ?_
  refine RQ_v vX12_isIn (m_isIn h (r := k) (by omega)) rfl k12_269 rfl rfl rfl rfl rfl ?_
  cases e1 : zgi G k with
  | false => exact RQ_b rfl (fun _ => skip (by rw [hp, zrrB, e1]; rfl)) (fun z => absurd rfl z)
  | true =>
  refine RQ_b rfl (fun z => absurd (show (1 : Int32) = 0 from z) (by decide)) (fun _ => ?_)
  refine RQ_n ZR_ok 5 rfl ⟨nI_in (by omega) (by omega), trivial⟩ ?_
  rw [nI_clamp (by omega), (h.2.2.1 k (by omega)).1]
  by_cases e2 : zgl G k = n
  · have ep : p k = true := by rw [hp, zrrB, e1, decide_eq_true e2]; rfl
    have ez : zrrB G n k = true := by rw [← hp]; exact ep
    refine RQ_b rfl (fun z => absurd (show nI (zgl G k) = nI n by rw [e2]) z) (fun _ => ?_)
    refine RQ_n ZR_ok 3 rfl trivial ?_
    refine RQ_v vX12_shortestOf (m_shortestOf h hS (r := k) (by omega)) rfl k12_300 rfl rfl rfl rfl rfl ?_
    refine RQ_n ZR_ok 3 rfl trivial ?_
    have ec : zcnt p (k + 1) = zcnt p k + 1 := by rw [zcnt, ep, if_pos rfl]
    have p80 : ∀ o, o = zbs G S n (k + 1) → RnQ ZR mX12_replacing (80, [some (.ref 0), some (.int (nI n)), some (.int (bI dr)), some (.int (nI (zcnt p k) + 1)), some (.int (fI (zbs G S n k))), some (.int (nI k)), some (.int (nI (zSM G S k)))], [.int (fI o)], v) Q := by
      intro o ho
      refine RQ_n ZR_ok 3 rfl trivial ?_
      refine ih (by omega) () _ _ ?_ rfl
      rw [ec, ← ho]
      exact ⟨rfl, rfl, rfl, nIs _, rfl, nIs k, trivial⟩
    have keep : zbsB G S n k (zbs G S n k) = false → RnQ ZR mX12_replacing (78, [some (.ref 0), some (.int (nI n)), some (.int (bI dr)), some (.int (nI (zcnt p k) + 1)), some (.int (fI (zbs G S n k))), some (.int (nI k)), some (.int (nI (zSM G S k)))], [], v) Q := by
      intro e
      refine RQ_n ZR_ok 1 rfl trivial ?_
      exact p80 _ (by rw [zbs_s, e, if_neg (by decide)])
    have take : zbsB G S n k (zbs G S n k) = true → RnQ ZR mX12_replacing (73, [some (.ref 0), some (.int (nI n)), some (.int (bI dr)), some (.int (nI (zcnt p k) + 1)), some (.int (fI (zbs G S n k))), some (.int (nI k)), some (.int (nI (zSM G S k)))], [], v) Q := by
      intro e
      refine RQ_n ZR_ok 2 rfl trivial ?_
      exact p80 (some k) (by rw [zbs_s, e, if_pos rfl])
    by_cases hM : zSM G S k = 1000000
    · refine RQ_b rfl (fun _ => keep ?_) (fun q3 => absurd ((zq_le (a := 1000000) (b := zSM G S k) rfl rfl (by omega) (by omega)).mpr (by omega)) q3)
      exact zbsB_g hM
    · refine RQ_b rfl (fun q3 => ?_) (fun _ => ?_)
      · have q3 := (zq_le (a := 1000000) (b := zSM G S k) rfl rfl (by omega) (by omega)).mp q3
        omega
      refine RQ_n ZR_ok 2 rfl trivial ?_
      cases eo : zbs G S n k with
      | none =>
        rw [eo] at take
        refine RQ_b rfl (fun _ => take ?_) (fun z => absurd rfl z)
        show (zrrB G n k && (decide (zSM G S k < 1000000) && true)) = true
        rw [ez, decide_eq_true (show zSM G S k < 1000000 by omega)]; rfl
      | some b =>
        rw [eo] at take keep
        have hb16 := zbs_lt k b eo
        refine RQ_b rfl (fun z => absurd (show nI b = -1 from z) (nI_m1 (by omega))) (fun _ => ?_)
        have hbb := zSM_le G S b
        refine RQ_n ZR_ok 3 rfl trivial ?_
        refine RQ_v vX12_shortestOf (m_shortestOf h hS (r := b) (by omega)) rfl k12_300 rfl rfl rfl rfl rfl ?_
        refine RQ_b rfl (fun z => ?_) (fun z => ?_)
        · have z := (zq_le (a := zSM G S b) (b := zSM G S k) rfl rfl (by omega) (by omega)).mp z
          refine keep ?_
          show (zrrB G n k && (decide (zSM G S k < 1000000) && decide (zSM G S k < zSM G S b))) = false
          rw [decide_eq_false (show ¬ zSM G S k < zSM G S b by omega), Bool.and_false, Bool.and_false]
        · have z := (not_congr (zq_le (a := zSM G S b) (b := zSM G S k) rfl rfl (by omega) (by omega))).mp z
          refine take ?_
          show (zrrB G n k && (decide (zSM G S k < 1000000) && decide (zSM G S k < zSM G S b))) = true
          rw [ez, decide_eq_true (show zSM G S k < 1000000 by omega), decide_eq_true (show zSM G S k < zSM G S b by omega)]; rfl
  · exact RQ_b rfl (fun _ => skip (by rw [hp, zrrB, e1, decide_eq_false e2]; rfl)) (fun z => absurd (fun y => e2 ((nI_eq (by omega) (by omega)).mp y)) z)
end WrdM
