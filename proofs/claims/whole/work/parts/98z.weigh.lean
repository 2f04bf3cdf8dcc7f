/-! The class: weighRule. -/
theorem zy47 {P : YP} {MX : MD} (s : SX) (h : MX.1 = 0) : zrc (ZY P) MX s 47 = true := zyr (ci := 0) rfl h (by omega)
theorem zcnt_at {p p' : Nat → Bool} {r : Nat} (h0 : p r = false) (h : ∀ i, i ≠ r → p' i = p i) : ∀ n, zcnt p' n = zcnt p n + if r < n ∧ p' r = true then 1 else 0
  | 0 => by rw [zcnt, zcnt, if_neg (by omega)]
  | n + 1 => by
    have ih := zcnt_at h0 h n
    rw [zcnt, zcnt, ih]
    by_cases y : r = n
    · subst y
      simp [h0]
    · have e : (r < n + 1 ∧ p' r = true) ↔ (r < n ∧ p' r = true) := ⟨fun q => ⟨by have := q.1; omega, q.2⟩, fun q => ⟨by have := q.1; omega, q.2⟩⟩
      rw [h n (fun q => y q.symm)]
      simp only [e]
      omega
theorem zfst_at {p p' : Nat → Bool} {r n : Nat} (hr : r < n) (h1 : p' r = true) (h : ∀ i, i ≠ r → p' i = p i) : zfst p' n = match zfst p n with | none => some r | some a => if r < a then some r else some a := by
  cases hz : zfst p n with
  | none =>
    have := zfst_n.mp hz
    exact zfst_i hr h1 (fun b hb => by rw [h b (by omega)]; exact this b (by omega))
  | some a =>
    obtain ⟨a1, a2, a3⟩ := zfst_s hz
    dsimp only
    by_cases y : r < a
    · rw [if_pos y]
      exact zfst_i hr h1 (fun b hb => by rw [h b (by omega)]; exact a3 b (by omega))
    · rw [if_neg y]
      by_cases z : a = r
      · exact zfst_i a1 (by rw [z]; exact h1) (fun b hb => by rw [h b (by omega)]; exact a3 b hb)
      · exact zfst_i a1 (by rw [h a z]; exact a2) (fun b hb => by rw [h b (by omega)]; exact a3 b hb)
/-- how many things could be done by a sign: shift by the bits sh, rules of S by the looks lk -/
def zcw (G : ZGT) (sh : Int32) (lk : Nat → Int32) (S : Nat → Bool) (t : Nat) : Nat := (if bt sh t = true then 1 else 0) + zcnt (fun r => S r && bt (lk r) t) (zgR G + 1)
/-- what was weighed so far -/
def XW (G : ZGT) (sh : Int32) (lk : Nat → Int32) (S : Nat → Bool) (v : SX) : Prop := (∀ t, t < 32 → bt (v.1 47 7) t = decide (1 ≤ zcw G sh lk S t)) ∧ (∀ t, t < 32 → bt (v.1 47 8) t = decide (2 ≤ zcw G sh lk S t)) ∧ v.1 47 9 = (if S (zgR G) = true then lk (zgR G) else 0) ∧ ∀ t, t ≤ zgT G → v.2.1 51 t = fI (zfst (fun r => S r && bt (lk r) t) (zgR G))
theorem zcw_in {G : ZGT} {sh : Int32} {lk : Nat → Int32} {S : Nat → Bool} {r t : Nat} (hr : r ≤ zgR G) (hS : S r = false) : zcw G sh lk (fun q => S q || decide (q = r)) t = zcw G sh lk S t + if bt (lk r) t = true then 1 else 0 := by
  unfold zcw
  have := zcnt_at (p := fun q => S q && bt (lk q) t) (p' := fun q => (S q || decide (q = r)) && bt (lk q) t) (r := r) (by rw [hS]; rfl) (fun i hi => by rw [decide_eq_false hi, Bool.or_false]) (zgR G + 1)
  rw [this]
  have e : ((S r || decide (r = r)) && bt (lk r) t) = bt (lk r) t := by rw [decide_eq_true rfl, Bool.or_true, Bool.true_and]
  by_cases z : bt (lk r) t = true
  · rw [if_pos (show r < zgR G + 1 ∧ _ from ⟨by omega, by rw [e]; exact z⟩), if_pos z]; omega
  · rw [if_neg (show ¬ (r < zgR G + 1 ∧ _) from fun q => z (by have := q.2; rw [e] at this; exact this)), if_neg z]; omega
theorem b_shr1 (x : Int32) {t : Nat} (ht : t < 32) : ((x >>> (nI t &&& 31)) &&& 1 = 0) ↔ bt x t = false := by
  have h0 : bt ((x >>> (nI t &&& 31)) &&& 1) 0 = bt x t := by rw [b_and, b_sshr t ht x (by omega), if_pos (by omega), bt_1 0 (by omega)]; simp
  refine ⟨fun h => by rw [← h0, h, b_0], fun h => b_ext (fun i hi => ?_)⟩
  rw [b_0]
  by_cases y : i = 0
  · rw [y, h0]; exact h
  · rw [b_and, bt_1 i hi, decide_eq_false y, Bool.and_false]
set_option maxHeartbeats 1000000 in
theorem y_weighRule {P : YP} {G : ZGT} {u : SX} {sh : Int32} {lk : Nat → Int32} {S : Nat → Bool} (hG : ZGX G u) (hW : XW G sh lk S u) {r : Nat} (hr : r ≤ zgR G) (hS : S r = false) : EvQ (ZY P) mX0_weighRule [.ref 47, .int (nI r), .int (lk r)] u (fun x v => x = none ∧ XW G sh lk (fun q => S q || decide (q = r)) v ∧ frX [(47, 7), (47, 8), (47, 9)] [51] u v) := by
  have hb := hG.b
  obtain ⟨w1, w2, w3, w4⟩ := hW
  refine EQ_V vX0_weighRule rfl ?_
  refine RQ_n (ZY_ok P) 9 rfl trivial ?_
  refine RQ_n (ZY_ok P) 6 rfl trivial ?_
  obtain ⟨v1, hv1⟩ : ∃ w : SX, w = (updI (updI u.1 47 8 (u.1 47 8 ||| (u.1 47 7 &&& lk r))) 47 7 (u.1 47 7 ||| lk r), u.2) := ⟨_, rfl⟩
  show RnQ (ZY P) mX0_weighRule (25, _, _, ((updI (updI u.1 47 8 (u.1 47 8 ||| (u.1 47 7 &&& lk r))) 47 7 (u.1 47 7 ||| lk r), u.2) : SX)) _
  rw [← hv1]
  have f1 : frX [(47, 7), (47, 8), (47, 9)] [51] u v1 := by
    rw [hv1]
    exact (frX.i 47 8 (by decide)).tr (frX.i (s := (updI u.1 47 8 (u.1 47 8 ||| (u.1 47 7 &&& lk r)), u.2)) 47 7 (by decide))
  have i7 : v1.1 47 7 = u.1 47 7 ||| lk r := by rw [hv1]; rfl
  have i8 : v1.1 47 8 = u.1 47 8 ||| (u.1 47 7 &&& lk r) := by rw [hv1]; rfl
  have i9 : v1.1 47 9 = u.1 47 9 := by rw [hv1]; rfl
  have a51 : v1.2.1 51 = u.2.1 51 := by rw [hv1]
  have G1 : ZGX G v1 := hG.fr f1 rfl
  have o1 : ∀ t, t < 32 → bt (v1.1 47 7) t = decide (1 ≤ zcw G sh lk (fun q => S q || decide (q = r)) t) := fun t ht => by
    rw [i7, b_or, w1 t ht, zcw_in hr hS]
    by_cases z : bt (lk r) t = true
    · rw [z, if_pos rfl, Bool.or_true]; exact (decide_eq_true (by omega)).symm
    · rw [if_neg z, Bool.eq_false_iff.mpr z, Bool.or_false]; rfl
  have o2 : ∀ t, t < 32 → bt (v1.1 47 8) t = decide (2 ≤ zcw G sh lk (fun q => S q || decide (q = r)) t) := fun t ht => by
    rw [i8, b_or, b_and, w1 t ht, w2 t ht, zcw_in hr hS]
    by_cases z : bt (lk r) t = true
    · rw [z, if_pos rfl, Bool.and_true]
      by_cases y : 1 ≤ zcw G sh lk S t
      · rw [decide_eq_true y, Bool.or_true]; exact (decide_eq_true (by omega)).symm
      · rw [decide_eq_false y, Bool.or_false, decide_eq_false (by omega)]; exact (decide_eq_false (by omega)).symm
    · rw [if_neg z, Bool.eq_false_iff.mpr z, Bool.and_false, Bool.or_false]; rfl
  refine RQ_n (ZY_ok P) 4 rfl trivial ?_
  rw [G1.2.1.1]
  refine RQ_b rfl (fun z => ?_) (fun z => ?_)
  rotate_left
  · have z := (zq_eq (a := r) (b := zgR G) rfl rfl (by omega) (by omega)).mp (Classical.not_not.mp z)
    refine RQ_n (ZY_ok P) 3 rfl trivial ?_
    refine RQ_to (Rn_vret rfl rfl) ⟨rfl, ⟨fun t ht => o1 t ht, fun t ht => o2 t ht, ?_, fun t ht => ?_⟩, f1.tr (frX.i 47 9 (by decide))⟩
    · show updI v1.1 47 9 (lk r) 47 9 = _
      rw [updI_eq, updS_at, z]
      show lk (zgR G) = if (S (zgR G) || decide (zgR G = zgR G)) = true then lk (zgR G) else 0
      rw [decide_eq_true rfl, Bool.or_true, if_pos rfl]
    · show v1.2.1 51 t = _
      rw [a51, w4 t ht]
      exact congrArg fI (zfst_cg _ (fun i hi => by show (S i && bt (lk i) t) = ((S i || decide (i = r)) && bt (lk i) t); rw [decide_eq_false (show ¬ i = r by omega), Bool.or_false]))
  have z := (not_congr (zq_eq (a := r) (b := zgR G) rfl rfl (by omega) (by omega))).mp z
  have hrR : r < zgR G := by omega
  have i9' : v1.1 47 9 = (if (S (zgR G) || decide (zgR G = r)) = true then lk (zgR G) else 0) := by rw [i9, w3, decide_eq_false (show ¬ zgR G = r by omega), Bool.or_false]
  refine RQ_n (ZY_ok P) 2 rfl trivial ?_
  refine loopU (zgT G + 1) (fun t (_ : Unit) => [some (.ref 47), some (.int (nI r)), some (.int (lk r)), some (.int (nI t))]) (fun t _ w => (∀ t', t' < t → w.2.1 51 t' = fI (zfst (fun q => (S q || decide (q = r)) && bt (lk q) t') (zgR G))) ∧ (∀ t', t ≤ t' → w.2.1 51 t' = u.2.1 51 t') ∧ frX [] [51] v1 w) ?_ 0 () v1 (by omega) ⟨fun t' ht' => by omega, fun t' _ => by rw [a51], frX.rf⟩
  intro t _ w ht hJ ih
  obtain ⟨g1, g2, g3⟩ := hJ
  have Gw : ZGX G w := G1.fr g3 rfl
  refine RQ_n (ZY_ok P) 4 rfl trivial ?_
  rw [Gw.2.1.2.2]
  refine RQ_b rfl (fun y => ?_) (fun y => ?_)
  · have y := (zq_lt (a := zgT G) (b := t) rfl rfl (by omega) (by omega)).mp y
    refine RQ_to (Rn_vret rfl rfl) ⟨rfl, ⟨fun t ht => ?_, fun t ht => ?_, ?_, fun t' ht' => g1 t' (by omega)⟩, f1.tr (g3.up (by decide) (by decide))⟩
    · rw [g3.1 47 7 (by decide)]; exact o1 t ht
    · rw [g3.1 47 8 (by decide)]; exact o2 t ht
    · rw [g3.1 47 9 (by decide)]; exact i9'
  have y := (not_congr (zq_lt (a := zgT G) (b := t) rfl rfl (by omega) (by omega))).mp y
  have hlt : w.2.1 51 t = fI (zfst (fun q => S q && bt (lk q) t) (zgR G)) := by rw [g2 t (Nat.le_refl _)]; exact w4 t (by omega)
  have hoth : ∀ i, i ≠ r → ((S i || decide (i = r)) && bt (lk i) t) = (S i && bt (lk i) t) := fun i hi => by rw [decide_eq_false hi, Bool.or_false]
  refine RQ_n (ZY_ok P) 5 rfl trivial ?_
  -- nothing is changed
  have same : fI (zfst (fun q => (S q || decide (q = r)) && bt (lk q) t) (zgR G)) = fI (zfst (fun q => S q && bt (lk q) t) (zgR G)) → RnQ (ZY P) mX0_weighRule (90, [some (.ref 47), some (.int (nI r)), some (.int (lk r)), some (.int (nI t))], [], w) (fun x v => x = none ∧ XW G sh lk (fun q => S q || decide (q = r)) v ∧ frX [(47, 7), (47, 8), (47, 9)] [51] u v) := by
    intro e
    refine RQ_n (ZY_ok P) 2 rfl trivial ?_
    refine ih (by omega) () _ _ ⟨rfl, rfl, rfl, nIs t, trivial⟩ ⟨fun t' ht' => ?_, fun t' ht' => g2 t' (by omega), g3⟩
    by_cases q : t' = t
    · rw [q, hlt, e]
    · exact g1 t' (by omega)
  have other : zfst (fun q => (S q || decide (q = r)) && bt (lk q) t) (zgR G) = some r → RnQ (ZY P) mX0_weighRule (83, [some (.ref 47), some (.int (nI r)), some (.int (lk r)), some (.int (nI t))], [], w) (fun x v => x = none ∧ XW G sh lk (fun q => S q || decide (q = r)) v ∧ frX [(47, 7), (47, 8), (47, 9)] [51] u v) := by
    intro e
    refine RQ_n (ZY_ok P) 4 rfl trivial ?_
    refine RQ_n (ZY_ok P) 1 rfl ⟨nI_in (by omega) (by omega), trivial⟩ ?_
    rw [nI_clamp (show t < 2 ^ 31 by omega)]
    obtain ⟨v3, hv3⟩ : ∃ w1 : SX, w1 = (w.1, updA w.2.1 51 t (nI r), w.2.2) := ⟨_, rfl⟩
    rw [← hv3]
    have f3 : frX [] [51] w v3 := by rw [hv3]; exact frX.a 51 (by decide)
    have h51 : v3.2.1 51 = upd (w.2.1 51) t (nI r) := by rw [hv3]; rfl
    refine RQ_n (ZY_ok P) 2 rfl trivial ?_
    refine ih (by omega) () _ _ ⟨rfl, rfl, rfl, nIs t, trivial⟩ ⟨fun t' ht' => ?_, fun t' ht' => ?_, g3.tr f3⟩
    · rw [h51]
      by_cases q : t' = t
      · rw [q, upd_at, e]; rfl
      · rw [upd_ne q]; exact g1 t' (by omega)
    · rw [h51, upd_ne (by omega)]; exact g2 t' (by omega)
  refine RQ_b rfl (fun q => ?_) (fun q => ?_)
  · have q := (b_shr1 (lk r) (show t < 32 by omega)).mp q
    refine same (congrArg fI (zfst_cg _ (fun i hi => ?_)))
    by_cases x : i = r
    · rw [x, q, Bool.and_false, Bool.and_false]
    · exact hoth i x
  have q : bt (lk r) t = true := by
    have := (not_congr (b_shr1 (lk r) (show t < 32 by omega))).mp q
    cases hq : bt (lk r) t with
    | true => rfl
    | false => exact absurd hq this
  have hnew := zfst_at (p := fun q => S q && bt (lk q) t) (p' := fun q => (S q || decide (q = r)) && bt (lk q) t) hrR (by rw [decide_eq_true rfl, Bool.or_true, q]; rfl) hoth
  refine RQ_n (ZY_ok P) 3 rfl trivial ?_
  refine RQ_n (ZY_ok P) 1 rfl ⟨nI_in (by omega) (by omega), trivial⟩ ?_
  rw [nI_clamp (show t < 2 ^ 31 by omega), hlt]
  refine RQ_n (ZY_ok P) 1 rfl trivial ?_
  cases hz : zfst (fun q => S q && bt (lk q) t) (zgR G) with
  | none =>
    rw [hz] at hnew
    refine RQ_b rfl (fun _ => ?_) (fun x => absurd rfl x)
    exact other hnew
  | some a =>
    rw [hz] at hnew
    dsimp only at hnew
    have ha := (zfst_s hz).1
    refine RQ_b rfl (fun x => absurd x (nI_m1 (a := a) (by omega))) (fun _ => ?_)
    refine RQ_n (ZY_ok P) 4 rfl trivial ?_
    refine RQ_n (ZY_ok P) 1 rfl ⟨nI_in (by omega) (by omega), trivial⟩ ?_
    rw [nI_clamp (show t < 2 ^ 31 by omega), hlt, hz]
    refine RQ_b rfl (fun x => ?_) (fun x => ?_)
    · have x := (zq_le (a := a) (b := r) rfl rfl (by omega) (by omega)).mp x
      rw [if_neg (by omega)] at hnew
      exact same (by rw [hnew, hz])
    · have x := (not_congr (zq_le (a := a) (b := r) rfl rfl (by omega) (by omega))).mp x
      rw [if_pos (by omega)] at hnew
      exact other hnew
