/-! inputAsNumber, nextInput: the class. -/
/-- the next one by the alphabet, one more at the place below n, and so on downwards -/
def zni (T : Nat) : Nat → (Nat → Nat) → Option (Nat → Nat)
  | 0, _ => none
  | i + 1, f => if f i + 1 < T then some (updN f i (f i + 1)) else zni T i (updN f i 0)
def zcut (f : Nat → Nat) (n i : Nat) : Nat := if i < n then f i else 0
section XInp
variable {P : YP} {G : ZGT} {u : SX} {L : Nat} {f : Nat → Nat}
theorem y_inputAsNumber (hl : u.1 87 3 = nI L) (hL : L ≤ 24) (hf : ∀ i, i < L → u.2.1 88 i = nI (f i)) : Ev (ZY P) mX8_inputAsNumber [.ref 87] u (some (.int (zwn f L))) u := by
  refine EQ_ev ?_
  refine EQ_V vX8_inputAsNumber rfl ?_
  refine RQ_n (ZY_ok P) 4 rfl trivial ?_
  refine loopU L (fun i (_ : Unit) => [some (.ref 87), some (.int (zwn f i)), some (.int (nI i))]) (fun i _ v => v = u) ?_ 0 () u (by omega) rfl
  intro i _ v hi hJ ih
  subst hJ
  refine RQ_n (ZY_ok P) 3 rfl trivial ?_
  rw [hl]
  refine RQ_b rfl (fun z => ?_) (fun z => ?_)
  · have z := (zq_le (a := L) (b := i) rfl rfl (by omega) (by omega)).mp z
    have hie : i = L := by omega
    refine RQ_n (ZY_ok P) 1 rfl trivial ?_
    exact RQ_to (Rn_iret rfl rfl) ⟨by rw [hie], rfl⟩
  have z := (not_congr (zq_le (a := L) (b := i) rfl rfl (by omega) (by omega))).mp z
  refine RQ_n (ZY_ok P) 6 rfl trivial ?_
  refine RQ_n (ZY_ok P) 1 rfl ⟨nI_in (by omega) (by omega), trivial⟩ ?_
  rw [nI_clamp (show i < 2 ^ 31 by omega), hf i (by omega)]
  refine RQ_n (ZY_ok P) 6 rfl trivial ?_
  refine ih (by omega) () _ _ ⟨rfl, ?_, nIs i, trivial⟩ rfl
  rw [zwn, Int32.mul_comm]
set_option maxHeartbeats 1000000 in
theorem y_nextInput (hG : ZGX G u) (hl : u.1 87 3 = nI L) (hL : L ≤ 24) (hf : ∀ i, i < L → u.2.1 88 i = nI (f i)) (hb8 : ∀ i, i < L → f i ≤ 8) {n : Nat} (hn : n ≤ L) :
    EvQ (ZY P) mX8_nextInput [.ref 87, .int (nI n - 1)] u (fun x v => x = some (.int (bI (zni (zgT G) n (zcut f n)).isSome)) ∧ (∀ g, zni (zgT G) n (zcut f n) = some g → ∀ i, i < L → v.2.1 88 i = nI (g i)) ∧ frX [] [88] u v) := by
  have hb := hG.b
  refine EQ_V vX8_nextInput rfl ?_
  -- one more, downwards
  have key : ∀ k (h : Nat → Nat) v, k ≤ L → (∀ i, i < L → v.2.1 88 i = nI (h i)) → (∀ i, i < L → h i ≤ 8) → zni (zgT G) k h = zni (zgT G) n (zcut f n) → frX [] [88] u v → RnQ (ZY P) mX8_nextInput (27, [some (.ref 87), some (.int (nI n - 1)), some (.int (nI k - 1))], [], v) (fun x v => x = some (.int (bI (zni (zgT G) n (zcut f n)).isSome)) ∧ (∀ g, zni (zgT G) n (zcut f n) = some g → ∀ i, i < L → v.2.1 88 i = nI (g i)) ∧ frX [] [88] u v) := by
    intro k
    induction k with
    | zero =>
      intro h v _ h1 _ he hfr
      have he : none = zni (zgT G) n (zcut f n) := he
      rw [← he, show nI 0 - 1 = (-1 : Int32) from rfl]
      refine RQ_n (ZY_ok P) 1 rfl trivial ?_
      refine RQ_b rfl (fun _ => ?_) (fun z => absurd (show (-1 : Int32) < 0 by decide) z)
      refine RQ_n (ZY_ok P) 1 rfl trivial ?_
      exact RQ_to (Rn_zret rfl rfl (Or.inl rfl)) ⟨rfl, (fun g e => by cases e), hfr⟩
    | succ k ih =>
      intro h v hk h1 h8 he hfr
      have e1 : nI (k + 1) - 1 = nI k := nI_m (by omega)
      have hin : vp_in (nI k) 24 := nI_in (by omega) (by omega)
      have hic : (nI k).toNatClampNeg = k := nI_clamp (by omega)
      have hk8 := h8 k (by omega)
      rw [e1]
      refine RQ_n (ZY_ok P) 1 rfl trivial ?_
      refine RQ_b rfl (fun z => ?_) (fun _ => ?_)
      · have := (zq_lt (a := k) (b := 0) rfl rfl (by omega) (by omega)).mp z
        omega
      refine RQ_n (ZY_ok P) 4 rfl trivial ?_
      refine RQ_n (ZY_ok P) 1 rfl ⟨hin, trivial⟩ ?_
      rw [hic, h1 k (by omega)]
      refine RQ_n (ZY_ok P) 2 rfl trivial ?_
      rw [show nI (h k) + 1 = nI (h k + 1) from nI_add _ 1]
      refine RQ_n (ZY_ok P) 1 rfl ⟨hin, trivial⟩ ?_
      rw [hic]
      obtain ⟨v2, hv2⟩ : ∃ x : SX, x = (v.1, updA v.2.1 88 k (nI (h k + 1)), v.2.2) := ⟨_, rfl⟩
      rw [← hv2]
      have f2 : frX [] [88] v v2 := by rw [hv2]; exact frX.a 88 (by decide)
      have h88 : v2.2.1 88 = upd (v.2.1 88) k (nI (h k + 1)) := by rw [hv2]; rfl
      refine RQ_n (ZY_ok P) 3 rfl trivial ?_
      refine RQ_n (ZY_ok P) 1 rfl ⟨hin, trivial⟩ ?_
      rw [hic, show v2.2.1 88 k = nI (h k + 1) by rw [h88, upd_at]]
      refine RQ_n (ZY_ok P) 3 rfl trivial ?_
      rw [(hG.fr (hfr.tr f2) rfl).2.1.2.2]
      by_cases y : h k + 1 < zgT G
      · rw [zni, if_pos y] at he
        refine RQ_b rfl (fun z => ?_) (fun _ => ?_)
        · have := (zq_le (a := zgT G) (b := h k + 1) rfl rfl (by omega) (by omega)).mp z
          omega
        refine RQ_n (ZY_ok P) 1 rfl trivial ?_
        refine RQ_to (Rn_zret rfl rfl (Or.inr rfl)) ⟨by rw [← he]; rfl, fun g e i hi => ?_, hfr.tr f2⟩
        rw [← he] at e
        have e := Option.some.inj e
        rw [← e, h88]
        by_cases q : i = k
        · rw [q, upd_at, updN_at]
        · rw [upd_ne q, updN_ne q]; exact h1 i hi
      · rw [zni, if_neg y] at he
        refine RQ_b rfl (fun _ => ?_) (fun z => absurd ((zq_le (a := zgT G) (b := h k + 1) rfl rfl (by omega) (by omega)).mpr (by omega)) z)
        refine RQ_n (ZY_ok P) 4 rfl trivial ?_
        refine RQ_n (ZY_ok P) 1 rfl ⟨hin, trivial⟩ ?_
        rw [hic]
        obtain ⟨v3, hv3⟩ : ∃ x : SX, x = (v2.1, updA v2.2.1 88 k 0, v2.2.2) := ⟨_, rfl⟩
        rw [← hv3]
        have f3 : frX [] [88] v2 v3 := by rw [hv3]; exact frX.a 88 (by decide)
        have h88' : v3.2.1 88 = upd (v2.2.1 88) k 0 := by rw [hv3]; rfl
        refine RQ_n (ZY_ok P) 2 rfl trivial ?_
        rw [← Int32.sub_eq_add_neg]
        refine ih (updN h k 0) v3 (by omega) (fun i hi => ?_) (fun i hi => ?_) he ((hfr.tr f2).tr f3)
        · rw [h88', h88]
          by_cases q : i = k
          · rw [q, upd_at, updN_at]; rfl
          · rw [upd_ne q, upd_ne q, updN_ne q]; exact h1 i hi
        · by_cases q : i = k
          · rw [q, updN_at]; omega
          · rw [updN_ne q]; exact h8 i hi
  refine RQ_n (ZY_ok P) 3 rfl trivial ?_
  rw [show nI n - 1 + 1 = nI n from Int32.sub_add_cancel _ _]
  refine RQ_n (ZY_ok P) 1 rfl trivial ?_
  refine loopU L (fun i (_ : Unit) => [some (.ref 87), some (.int (nI n - 1)), some (.int (nI i))]) (fun i _ v => n ≤ i ∧ (∀ j, j < L → v.2.1 88 j = if j < n ∨ i ≤ j then nI (f j) else 0) ∧ frX [] [88] u v) ?_ n () u hn ⟨Nat.le_refl _, fun j hj => by rw [if_pos (by omega), hf j hj], frX.rf⟩
  intro i _ v hi hJ ih
  obtain ⟨g0, g1, g2⟩ := hJ
  refine RQ_n (ZY_ok P) 3 rfl trivial ?_
  rw [(g2.1 87 3 (by decide)).trans hl]
  refine RQ_b rfl (fun z => ?_) (fun z => ?_)
  · have z := (zq_le (a := L) (b := i) rfl rfl (by omega) (by omega)).mp z
    refine RQ_n (ZY_ok P) 2 rfl trivial ?_
    refine key n (zcut f n) v hn (fun j hj => ?_) (fun j hj => ?_) rfl g2
    · rw [g1 j hj]
      unfold zcut
      by_cases q : j < n
      · rw [if_pos (Or.inl q), if_pos q]
      · rw [if_neg (by omega), if_neg q]; rfl
    · unfold zcut
      split
      · exact hb8 j hj
      · omega
  have z := (not_congr (zq_le (a := L) (b := i) rfl rfl (by omega) (by omega))).mp z
  refine RQ_n (ZY_ok P) 4 rfl trivial ?_
  refine RQ_n (ZY_ok P) 1 rfl ⟨nI_in (by omega) (by omega), trivial⟩ ?_
  rw [nI_clamp (show i < 2 ^ 31 by omega)]
  obtain ⟨v2, hv2⟩ : ∃ x : SX, x = (v.1, updA v.2.1 88 i 0, v.2.2) := ⟨_, rfl⟩
  rw [← hv2]
  have f2 : frX [] [88] v v2 := by rw [hv2]; exact frX.a 88 (by decide)
  have h88 : v2.2.1 88 = upd (v.2.1 88) i 0 := by rw [hv2]; rfl
  refine RQ_n (ZY_ok P) 2 rfl trivial ?_
  refine ih (by omega) () _ _ ⟨rfl, rfl, nIs i, trivial⟩ ⟨by omega, fun j hj => ?_, g2.tr f2⟩
  rw [h88]
  by_cases q : j = i
  · rw [q, upd_at, if_neg (by omega)]
  · rw [upd_ne q, g1 j hj]
    by_cases x : j < n ∨ i ≤ j
    · rw [if_pos x, if_pos (by omega)]
    · rw [if_neg x, if_neg (by omega)]
end XInp
