/-! The class: add, a slot more. -/
/-- what add leaves -/
def frAd (c m : Nat) (u v : SX) : Prop := (∀ b j, ¬ (b = 36 ∧ j = 5) → ¬ (b = c ∧ j = 0) → v.1 b j = u.1 b j) ∧ (∀ b, b ≠ 38 → b ≠ 40 → b ≠ c + 1 → b ≠ c + 2 → v.2.1 b = u.2.1 b) ∧ v.2.2.1 = u.2.2.1 ∧ v.2.2.2.1 = u.2.2.2.1 ∧ (∀ b i, ¬ (b = 37 ∧ i = m) → v.2.2.2.2.2 b i = u.2.2.2.2.2 b i) ∧ u.2.2.2.2.1 ≤ v.2.2.2.2.1
theorem updI_nj {f : Nat → Nat → Int32} {c k b j : Nat} {x : Int32} (h : ¬ (b = c ∧ j = k)) : updI f c k x b j = f b j := by
  by_cases z : b = c
  · subst z
    rw [updI_eq]
    unfold updS
    cases hj : Nat.beq j k with
    | true => exact absurd ⟨rfl, Nat.eq_of_beq_eq_true hj⟩ h
    | false => rfl
  · rw [updI_ne z]
theorem y_addK {P : YP} {u : SX} {m : Nat} {h : Nat → Nat} {N : Nat → Int32} {core : Option Nat} (hY : YR P u) (hR : KRw h u) (hm : m < 200) (hmh : m ≤ h 37) (h5 : u.1 36 5 = nI m) (hN : KX N 31 u) (hco : ∀ c, core = some c → c < 200) :
    EvQ (ZY P) mX1_add [.ref 36, .ref 31, .int (fI core)] u (fun x v => x = some (.int (nI m)) ∧ v.1 36 5 = nI (m + 1) ∧ (∃ c, v.2.2.2.2.2 37 m = some c ∧ (99 ≤ c ∧ isKc c v.2.2.2.2.1) ∧ KX N c v ∧ frAd c m u v) ∧ YR P v ∧ (∃ h', KRw h' v ∧ m + 1 ≤ h' 37 ∧ (h' 37 = h 37 ∨ h' 37 = m + 1) ∧ ∀ a, a ≠ 37 → h' a = h a) ∧ (v.2.1 38 m = nI (core.getD m) ∧ ∀ i, i ≠ m → v.2.1 38 i = u.2.1 38 i) ∧ ∀ j, v.2.1 40 j = if 14 * m ≤ j ∧ j < 14 * m + 14 then -1 else u.2.1 40 j) := by
  have hin : vp_in (nI m) 200 := nI_in (by omega) (by omega)
  have hic : (nI m).toNatClampNeg = m := nI_clamp (by omega)
  refine EQ_V vX1_add rfl ?_
  refine RQ_n (ZY_ok P) 11 rfl trivial ?_
  rw [h5]
  obtain ⟨u1, hu1⟩ : ∃ w : SX, w = (updI u.1 36 5 (nI m + 1), u.2) := ⟨_, rfl⟩
  rw [← hu1]
  have hY1 : YR P u1 := hY.fr (by rw [hu1])
  have hR1 : KRw h u1 := hR.fr (by rw [hu1])
  refine RQ_VN vX1_kernelIn (y_kernelAny hY1 hR1 hm hmh) rfl k1_64 rfl rfl rfl (zy36 _ rfl) ?_ ?_
  · show (((Nat.blt 36 (3 * u1.2.2.2.2.1 + 99)) && ((Nat.blt 31 (3 * u1.2.2.2.2.1 + 99)) && true)) && true) = true
    rw [zblt (show 36 < 3 * u1.2.2.2.2.1 + 99 by omega), zblt (show 31 < 3 * u1.2.2.2.2.1 + 99 by omega)]; rfl
  rintro r1 v1 ⟨c, rfl, hrow, hc, hf, hY2, h', hR2, hm2, hh1, hh2⟩
  have hc1 : 99 ≤ c := hc.1
  refine RQ_n (ZY_ok P) 1 rfl trivial ?_
  have hN1 : KX N 31 v1 := hN.fr (by rw [hf.1 31 0 (fun y => by omega), hu1]; show updI u.1 36 5 (nI m + 1) 31 0 = _; exact updI_nj (fun y => absurd y.1 (by decide))) (by rw [hf.2.1 32 (by omega) (by omega), hu1]) (by rw [hf.2.1 33 (by omega) (by omega), hu1])
  refine RQ_V vX7_copy (y_copy hc.2 (Or.inr (Or.inl rfl)) (by omega) hN1) rfl k1_68 rfl rfl rfl (zyk hc.2 rfl) (fun _ s1 q => by show 3 * s1.2.2.2.2.1 + 99 = 3 * v1.2.2.2.2.1 + 99; rw [q.2.2.2.2]) ?_
  rintro r2 v2 ⟨rfl, hK2, hf2⟩
  have tail : ∀ x : Int32, x = nI (core.getD m) → RnQ (ZY P) mX1_add (39, [some (.ref 36), some (.ref 31), some (.int (fI core)), some (.int (nI m))], [.int x, .int (nI m), .ref 38], v2) (fun x v => x = some (.int (nI m)) ∧ v.1 36 5 = nI (m + 1) ∧ (∃ c, v.2.2.2.2.2 37 m = some c ∧ (99 ≤ c ∧ isKc c v.2.2.2.2.1) ∧ KX N c v ∧ frAd c m u v) ∧ YR P v ∧ (∃ h', KRw h' v ∧ m + 1 ≤ h' 37 ∧ (h' 37 = h 37 ∨ h' 37 = m + 1) ∧ ∀ a, a ≠ 37 → h' a = h a) ∧ (v.2.1 38 m = nI (core.getD m) ∧ ∀ i, i ≠ m → v.2.1 38 i = u.2.1 38 i) ∧ ∀ j, v.2.1 40 j = if 14 * m ≤ j ∧ j < 14 * m + 14 then -1 else u.2.1 40 j) := by
    intro x hx
    refine RQ_n (ZY_ok P) 1 rfl ⟨hin, trivial⟩ ?_
    rw [hic]
    obtain ⟨v3, hv3⟩ : ∃ w : SX, w = (v2.1, updA v2.2.1 38 m x, v2.2.2) := ⟨_, rfl⟩
    rw [← hv3]
    refine RQ_n (ZY_ok P) 11 rfl trivial ?_
    have e1 : nI m * 14 = nI (14 * m) := by rw [show (14 : Int32) = nI 14 from rfl, nI_mul, Nat.mul_comm]
    have e2 : (nI m + 1) * 14 = nI (14 * m + 14) := by rw [show (nI m + 1 : Int32) = nI (m + 1) from nI_add _ 1, show (14 : Int32) = nI 14 from rfl, nI_mul, Nat.mul_comm, Nat.mul_add, Nat.mul_one]
    rw [e1, e2]
    refine RQ_s vJ7_fill_fda19 (y_fillR v3 40 2800 (14 * m) (14 * m + 14) (-1) (by omega) (by omega) (by omega) (by omega) (fun _ _ => rfl)) rfl k1_72 rfl rfl rfl rfl ?_
    obtain ⟨v4, hv4⟩ : ∃ w : SX, w = (v3.1, setA v3.2.1 40 (fil (v3.2.1 40) (14 * m) (14 * m + 14) (-1)), v3.2.2) := ⟨_, rfl⟩
    rw [← hv4]
    refine RQ_n (ZY_ok P) 1 rfl trivial ?_
    have q1 : v4.1 = v2.1 := by rw [hv4, hv3]
    have q3 : v4.2.2 = v1.2.2 := by rw [hv4, hv3]; exact hf2.2.2
    have q2 : ∀ b, b ≠ 38 → b ≠ 40 → v4.2.1 b = v2.2.1 b := fun b y1 y2 => by
      rw [hv4]
      show setA v3.2.1 40 (fil (v3.2.1 40) (14 * m) (14 * m + 14) (-1)) b = _
      rw [setA_ne y2, hv3]
      exact updA_ne y1
    have q38 : v4.2.1 38 = upd (u.2.1 38) m x := by
      rw [hv4]
      show setA v3.2.1 40 (fil (v3.2.1 40) (14 * m) (14 * m + 14) (-1)) 38 = _
      rw [setA_ne (by omega), hv3]
      show updA v2.2.1 38 m x 38 = _
      rw [updA_eq, hf2.2.1 38 (by simp only [List.mem_cons, List.not_mem_nil, or_false]; omega), hf.2.1 38 (by omega) (by omega), hu1]
    have q40 : v4.2.1 40 = fil (u.2.1 40) (14 * m) (14 * m + 14) (-1) := by
      rw [hv4]
      show setA v3.2.1 40 (fil (v3.2.1 40) (14 * m) (14 * m + 14) (-1)) 40 = _
      rw [setA_at, hv3]
      show fil (updA v2.2.1 38 m x 40) _ _ _ = _
      rw [updA_ne (by omega), hf2.2.1 40 (by simp only [List.mem_cons, List.not_mem_nil, or_false]; omega), hf.2.1 40 (by omega) (by omega), hu1]
    refine RQ_to (Rn_iret rfl rfl) ⟨rfl, ?_, ⟨c, ?_, ⟨hc.1, ?_⟩, ?_, ?_, ?_, ?_, ?_, ?_, ?_⟩, hY2.fr q3, ⟨h', hR2.fr q3, hm2, hh1, hh2⟩, ⟨?_, ?_⟩, ?_⟩
    · rw [q1, hf2.1 36 5 (by simp only [List.mem_cons, List.not_mem_nil, or_false, Prod.mk.injEq]; omega), hf.1 36 5 (by omega), hu1]
      show updI u.1 36 5 (nI m + 1) 36 5 = _
      rw [updI_eq]
      exact nI_add m 1
    · rw [q3]; exact hrow
    · rw [q3]; exact hc.2
    · exact hK2.fr (by rw [q1]) (q2 _ (by omega) (by omega)) (q2 _ (by omega) (by omega))
    · intro b j y1 y2
      rw [q1, hf2.1 b j (by simp only [List.mem_cons, List.not_mem_nil, or_false, Prod.mk.injEq]; exact y2), hf.1 b j y2, hu1]
      exact updI_nj y1
    · intro b y1 y2 y3 y4
      rw [q2 b y1 y2, hf2.2.1 b (by simp only [List.mem_cons, List.not_mem_nil, or_false]; omega), hf.2.1 b y3 y4, hu1]
    · rw [q3, hf.2.2.1, hu1]
    · rw [q3, hf.2.2.2.1, hu1]
    · intro b i y
      rw [q3, hf.2.2.2.2.1 b i y, hu1]
    · rw [q3]
      have := hf.2.2.2.2.2
      rw [hu1] at this
      exact this
    · rw [q38, upd_at]; exact hx
    · intro i hi
      rw [q38, upd_ne hi]
    · intro j
      rw [q40]
      rfl
  refine RQ_n (ZY_ok P) 5 rfl trivial ?_
  cases hcr : core with
  | none =>
    rw [hcr] at tail
    refine RQ_b rfl (fun z => absurd rfl z) (fun _ => ?_)
    refine RQ_n (ZY_ok P) 2 rfl trivial ?_
    exact tail (nI m) rfl
  | some c0 =>
    have hc0 := hco c0 hcr
    rw [hcr] at tail
    refine RQ_b rfl (fun z => ?_) (fun z => absurd (Classical.not_not.mp z) (nI_m1 (by omega)))
    refine RQ_n (ZY_ok P) 1 rfl trivial ?_
    exact tail (nI c0) rfl
