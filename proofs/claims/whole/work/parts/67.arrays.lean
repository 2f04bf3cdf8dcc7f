/-! A world of one array of ints; what is done to it is done to any such array of the class. -/
def ZI : ZW (Nat × (Nat → Int32)) := (fun s b => bif Nat.beq b 0 then .inl (0, s.1, .inl s.2) else .inl (0, 0, .inl fun _ => 0), fun _ => 1, fun _ => 0, fun _ _ _ _ => none, fun s a j x => bif Nat.beq a 0 then some (s.1, upd s.2 j x) else none, fun _ _ _ _ => none)
theorem ZI_ok : ZOk ZI := by
  refine ⟨fun s a k v s1 h ha => (by cases h), ?_, fun s a k v s1 h ha => (by cases h)⟩
  intro s a j x s1 h ha
  have ha : a < 1 := ha
  have ha0 : a = 0 := by omega
  subst ha0
  cases h
  refine ⟨⟨rfl, rfl⟩, fun b hb => ?_, fun t nn g hc => ?_⟩
  · show (bif Nat.beq b 0 then (_ : zc) else _) = (bif Nat.beq b 0 then (_ : zc) else _)
    cases hq : Nat.beq b 0 with
    | true => exact absurd (Nat.eq_of_beq_eq_true hq) hb
    | false => rfl
  · cases hc; rfl
theorem setA_ne {f : Nat → Nat → Int32} {a b : Nat} {t : Nat → Int32} (h : b ≠ a) : setA f a t b = f b := by
  unfold setA
  cases hb : Nat.beq b a with
  | true => exact absurd (Nat.eq_of_beq_eq_true hb) h
  | false => rfl
theorem setA_at {f : Nat → Nat → Int32} {a : Nat} {t : Nat → Int32} : setA f a t a = t := by unfold setA; rw [Nat.beq_refl]; rfl
def enA (a n k : Nat) : Nat := bif Nat.beq k 0 then a else n + k
theorem Ev_arr {P : YP} {M : MD} {s : SX} {a N : Nat} {f g : Nat → Int32} {as : List Value} {r : Option Value} (h : Ev ZI M (.ref 0 :: as) (N, f) r (N, g)) (hf : s.2.1 a = f) (ha : a < 3 * s.2.2.2.2.1 + 99)
    (hc : ∀ t : SX, t.2.2.2.2.1 = s.2.2.2.2.1 → ycel P t a = .inl (0, N, .inl (t.2.1 a))) (has : ∀ e, as.map (ze e) = as) (hr : ∀ e, r.map (ze e) = r) : Ev (ZY P) M (.ref a :: as) s r (s.1, setA s.2.1 a g, s.2.2) := by
  have h0 := Ev_emb (Z2 := ZY P) (s2 := s) (s2' := (s.1, setA s.2.1 a g, s.2.2)) (enA a (3 * s.2.2.2.2.1 + 99)) h ⟨Nat.le_refl _, Nat.le_refl _⟩ ((Nat.sub_self _).trans (Nat.sub_self _).symm) ((Nat.sub_self _).trans (Nat.sub_self _).symm) ?_ ?_ ?_ ?_ ?_ ?_ ?_ ?_ ?_
  · rw [hr] at h0
    have e1 : (Value.ref 0 :: as).map (ze (enA a (3 * s.2.2.2.2.1 + 99))) = .ref a :: as := by
      rw [List.map_cons, has]
      rfl
    rw [e1] at h0
    exact h0
  · intro k hk
    have hk : k < 1 := hk
    have : k = 0 := by omega
    subst this
    exact ha
  · intro k hk
    have hk : k < 1 := hk
    have : k = 0 := by omega
    subst this
    exact ha
  · intro k hk
    have hk : 1 ≤ k := hk
    show 3 * s.2.2.2.2.1 + 99 ≤ enA a _ k
    unfold enA
    cases hb : Nat.beq k 0 with
    | true => have := Nat.eq_of_beq_eq_true hb; omega
    | false => show _ ≤ _ + k; omega
  · intro j k hj hk _
    have hj : j < 1 := hj
    have hk : k < 1 := hk
    omega
  · intro k hk
    have hk : k < 1 := hk
    have : k = 0 := by omega
    subst this
    show ycel P s a = _
    rw [hc s rfl, hf]
    rfl
  · intro k hk
    have hk : k < 1 := hk
    have : k = 0 := by omega
    subst this
    show ycel P (s.1, setA s.2.1 a g, s.2.2) a = _
    rw [hc (s.1, setA s.2.1 a g, s.2.2) rfl]
    show Sum.inl (0, N, Sum.inl (setA s.2.1 a g a)) = _
    rw [setA_at]
    rfl
  · intro b hb
    by_cases z : b = a
    · exact Or.inl ⟨0, by show 0 < 1; omega, z⟩
    · refine Or.inr ⟨hb, fun k hk => ?_, ?_⟩
      · have hk : k < 1 := hk
        have : k = 0 := by omega
        subst this
        exact z
      · show yc P (s.1 b) (setA s.2.1 a g b) _ _ _ b = yc P (s.1 b) (s.2.1 b) _ _ _ b
        rw [setA_ne z]
  · intro ad ad1 c1 c2 c3
    refine ⟨ad, fun _ _ => rfl, c3, fun k => ?_⟩
    by_cases z : k = 0
    · subst z
      exact (c1 0 (by show 0 < 1; omega)).symm
    · rw [c2 k (by show 1 ≤ k; omega)]
      apply c3
      show 3 * s.2.2.2.2.1 + 99 ≤ enA a _ k
      unfold enA
      cases hb : Nat.beq k 0 with
      | true => exact absurd (Nat.eq_of_beq_eq_true hb) z
      | false => show _ ≤ _ + k; omega
  · intro dA ad ad' b hb hne c1 c2 c3
    have e1 : ad' = ad := funext fun q => by
      by_cases z : q < 3 * s.2.2.2.2.1 + 99
      · exact c1 q z
      · have z1 : (ZY P).2.1 s ≤ q := by show 3 * s.2.2.2.2.1 + 99 ≤ q; omega
        rw [c2 q z1]
        exact c3 q z1
    rw [e1]
def fil (f : Nat → Int32) (a b : Nat) (v : Int32) : Nat → Int32 := fun j => if a ≤ j ∧ j < b then v else f j
theorem fil_s (f : Nat → Int32) (a b : Nat) (v : Int32) (h : a ≤ b) : upd (fil f a b v) b v = fil f a (b + 1) v := by
  funext j
  unfold fil
  by_cases z : j = b
  · subst z
    rw [upd_at, if_pos ⟨h, by omega⟩]
  · rw [upd_ne z]
    by_cases w : a ≤ j ∧ j < b
    · rw [if_pos w, if_pos ⟨w.1, by omega⟩]
    · rw [if_neg w, if_neg (fun y => w ⟨y.1, by omega⟩)]
theorem fil_0 (f : Nat → Int32) (a : Nat) (v : Int32) : fil f a a v = f := by
  funext j
  unfold fil
  rw [if_neg (by omega)]
theorem fil_in {f : Nat → Int32} {a b j : Nat} {v : Int32} (h1 : a ≤ j) (h2 : j < b) : fil f a b v j = v := by unfold fil; rw [if_pos ⟨h1, h2⟩]
theorem fil_out {f : Nat → Int32} {a b j : Nat} {v : Int32} (h : j < a ∨ b ≤ j) : fil f a b v j = f j := by unfold fil; rw [if_neg (by omega)]
theorem i_fill (N : Nat) (f : Nat → Int32) (v : Int32) (hN : N < 2 ^ 31) : Ev ZI mJ7_fill_53178 [.ref 0, .int v] (N, f) none (N, fil f 0 N v) := by
  refine EQ_ev (EQ_T vJ7_fill_53178 rfl ?_)
  refine RQ_n ZI_ok 5 rfl trivial ?_
  refine loopU N (fun i (_ : Unit) => [some (.ref 0), some (.int v), some (.int (nI i)), some (.int (nI N))]) (fun i _ u => u = (N, fil f 0 i v)) ?_ 0 () _ (by omega) (by rw [fil_0])
  intro i _ u hi hu ih
  subst hu
  refine RQ_n ZI_ok 2 rfl trivial ?_
  refine RQ_b rfl (fun q => ?_) (fun q => ?_)
  · have q := (zq_le (a := N) (b := i) rfl rfl (by omega) (by omega)).mp q
    have : i = N := by omega
    subst this
    exact RQ_to (Rn_vret rfl rfl) ⟨rfl, rfl⟩
  · have q := (not_congr (zq_le (a := N) (b := i) rfl rfl (by omega) (by omega))).mp q
    refine RQ_n ZI_ok 6 rfl ⟨nI_in (by omega) (by omega), trivial⟩ ?_
    refine ih (by omega) () _ _ ⟨rfl, rfl, nIs i, rfl, trivial⟩ ?_
    show (N, upd (fil f 0 i v) (nI i).toNatClampNeg v) = _
    rw [nI_clamp (by omega), fil_s _ _ _ _ (by omega)]
def mJ7_rangeCheck_23922 : MD := (13, yJ7_rangeCheck_23922, cJ7_rangeCheck_23922, 3, none, (1, 60, 74), fun pc => bif Nat.blt pc 39 then (bif Nat.blt pc 18 then (bif Nat.blt pc 8 then (bif Nat.blt pc 2 then (bif Nat.blt pc 1 then (bif Nat.beq pc 0 then some (.iload_n 1, 1, 1, 0, 0) else none) else (bif Nat.beq pc 1 then some (.iload_n 2, 1, 2, 0, 0) else none)) else (bif Nat.blt pc 5 then (bif Nat.beq pc 2 then some (.if_icmp .le 44, 3, 5, 46, 0) else none) else (bif Nat.beq pc 5 then some (.new 43, 3, 8, 0, 0) else none))) else (bif Nat.blt pc 12 then (bif Nat.blt pc 9 then (bif Nat.beq pc 8 then some (.dup, 1, 9, 0, 0) else none) else (bif Nat.beq pc 9 then some (.new 45, 3, 12, 0, 0) else none)) else (bif Nat.blt pc 13 then (bif Nat.beq pc 12 then some (.dup, 1, 13, 0, 0) else none) else (bif Nat.blt pc 16 then (bif Nat.beq pc 13 then some (.invokespecial 47, 3, 16, 0, 0) else none) else (bif Nat.beq pc 16 then some (.ldc 48, 2, 18, 0, 0) else none))))) else (bif Nat.blt pc 27 then (bif Nat.blt pc 22 then (bif Nat.blt pc 21 then (bif Nat.beq pc 18 then some (.invokevirtual 50, 3, 21, 0, 0) else none) else (bif Nat.beq pc 21 then some (.iload_n 1, 1, 22, 0, 0) else none)) else (bif Nat.blt pc 25 then (bif Nat.beq pc 22 then some (.invokevirtual 54, 3, 25, 0, 0) else none) else (bif Nat.beq pc 25 then some (.ldc 57, 2, 27, 0, 0) else none))) else (bif Nat.blt pc 31 then (bif Nat.blt pc 30 then (bif Nat.beq pc 27 then some (.invokevirtual 50, 3, 30, 0, 0) else none) else (bif Nat.beq pc 30 then some (.iload_n 2, 1, 31, 0, 0) else none)) else (bif Nat.blt pc 34 then (bif Nat.beq pc 31 then some (.invokevirtual 54, 3, 34, 0, 0) else none) else (bif Nat.blt pc 36 then (bif Nat.beq pc 34 then some (.ldc 59, 2, 36, 0, 0) else none) else (bif Nat.beq pc 36 then some (.invokevirtual 50, 3, 39, 0, 0) else none)))))) else (bif Nat.blt pc 58 then (bif Nat.blt pc 47 then (bif Nat.blt pc 45 then (bif Nat.blt pc 42 then (bif Nat.beq pc 39 then some (.invokevirtual 61, 3, 42, 0, 0) else none) else (bif Nat.beq pc 42 then some (.invokespecial 65, 3, 45, 0, 0) else none)) else (bif Nat.blt pc 46 then (bif Nat.beq pc 45 then some (.athrow, 1, 46, 0, 0) else none) else (bif Nat.beq pc 46 then some (.iload_n 1, 1, 47, 0, 0) else none))) else (bif Nat.blt pc 53 then (bif Nat.blt pc 50 then (bif Nat.beq pc 47 then some (.ifCond .ge 12, 3, 50, 59, 0) else none) else (bif Nat.beq pc 50 then some (.new 68, 3, 53, 0, 0) else none)) else (bif Nat.blt pc 54 then (bif Nat.beq pc 53 then some (.dup, 1, 54, 0, 0) else none) else (bif Nat.blt pc 55 then (bif Nat.beq pc 54 then some (.iload_n 1, 1, 55, 0, 0) else none) else (bif Nat.beq pc 55 then some (.invokespecial 70, 3, 58, 0, 0) else none))))) else (bif Nat.blt pc 67 then (bif Nat.blt pc 60 then (bif Nat.blt pc 59 then (bif Nat.beq pc 58 then some (.athrow, 1, 59, 0, 0) else none) else (bif Nat.beq pc 59 then some (.iload_n 2, 1, 60, 0, 0) else none)) else (bif Nat.blt pc 61 then (bif Nat.beq pc 60 then some (.iload_n 0, 1, 61, 0, 0) else none) else (bif Nat.blt pc 64 then (bif Nat.beq pc 61 then some (.if_icmp .le 12, 3, 64, 73, 0) else none) else (bif Nat.beq pc 64 then some (.new 68, 3, 67, 0, 0) else none)))) else (bif Nat.blt pc 69 then (bif Nat.blt pc 68 then (bif Nat.beq pc 67 then some (.dup, 1, 68, 0, 0) else none) else (bif Nat.beq pc 68 then some (.iload_n 2, 1, 69, 0, 0) else none)) else (bif Nat.blt pc 72 then (bif Nat.beq pc 69 then some (.invokespecial 70, 3, 72, 0, 0) else none) else (bif Nat.blt pc 73 then (bif Nat.beq pc 72 then some (.athrow, 1, 73, 0, 0) else none) else (bif Nat.beq pc 73 then some (.return_, 1, 74, 0, 0) else none)))))))
theorem bJ7_rangeCheck_23922 : zMb mJ7_rangeCheck_23922 = true := by decide +kernel
theorem vJ7_rangeCheck_23922 : ZMT mJ7_rangeCheck_23922 3 := zMt_of (p1 := 4122) (p2 := 1015) (p3 := 4121) bJ7_rangeCheck_23922 (by decide +kernel)
theorem kJ7_13 : Cond.methodLink RJ7 13 yJ7_rangeCheck_23922 ∈ zT := zT_at 4120 (by decide +kernel) rfl
theorem e_rangeCheck {S : Type} {Z : ZW S} (hZ : ZOk Z) (s : S) (x y z : Int32) (h1 : y ≤ z) (h2 : (0 : Int32) ≤ y) (h3 : z ≤ x) : Ev Z mJ7_rangeCheck_23922 [.int x, .int y, .int z] s none s := by
  refine Ev_T vJ7_rangeCheck_23922 rfl ?_
  refine Rn_n hZ 2 rfl trivial ?_
  refine Rn_b rfl (fun _ => ?_) (fun q => absurd h1 q)
  refine Rn_n hZ 1 rfl trivial ?_
  refine Rn_b rfl (fun _ => ?_) (fun q => absurd h2 q)
  refine Rn_n hZ 2 rfl trivial ?_
  refine Rn_b rfl (fun _ => ?_) (fun q => absurd h3 q)
  exact Rn_vret rfl rfl
theorem i_fillR (N a b : Nat) (f : Nat → Int32) (v : Int32) (hN : N < 2 ^ 31) (hab : a ≤ b) (hb : b ≤ N) : Ev ZI mJ7_fill_fda19 [.ref 0, .int (nI a), .int (nI b), .int v] (N, f) none (N, fil f a b v) := by
  refine EQ_ev (EQ_T vJ7_fill_fda19 rfl ?_)
  refine RQ_n ZI_ok 4 rfl trivial ?_
  refine RQ_s vJ7_rangeCheck_23922 (e_rangeCheck ZI_ok _ (nI N) (nI a) (nI b) (nI_le hab (by omega)) (nI_le (a := 0) (by omega) (by omega)) (nI_le hb (by omega))) rfl kJ7_13 rfl rfl rfl rfl ?_
  refine RQ_n ZI_ok 2 rfl trivial ?_
  have key := loopU (Z := ZI) (M := mJ7_fill_fda19) (pc := 10) (Q := fun r u => r = none ∧ u = (N, fil f a b v)) (b - a) (fun i (_ : Unit) => [some (.ref 0), some (.int (nI a)), some (.int (nI b)), some (.int v), some (.int (nI (a + i)))]) (fun i _ u => u = (N, fil f a (a + i) v)) ?_ 0 () (N, f) (by omega) (by rw [Nat.add_zero, fil_0])
  · exact key
  · intro i _ u hi hu ih
    subst hu
    refine RQ_n ZI_ok 2 rfl trivial ?_
    refine RQ_b rfl (fun q => ?_) (fun q => ?_)
    · have q := (zq_le (a := b) (b := a + i) rfl rfl (by omega) (by omega)).mp q
      have : a + i = b := by omega
      rw [this]
      exact RQ_to (Rn_vret rfl rfl) ⟨rfl, rfl⟩
    · have q := (not_congr (zq_le (a := b) (b := a + i) rfl rfl (by omega) (by omega))).mp q
      refine RQ_n ZI_ok 6 rfl ⟨nI_in (by omega) (by omega), trivial⟩ ?_
      refine ih (by omega) () _ _ ⟨rfl, rfl, rfl, rfl, nIs (a + i), trivial⟩ ?_
      show (N, upd (fil f a (a + i) v) (nI (a + i)).toNatClampNeg v) = _
      rw [nI_clamp (by omega), fil_s _ _ _ _ (by omega), Nat.add_assoc]
theorem y_fill {P : YP} (s : SX) (a N : Nat) (v : Int32) (hN : N < 2 ^ 31) (ha : a < 3 * s.2.2.2.2.1 + 99) (hc : ∀ t : SX, t.2.2.2.2.1 = s.2.2.2.2.1 → ycel P t a = .inl (0, N, .inl (t.2.1 a))) : Ev (ZY P) mJ7_fill_53178 [.ref a, .int v] s none (s.1, setA s.2.1 a (fil (s.2.1 a) 0 N v), s.2.2) :=
  Ev_arr (i_fill N (s.2.1 a) v hN) rfl ha hc (fun _ => rfl) (fun _ => rfl)
theorem y_fillR {P : YP} (s : SX) (a N i j : Nat) (v : Int32) (hN : N < 2 ^ 31) (hij : i ≤ j) (hj : j ≤ N) (ha : a < 3 * s.2.2.2.2.1 + 99) (hc : ∀ t : SX, t.2.2.2.2.1 = s.2.2.2.2.1 → ycel P t a = .inl (0, N, .inl (t.2.1 a))) : Ev (ZY P) mJ7_fill_fda19 [.ref a, .int (nI i), .int (nI j), .int v] s none (s.1, setA s.2.1 a (fil (s.2.1 a) i j v), s.2.2) :=
  Ev_arr (i_fillR N i j (s.2.1 a) v hN hij hj) rfl ha hc (fun _ => rfl) (fun _ => rfl)
/-- Facts.add -/
theorem i_add (N i : Nat) (f : Nat → Int32) (x : Int32) (hN : N < 2 ^ 31) (hi : i < N) : Ev ZI mX4_add [.ref 0, .int (nI i), .int x] (N, f) (some (.int (bI (!decide (f i ||| x = f i))))) (N, upd f i (f i ||| x)) := by
  have hic : (nI i).toNatClampNeg = i := nI_clamp (by omega)
  refine EQ_ev (EQ_T vX4_add rfl ?_)
  refine RQ_n ZI_ok 14 rfl ⟨nI_in (by omega) (by omega), nI_in (by omega) (by omega), nI_in (by omega) (by omega), trivial⟩ ?_
  have e1 : upd f (nI i).toNatClampNeg (f (nI i).toNatClampNeg ||| x) (nI i).toNatClampNeg = f i ||| x := by rw [hic, upd_at]
  have e2 : f (nI i).toNatClampNeg = f i := by rw [hic]
  have e3 : upd f (nI i).toNatClampNeg (f (nI i).toNatClampNeg ||| x) = upd f i (f i ||| x) := by rw [hic]
  refine RQ_b rfl (fun q => ?_) (fun q => ?_)
  · have q : upd f (nI i).toNatClampNeg (f (nI i).toNatClampNeg ||| x) (nI i).toNatClampNeg = f (nI i).toNatClampNeg := q
    rw [e1, e2] at q
    refine RQ_n ZI_ok 1 rfl trivial ?_
    exact RQ_to (Rn_zret rfl rfl (Or.inl rfl)) ⟨by rw [decide_eq_true q]; rfl, by rw [← e3]⟩
  · have q : ¬ upd f (nI i).toNatClampNeg (f (nI i).toNatClampNeg ||| x) (nI i).toNatClampNeg = f (nI i).toNatClampNeg := q
    rw [e1, e2] at q
    refine RQ_n ZI_ok 2 rfl trivial ?_
    exact RQ_to (Rn_zret rfl rfl (Or.inr rfl)) ⟨by rw [decide_eq_false q]; rfl, by rw [← e3]⟩
theorem y_add {P : YP} (s : SX) (a N i : Nat) (x : Int32) (hN : N < 2 ^ 31) (hi : i < N) (ha : a < 3 * s.2.2.2.2.1 + 99) (hc : ∀ t : SX, t.2.2.2.2.1 = s.2.2.2.2.1 → ycel P t a = .inl (0, N, .inl (t.2.1 a))) : Ev (ZY P) mX4_add [.ref a, .int (nI i), .int x] s (some (.int (bI (!decide (s.2.1 a i ||| x = s.2.1 a i))))) (s.1, setA s.2.1 a (upd (s.2.1 a) i (s.2.1 a i ||| x)), s.2.2) :=
  Ev_arr (i_add N i (s.2.1 a) x hN hi) rfl ha hc (fun _ => rfl) (fun _ => rfl)
