/-! The world of the reference: one object, its arrays. A state: its whole-number fields by slot, its arrays by slot, the long. Cell 0 is the object. -/
abbrev SM : Type := (Nat → Int32) × (Nat → Nat → Int32) × Int64
def updS (f : Nat → Int32) (k : Nat) (x : Int32) : Nat → Int32 := fun b => bif Nat.beq b k then x else f b
def updA (f : Nat → Nat → Int32) (k j : Nat) (x : Int32) : Nat → Nat → Int32 := fun b => bif Nat.beq b k then upd (f k) j x else f b
def mfs (s : SM) : List Value := [.int (s.1 0), .ref 1, .int (s.1 2), .int (s.1 3), .int (s.1 4), .ref 2, .ref 3, .ref 4, .int (s.1 8), .int (s.1 9), .int (s.1 10), .int (s.1 11), .ref 5, .ref 6, .int (s.1 14), .int (s.1 15), .int (s.1 16), .int (s.1 17), .ref 7, .ref 8, .ref 9, .ref 10, .ref 11, .int (s.1 23), .int (s.1 24), .int (s.1 25), .ref 12, .ref 13, .ref 14, .int (s.1 29), .ref 15, .ref 16, .ref 17, .ref 18, .ref 19, .ref 20, .ref 21, .int (s.1 37), .ref 22, .ref 23, .ref 24, .ref 25, .ref 26, .ref 27, .ref 28, .ref 29, .ref 30, .ref 31, .int (s.1 48), .ref 32, .ref 33, .ref 34, .ref 35, .ref 36, .ref 37, .ref 38, .ref 39, .int (s.1 57), .ref 40, .ref 41, .ref 42, .ref 43, .int (s.1 62), .int (s.1 63), .int (s.1 64), .int (s.1 65), .ref 44, .ref 45, .ref 46, .ref 47, .ref 48, .int (s.1 71), .ref 49, .int (s.1 73), .long s.2.2, .int (s.1 75), .int (s.1 76), .int (s.1 77)]
/-- an array: its slot, its kind, its length -/
def mAr (i : Nat) : Option (Nat × Nat × Nat) := bif Nat.blt i 25 then (bif Nat.blt i 13 then (bif Nat.blt i 7 then (bif Nat.blt i 4 then (bif Nat.blt i 2 then (bif Nat.beq i 1 then some (1, 0, 240) else none) else (bif Nat.blt i 3 then (bif Nat.beq i 2 then some (5, 0, 16) else none) else (bif Nat.beq i 3 then some (6, 0, 16) else none))) else (bif Nat.blt i 5 then (bif Nat.beq i 4 then some (7, 0, 80) else none) else (bif Nat.blt i 6 then (bif Nat.beq i 5 then some (12, 0, 120) else none) else (bif Nat.beq i 6 then some (13, 0, 5) else none)))) else (bif Nat.blt i 10 then (bif Nat.blt i 8 then (bif Nat.beq i 7 then some (18, 0, 17) else none) else (bif Nat.blt i 9 then (bif Nat.beq i 8 then some (19, 0, 17) else none) else (bif Nat.beq i 9 then some (20, 0, 85) else none))) else (bif Nat.blt i 11 then (bif Nat.beq i 10 then some (21, 0, 6) else none) else (bif Nat.blt i 12 then (bif Nat.beq i 11 then some (22, 0, 8) else none) else (bif Nat.beq i 12 then some (26, 0, 6) else none))))) else (bif Nat.blt i 19 then (bif Nat.blt i 16 then (bif Nat.blt i 14 then (bif Nat.beq i 13 then some (27, 0, 6) else none) else (bif Nat.blt i 15 then (bif Nat.beq i 14 then some (28, 0, 6) else none) else (bif Nat.beq i 15 then some (30, 1, 3) else none))) else (bif Nat.blt i 17 then (bif Nat.beq i 16 then some (31, 0, 378) else none) else (bif Nat.blt i 18 then (bif Nat.beq i 17 then some (32, 0, 9) else none) else (bif Nat.beq i 18 then some (33, 0, 9) else none)))) else (bif Nat.blt i 22 then (bif Nat.blt i 20 then (bif Nat.beq i 19 then some (34, 0, 6) else none) else (bif Nat.blt i 21 then (bif Nat.beq i 20 then some (35, 0, 40) else none) else (bif Nat.beq i 21 then some (36, 0, 40) else none))) else (bif Nat.blt i 23 then (bif Nat.beq i 22 then some (38, 0, 61200) else none) else (bif Nat.blt i 24 then (bif Nat.beq i 23 then some (39, 0, 61200) else none) else (bif Nat.beq i 24 then some (40, 0, 8400) else none)))))) else (bif Nat.blt i 37 then (bif Nat.blt i 31 then (bif Nat.blt i 28 then (bif Nat.blt i 26 then (bif Nat.beq i 25 then some (41, 0, 5400) else none) else (bif Nat.blt i 27 then (bif Nat.beq i 26 then some (42, 0, 600) else none) else (bif Nat.beq i 27 then some (43, 0, 600) else none))) else (bif Nat.blt i 29 then (bif Nat.beq i 28 then some (44, 0, 3) else none) else (bif Nat.blt i 30 then (bif Nat.beq i 29 then some (45, 0, 102) else none) else (bif Nat.beq i 30 then some (46, 0, 200) else none)))) else (bif Nat.blt i 34 then (bif Nat.blt i 32 then (bif Nat.beq i 31 then some (47, 1, 200) else none) else (bif Nat.blt i 33 then (bif Nat.beq i 32 then some (49, 0, 200) else none) else (bif Nat.beq i 33 then some (50, 0, 200) else none))) else (bif Nat.blt i 35 then (bif Nat.beq i 34 then some (51, 0, 20400) else none) else (bif Nat.blt i 36 then (bif Nat.beq i 35 then some (52, 0, 2800) else none) else (bif Nat.beq i 36 then some (53, 0, 200) else none))))) else (bif Nat.blt i 43 then (bif Nat.blt i 40 then (bif Nat.blt i 38 then (bif Nat.beq i 37 then some (54, 0, 200) else none) else (bif Nat.blt i 39 then (bif Nat.beq i 38 then some (55, 0, 200) else none) else (bif Nat.beq i 39 then some (56, 0, 25) else none))) else (bif Nat.blt i 41 then (bif Nat.beq i 40 then some (58, 0, 101) else none) else (bif Nat.blt i 42 then (bif Nat.beq i 41 then some (59, 0, 101) else none) else (bif Nat.beq i 42 then some (60, 0, 101) else none)))) else (bif Nat.blt i 46 then (bif Nat.blt i 44 then (bif Nat.beq i 43 then some (61, 0, 101) else none) else (bif Nat.blt i 45 then (bif Nat.beq i 44 then some (66, 0, 301) else none) else (bif Nat.beq i 45 then some (67, 0, 301) else none))) else (bif Nat.blt i 48 then (bif Nat.blt i 47 then (bif Nat.beq i 46 then some (68, 0, 301) else none) else (bif Nat.beq i 47 then some (69, 0, 301) else none)) else (bif Nat.blt i 49 then (bif Nat.beq i 48 then some (70, 0, 101) else none) else (bif Nat.beq i 49 then some (72, 0, 65) else none))))))
def mcel (s : SM) (i : Nat) : zc := bif Nat.beq i 0 then .inr (12, mfs s) else (match mAr i with
  | some (k, t, n) => .inl (t, n, .inl (s.2.1 k))
  | none => .inl (0, 0, .inl (fun _ => 0)))
def mint (k : Nat) : Bool := Nat.beq k 0 || Nat.beq k 2 || Nat.beq k 3 || Nat.beq k 4 || Nat.beq k 8 || Nat.beq k 9 || Nat.beq k 10 || Nat.beq k 11 || Nat.beq k 14 || Nat.beq k 15 || Nat.beq k 16 || Nat.beq k 17 || Nat.beq k 23 || Nat.beq k 24 || Nat.beq k 25 || Nat.beq k 29 || Nat.beq k 37 || Nat.beq k 48 || Nat.beq k 57 || Nat.beq k 62 || Nat.beq k 63 || Nat.beq k 64 || Nat.beq k 65 || Nat.beq k 71 || Nat.beq k 73 || Nat.beq k 75 || Nat.beq k 76 || Nat.beq k 77
def mwf (s : SM) (a k : Nat) (v : Value) : Option SM := match a, v with
  | 0, .int x => bif mint k then some (updS s.1 k x, s.2.1, s.2.2) else none
  | 0, .long x => bif Nat.beq k 74 then some (s.1, s.2.1, x) else none
  | _, _ => none
def mwa (s : SM) (a j : Nat) (x : Int32) : Option SM := match mAr a with
  | some (k, _, _) => some (s.1, updA s.2.1 k j x, s.2.2)
  | none => none
def ZR : ZW SM := (mcel, fun _ => 50, fun _ => 0, mwf, mwa, fun _ _ _ _ => none)
theorem updA_ne {f : Nat → Nat → Int32} {k j b : Nat} {x : Int32} (h : b ≠ k) : updA f k j x b = f b := by
  unfold updA
  cases hb : Nat.beq b k with
  | true => exact absurd (Nat.eq_of_beq_eq_true hb) h
  | false => rfl
theorem updA_eq {f : Nat → Nat → Int32} {k j : Nat} {x : Int32} : updA f k j x k = upd (f k) j x := by
  unfold updA; rw [Nat.beq_refl]; rfl
def mArb : Bool := (List.range 50).all fun a => (List.range 50).all fun b => Nat.beq a b || (match mAr a, mAr b with
  | some q, some w => !(Nat.beq q.1 w.1)
  | _, _ => true)
theorem mArb_ok : mArb = true := by decide +kernel
def mArc : Bool := (List.range 78).all fun k => mint k || true
set_option maxHeartbeats 4000000 in
theorem mset (s : SM) (k : Nat) (x : Int32) (h : mint k = true) : mfs (updS s.1 k x, s.2.1, s.2.2) = (mfs s).set k (.int x) := by
  unfold mint at h
  simp only [Bool.or_eq_true] at h
  rcases h with ((((((((((((((((((((((((((h | h) | h) | h) | h) | h) | h) | h) | h) | h) | h) | h) | h) | h) | h) | h) | h) | h) | h) | h) | h) | h) | h) | h) | h) | h) | h) | h <;> (cases Nat.eq_of_beq_eq_true h; rfl)
theorem mAr_none {b : Nat} (h : 50 ≤ b) : mAr b = none := by
  unfold mAr
  simp only [Nat.blt_eq, cond_eq_ite, Nat.beq_eq]
  repeat' split
  all_goals first | rfl | omega
theorem ZR_ok : ZOk ZR := by
  refine ⟨?_, ?_, ?_⟩
  · intro s a k v s1 h ha
    change mwf s a k v = some s1 at h
    unfold mwf at h
    split at h
    · rename_i x
      cases hb : mint k with
      | false => rw [hb] at h; cases h
      | true =>
        rw [hb] at h
        cases h
        refine ⟨⟨rfl, rfl⟩, fun b hb0 => ?_, fun ci fs hc hk => ?_⟩
        · show mcel _ b = mcel _ b
          unfold mcel
          cases hq : Nat.beq b 0 with
          | true => exact absurd (Nat.eq_of_beq_eq_true hq) hb0
          | false => rfl
        · have hc : Sum.inr (12, mfs s) = (Sum.inr (ci, fs) : zc) := hc
          cases hc
          show (Sum.inr (12, mfs (updS s.1 k x, s.2.1, s.2.2)) : zc) = _
          rw [mset s k x hb]
    · rename_i x
      cases hb : Nat.beq k 74 with
      | false => rw [hb] at h; cases h
      | true =>
        rw [hb] at h
        cases h
        cases Nat.eq_of_beq_eq_true hb
        refine ⟨⟨rfl, rfl⟩, fun b hb0 => ?_, fun ci fs hc hk => ?_⟩
        · show mcel _ b = mcel _ b
          unfold mcel
          cases hq : Nat.beq b 0 with
          | true => exact absurd (Nat.eq_of_beq_eq_true hq) hb0
          | false => rfl
        · have hc : Sum.inr (12, mfs s) = (Sum.inr (ci, fs) : zc) := hc
          cases hc
          rfl
    · cases h
  · intro s a j x s1 h ha
    change mwa s a j x = some s1 at h
    change a < 50 at ha
    unfold mwa at h
    split at h
    · rename_i q1 q2 q3 hq
      cases h
      have ha0 : ¬ a = 0 := fun e => by subst e; cases hq
      refine ⟨⟨rfl, rfl⟩, fun b hb0 => ?_, fun t nn gg hc => ?_⟩
      · show mcel _ b = mcel _ b
        unfold mcel
        cases hq0 : Nat.beq b 0 with
        | true => rfl
        | false =>
          simp only [cond_false]
          cases hw : mAr b with
          | none => rfl
          | some w =>
            obtain ⟨w1, w2, w3⟩ := w
            have hbl : b < 50 := by
              rcases Nat.lt_or_ge b 50 with z | z
              · exact z
              · rw [mAr_none z] at hw; cases hw
            have h1 := List.all_eq_true.mp (List.all_eq_true.mp mArb_ok a (List.mem_range.mpr ha)) b (List.mem_range.mpr hbl)
            rw [hq, hw, Bool.or_eq_true] at h1
            rcases h1 with h1 | h1
            · exact absurd (Nat.eq_of_beq_eq_true h1).symm hb0
            · dsimp only at h1 ⊢
              have : w1 ≠ q1 := fun e => by rw [e, Nat.beq_refl] at h1; cases h1
              rw [updA_ne this]
      · have hc : mcel s a = _ := hc
        show mcel _ a = _
        have hne : Nat.beq a 0 = false := by cases z : Nat.beq a 0 with
          | true => exact absurd (Nat.eq_of_beq_eq_true z) ha0
          | false => rfl
        unfold mcel at hc ⊢
        rw [hne, hq] at hc ⊢
        simp only [cond_false] at hc ⊢
        cases hc
        rw [updA_eq]
    · cases h
  · intro s a k x s1 h ha
    cases h
