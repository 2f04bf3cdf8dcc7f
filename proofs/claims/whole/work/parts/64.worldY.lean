/-! The class's world once more, with the numbers of the kinds and the rows of automata left open: for any kind the automaton's cells may be 36 to 52. -/
abbrev YP : Type := (Nat → Int32) × (Nat → Option Nat) × (Nat → Option Nat)
def yc (P : YP) (iv av : Nat → Int32) (lv : Nat → Int64) (rv : Nat → Value) (kr : Nat → Option Nat) (b : Nat) : zc := bif Nat.blt b 99 then (
  bif Nat.blt b 49 then (bif Nat.blt b 24 then (bif Nat.blt b 12 then (bif Nat.blt b 6 then (bif Nat.blt b 3 then (bif Nat.blt b 1 then (bif Nat.beq b 0 then .inr (11, [.ref 1, .ref 3, .ref 11, .ref 14, .ref 23, .ref 25, .ref 34, .ref 35, .ref 87, .ref 97]) else .inl (0, 0, .inl fun _ => 0)) else (bif Nat.blt b 2 then (bif Nat.beq b 1 then .inr (10, [.ref 2, .int (iv 1)]) else .inl (0, 0, .inl fun _ => 0)) else (bif Nat.beq b 2 then .inl (0, 240, .inl av) else .inl (0, 0, .inl fun _ => 0)))) else (bif Nat.blt b 4 then (bif Nat.beq b 3 then .inr (5, [.int (iv 0), .int (iv 1), .int (iv 2), .int (iv 3), .int (iv 4), .ref 4, .ref 5, .ref 6, .ref 7, .ref 8, .ref 9, .ref 10]) else .inl (0, 0, .inl fun _ => 0)) else (bif Nat.blt b 5 then (bif Nat.beq b 4 then .inl (0, 17, .inl av) else .inl (0, 0, .inl fun _ => 0)) else (bif Nat.beq b 5 then .inl (0, 17, .inl av) else .inl (0, 0, .inl fun _ => 0))))) else (bif Nat.blt b 9 then (bif Nat.blt b 7 then (bif Nat.beq b 6 then .inl (0, 85, .inl av) else .inl (0, 0, .inl fun _ => 0)) else (bif Nat.blt b 8 then (bif Nat.beq b 7 then .inl (0, 6, .inl av) else .inl (0, 0, .inl fun _ => 0)) else (bif Nat.beq b 8 then .inl (0, 26, .inl av) else .inl (0, 0, .inl fun _ => 0)))) else (bif Nat.blt b 10 then (bif Nat.beq b 9 then .inl (0, 8, .inl av) else .inl (0, 0, .inl fun _ => 0)) else (bif Nat.blt b 11 then (bif Nat.beq b 10 then .inl (0, 26, .inl av) else .inl (0, 0, .inl fun _ => 0)) else (bif Nat.beq b 11 then .inr (9, [.int (iv 0), .ref 12, .ref 13]) else .inl (0, 0, .inl fun _ => 0)))))) else (bif Nat.blt b 18 then (bif Nat.blt b 15 then (bif Nat.blt b 13 then (bif Nat.beq b 12 then .inl (0, 4, .inl av) else .inl (0, 0, .inl fun _ => 0)) else (bif Nat.blt b 14 then (bif Nat.beq b 13 then .inl (0, 96, .inl av) else .inl (0, 0, .inl fun _ => 0)) else (bif Nat.beq b 14 then .inr (4, [.ref 3, .int (iv 1), .int (iv 2), .int (iv 3), .ref 15, .ref 16, .ref 17, .ref 18, .ref 19, .ref 20, .int (iv 10), rv 11, rv 12]) else .inl (0, 0, .inl fun _ => 0)))) else (bif Nat.blt b 16 then (bif Nat.beq b 15 then .inl (0, 6, .inl av) else .inl (0, 0, .inl fun _ => 0)) else (bif Nat.blt b 17 then (bif Nat.beq b 16 then .inl (0, 6, .inl av) else .inl (0, 0, .inl fun _ => 0)) else (bif Nat.beq b 17 then .inl (0, 6, .inl av) else .inl (0, 0, .inl fun _ => 0))))) else (bif Nat.blt b 21 then (bif Nat.blt b 19 then (bif Nat.beq b 18 then .inl (0, 102, .inl av) else .inl (0, 0, .inl fun _ => 0)) else (bif Nat.blt b 20 then (bif Nat.beq b 19 then .inl (0, 6, .inl av) else .inl (0, 0, .inl fun _ => 0)) else (bif Nat.beq b 20 then .inl (0, 378, .inl av) else .inl (0, 0, .inl fun _ => 0)))) else (bif Nat.blt b 22 then (bif Nat.beq b 21 then .inl (2, 9, .inr (.inl lv)) else .inl (0, 0, .inl fun _ => 0)) else (bif Nat.blt b 23 then (bif Nat.beq b 22 then .inl (2, 9, .inr (.inl lv)) else .inl (0, 0, .inl fun _ => 0)) else (bif Nat.beq b 23 then .inr (6, [.int (iv 0), .int (iv 1), .int (iv 2), .int (iv 3), .ref 24]) else .inl (0, 0, .inl fun _ => 0))))))) else (bif Nat.blt b 36 then (bif Nat.blt b 30 then (bif Nat.blt b 27 then (bif Nat.blt b 25 then (bif Nat.beq b 24 then .inl (0, 40, .inl av) else .inl (0, 0, .inl fun _ => 0)) else (bif Nat.blt b 26 then (bif Nat.beq b 25 then .inr (2, [.ref 3, .ref 26, .ref 27, .int (iv 3), .int (iv 4), .ref 28, .ref 31]) else .inl (0, 0, .inl fun _ => 0)) else (bif Nat.beq b 26 then .inl (0, 200, .inl av) else .inl (0, 0, .inl fun _ => 0)))) else (bif Nat.blt b 28 then (bif Nat.beq b 27 then .inl (0, 200, .inl av) else .inl (0, 0, .inl fun _ => 0)) else (bif Nat.blt b 29 then (bif Nat.beq b 28 then .inr (7, [.int (iv 0), .ref 29, .ref 30]) else .inl (0, 0, .inl fun _ => 0)) else (bif Nat.beq b 29 then .inl (0, 81, .inl av) else .inl (0, 0, .inl fun _ => 0))))) else (bif Nat.blt b 33 then (bif Nat.blt b 31 then (bif Nat.beq b 30 then .inl (0, 81, .inl av) else .inl (0, 0, .inl fun _ => 0)) else (bif Nat.blt b 32 then (bif Nat.beq b 31 then .inr (7, [.int (iv 0), .ref 32, .ref 33]) else .inl (0, 0, .inl fun _ => 0)) else (bif Nat.beq b 32 then .inl (0, 81, .inl av) else .inl (0, 0, .inl fun _ => 0)))) else (bif Nat.blt b 34 then (bif Nat.beq b 33 then .inl (0, 81, .inl av) else .inl (0, 0, .inl fun _ => 0)) else (bif Nat.blt b 35 then (bif Nat.beq b 34 then .inl (4, 3, .inr (.inr (.inr (.inr P.2.1)))) else .inl (0, 0, .inl fun _ => 0)) else (bif Nat.beq b 35 then .inl (5, 3, .inr (.inr (.inr (.inr P.2.2)))) else .inl (0, 0, .inl fun _ => 0)))))) else (bif Nat.blt b 42 then (bif Nat.blt b 39 then (bif Nat.blt b 37 then (bif Nat.beq b 36 then .inr (1, [.int (P.1 0), .ref 3, .ref 14, .int (iv 3), .int (iv 4), .int (iv 5), .ref 37, .ref 38, .ref 39, .ref 40, .int (iv 10), .ref 41, .ref 42, .ref 43, .ref 44, .ref 45, .ref 46]) else .inl (0, 0, .inl fun _ => 0)) else (bif Nat.blt b 38 then (bif Nat.beq b 37 then .inl (3, 200, .inr (.inr (.inr (.inr kr)))) else .inl (0, 0, .inl fun _ => 0)) else (bif Nat.beq b 38 then .inl (0, 200, .inl av) else .inl (0, 0, .inl fun _ => 0)))) else (bif Nat.blt b 40 then (bif Nat.beq b 39 then .inl (0, 1200, .inl av) else .inl (0, 0, .inl fun _ => 0)) else (bif Nat.blt b 41 then (bif Nat.beq b 40 then .inl (0, 2800, .inl av) else .inl (0, 0, .inl fun _ => 0)) else (bif Nat.beq b 41 then .inl (0, 200, .inl av) else .inl (0, 0, .inl fun _ => 0))))) else (bif Nat.blt b 45 then (bif Nat.blt b 43 then (bif Nat.beq b 42 then .inl (0, 200, .inl av) else .inl (0, 0, .inl fun _ => 0)) else (bif Nat.blt b 44 then (bif Nat.beq b 43 then .inl (0, 200, .inl av) else .inl (0, 0, .inl fun _ => 0)) else (bif Nat.beq b 44 then .inl (0, 200, .inl av) else .inl (0, 0, .inl fun _ => 0)))) else (bif Nat.blt b 47 then (bif Nat.blt b 46 then (bif Nat.beq b 45 then .inl (0, 200, .inl av) else .inl (0, 0, .inl fun _ => 0)) else (bif Nat.beq b 46 then .inl (0, 200, .inl av) else .inl (0, 0, .inl fun _ => 0))) else (bif Nat.blt b 48 then (bif Nat.beq b 47 then .inr (0, [.ref 3, .ref 14, .ref 36, .int (iv 3), .ref 48, .ref 49, .ref 50, .int (iv 7), .int (iv 8), .int (iv 9), .ref 51, .ref 52]) else .inl (0, 0, .inl fun _ => 0)) else (bif Nat.beq b 48 then .inl (0, 1800, .inl av) else .inl (0, 0, .inl fun _ => 0)))))))) else (bif Nat.blt b 74 then (bif Nat.blt b 61 then (bif Nat.blt b 55 then (bif Nat.blt b 52 then (bif Nat.blt b 50 then (bif Nat.beq b 49 then .inl (0, 200, .inl av) else .inl (0, 0, .inl fun _ => 0)) else (bif Nat.blt b 51 then (bif Nat.beq b 50 then .inl (0, 200, .inl av) else .inl (0, 0, .inl fun _ => 0)) else (bif Nat.beq b 51 then .inl (0, 9, .inl av) else .inl (0, 0, .inl fun _ => 0)))) else (bif Nat.blt b 53 then (bif Nat.beq b 52 then .inl (0, 16, .inl av) else .inl (0, 0, .inl fun _ => 0)) else (bif Nat.blt b 54 then (bif Nat.beq b 53 then .inr (1, [.int (P.1 1), .ref 3, .ref 14, .int (iv 3), .int (iv 4), .int (iv 5), .ref 54, .ref 55, .ref 56, .ref 57, .int (iv 10), .ref 58, .ref 59, .ref 60, .ref 61, .ref 62, .ref 63]) else .inl (0, 0, .inl fun _ => 0)) else (bif Nat.beq b 54 then .inl (3, 200, .inr (.inr (.inr (.inr kr)))) else .inl (0, 0, .inl fun _ => 0))))) else (bif Nat.blt b 58 then (bif Nat.blt b 56 then (bif Nat.beq b 55 then .inl (0, 200, .inl av) else .inl (0, 0, .inl fun _ => 0)) else (bif Nat.blt b 57 then (bif Nat.beq b 56 then .inl (0, 1200, .inl av) else .inl (0, 0, .inl fun _ => 0)) else (bif Nat.beq b 57 then .inl (0, 2800, .inl av) else .inl (0, 0, .inl fun _ => 0)))) else (bif Nat.blt b 59 then (bif Nat.beq b 58 then .inl (0, 200, .inl av) else .inl (0, 0, .inl fun _ => 0)) else (bif Nat.blt b 60 then (bif Nat.beq b 59 then .inl (0, 200, .inl av) else .inl (0, 0, .inl fun _ => 0)) else (bif Nat.beq b 60 then .inl (0, 200, .inl av) else .inl (0, 0, .inl fun _ => 0)))))) else (bif Nat.blt b 67 then (bif Nat.blt b 64 then (bif Nat.blt b 62 then (bif Nat.beq b 61 then .inl (0, 200, .inl av) else .inl (0, 0, .inl fun _ => 0)) else (bif Nat.blt b 63 then (bif Nat.beq b 62 then .inl (0, 200, .inl av) else .inl (0, 0, .inl fun _ => 0)) else (bif Nat.beq b 63 then .inl (0, 200, .inl av) else .inl (0, 0, .inl fun _ => 0)))) else (bif Nat.blt b 65 then (bif Nat.beq b 64 then .inr (0, [.ref 3, .ref 14, .ref 53, .int (iv 3), .ref 65, .ref 66, .ref 67, .int (iv 7), .int (iv 8), .int (iv 9), .ref 68, .ref 69]) else .inl (0, 0, .inl fun _ => 0)) else (bif Nat.blt b 66 then (bif Nat.beq b 65 then .inl (0, 1800, .inl av) else .inl (0, 0, .inl fun _ => 0)) else (bif Nat.beq b 66 then .inl (0, 200, .inl av) else .inl (0, 0, .inl fun _ => 0))))) else (bif Nat.blt b 70 then (bif Nat.blt b 68 then (bif Nat.beq b 67 then .inl (0, 200, .inl av) else .inl (0, 0, .inl fun _ => 0)) else (bif Nat.blt b 69 then (bif Nat.beq b 68 then .inl (0, 9, .inl av) else .inl (0, 0, .inl fun _ => 0)) else (bif Nat.beq b 69 then .inl (0, 16, .inl av) else .inl (0, 0, .inl fun _ => 0)))) else (bif Nat.blt b 72 then (bif Nat.blt b 71 then (bif Nat.beq b 70 then .inr (1, [.int (P.1 2), .ref 3, .ref 14, .int (iv 3), .int (iv 4), .int (iv 5), .ref 71, .ref 72, .ref 73, .ref 74, .int (iv 10), .ref 75, .ref 76, .ref 77, .ref 78, .ref 79, .ref 80]) else .inl (0, 0, .inl fun _ => 0)) else (bif Nat.beq b 71 then .inl (3, 200, .inr (.inr (.inr (.inr kr)))) else .inl (0, 0, .inl fun _ => 0))) else (bif Nat.blt b 73 then (bif Nat.beq b 72 then .inl (0, 200, .inl av) else .inl (0, 0, .inl fun _ => 0)) else (bif Nat.beq b 73 then .inl (0, 1200, .inl av) else .inl (0, 0, .inl fun _ => 0))))))) else (bif Nat.blt b 86 then (bif Nat.blt b 80 then (bif Nat.blt b 77 then (bif Nat.blt b 75 then (bif Nat.beq b 74 then .inl (0, 2800, .inl av) else .inl (0, 0, .inl fun _ => 0)) else (bif Nat.blt b 76 then (bif Nat.beq b 75 then .inl (0, 200, .inl av) else .inl (0, 0, .inl fun _ => 0)) else (bif Nat.beq b 76 then .inl (0, 200, .inl av) else .inl (0, 0, .inl fun _ => 0)))) else (bif Nat.blt b 78 then (bif Nat.beq b 77 then .inl (0, 200, .inl av) else .inl (0, 0, .inl fun _ => 0)) else (bif Nat.blt b 79 then (bif Nat.beq b 78 then .inl (0, 200, .inl av) else .inl (0, 0, .inl fun _ => 0)) else (bif Nat.beq b 79 then .inl (0, 200, .inl av) else .inl (0, 0, .inl fun _ => 0))))) else (bif Nat.blt b 83 then (bif Nat.blt b 81 then (bif Nat.beq b 80 then .inl (0, 200, .inl av) else .inl (0, 0, .inl fun _ => 0)) else (bif Nat.blt b 82 then (bif Nat.beq b 81 then .inr (0, [.ref 3, .ref 14, .ref 70, .int (iv 3), .ref 82, .ref 83, .ref 84, .int (iv 7), .int (iv 8), .int (iv 9), .ref 85, .ref 86]) else .inl (0, 0, .inl fun _ => 0)) else (bif Nat.beq b 82 then .inl (0, 1800, .inl av) else .inl (0, 0, .inl fun _ => 0)))) else (bif Nat.blt b 84 then (bif Nat.beq b 83 then .inl (0, 200, .inl av) else .inl (0, 0, .inl fun _ => 0)) else (bif Nat.blt b 85 then (bif Nat.beq b 84 then .inl (0, 200, .inl av) else .inl (0, 0, .inl fun _ => 0)) else (bif Nat.beq b 85 then .inl (0, 9, .inl av) else .inl (0, 0, .inl fun _ => 0)))))) else (bif Nat.blt b 92 then (bif Nat.blt b 89 then (bif Nat.blt b 87 then (bif Nat.beq b 86 then .inl (0, 16, .inl av) else .inl (0, 0, .inl fun _ => 0)) else (bif Nat.blt b 88 then (bif Nat.beq b 87 then .inr (8, [.ref 3, rv 1, .int (iv 2), .int (iv 3), .ref 88, .int (iv 5), .ref 89, .ref 90, .ref 91, .int (iv 9), .ref 92, .int (iv 11), .int (iv 12), .int (iv 13), .int (iv 14), .ref 93, .ref 94, .ref 95, .ref 96]) else .inl (0, 0, .inl fun _ => 0)) else (bif Nat.beq b 88 then .inl (0, 24, .inl av) else .inl (0, 0, .inl fun _ => 0)))) else (bif Nat.blt b 90 then (bif Nat.beq b 89 then .inl (0, 100, .inl av) else .inl (0, 0, .inl fun _ => 0)) else (bif Nat.blt b 91 then (bif Nat.beq b 90 then .inl (0, 100, .inl av) else .inl (0, 0, .inl fun _ => 0)) else (bif Nat.beq b 91 then .inl (0, 100, .inl av) else .inl (0, 0, .inl fun _ => 0))))) else (bif Nat.blt b 95 then (bif Nat.blt b 93 then (bif Nat.beq b 92 then .inl (0, 100, .inl av) else .inl (0, 0, .inl fun _ => 0)) else (bif Nat.blt b 94 then (bif Nat.beq b 93 then .inl (0, 300, .inl av) else .inl (0, 0, .inl fun _ => 0)) else (bif Nat.beq b 94 then .inl (0, 300, .inl av) else .inl (0, 0, .inl fun _ => 0)))) else (bif Nat.blt b 97 then (bif Nat.blt b 96 then (bif Nat.beq b 95 then .inl (0, 300, .inl av) else .inl (0, 0, .inl fun _ => 0)) else (bif Nat.beq b 96 then .inl (0, 300, .inl av) else .inl (0, 0, .inl fun _ => 0))) else (bif Nat.blt b 98 then (bif Nat.beq b 97 then .inr (3, [.ref 3, .ref 14, .long (lv 0), .int (iv 3), .ref 98]) else .inl (0, 0, .inl fun _ => 0)) else (bif Nat.beq b 98 then .inl (0, 65, .inl av) else .inl (0, 0, .inl fun _ => 0))))))))) else (bif Nat.beq ((b - 99) % 3) 0 then .inr (7, [.int (iv 0), .ref (b + 1), .ref (b + 2)]) else .inl (0, 81, .inl av))
def ycel (P : YP) (s : SX) (b : Nat) : zc := yc P (s.1 b) (s.2.1 b) (s.2.2.1 b) (s.2.2.2.1 b) (s.2.2.2.2.2 b) b
def ZY (P : YP) : ZW SX := (ycel P, fun s => 3 * s.2.2.2.2.1 + 99, fun s => 27150 + 165 * s.2.2.2.2.1, xwf, xwa, xwl)
def YP0 : YP := (fun i => bif Nat.beq i 0 then 0 else bif Nat.beq i 1 then 1 else 2, (fun i => (bif Nat.beq i 0 then some 36 else (bif Nat.beq i 1 then some 53 else (bif Nat.beq i 2 then some 70 else none)))), (fun i => (bif Nat.beq i 0 then some 47 else (bif Nat.beq i 1 then some 64 else (bif Nat.beq i 2 then some 81 else none)))))
set_option maxHeartbeats 4000000 in
theorem yset {P : YP} {iv av : Nat → Int32} {lv : Nat → Int64} {rv : Nat → Value} {kr : Nat → Option Nat} {a k : Nat} {x : Int32} (h : xint a k = true) {ci : Nat} {fs : List Value} (hc : yc P iv av lv rv kr a = .inr (ci, fs)) : yc P (updS iv k x) av lv rv kr a = .inr (ci, fs.set k (.int x)) := by
  unfold xint at h
  cases hb : Nat.blt a 99 with
  | true =>
    rw [hb] at h
    simp only [cond_true, Bool.or_eq_true, Bool.and_eq_true] at h
    have key : yc P (updS iv k x) av lv rv kr a = xsI (yc P iv av lv rv kr a) k x := by
      rcases h with ((((((((((((((((((((((((((((((((((((((((((((((((((h | h) | h) | h) | h) | h) | h) | h) | h) | h) | h) | h) | h) | h) | h) | h) | h) | h) | h) | h) | h) | h) | h) | h) | h) | h) | h) | h) | h) | h) | h) | h) | h) | h) | h) | h) | h) | h) | h) | h) | h) | h) | h) | h) | h) | h) | h) | h) | h) | h) | h) | h <;> (cases Nat.eq_of_beq_eq_true h.1; cases Nat.eq_of_beq_eq_true h.2; rfl)
    rw [key, hc]
    rfl
  | false =>
    rw [hb] at h
    simp only [cond_false, Bool.and_eq_true] at h
    unfold yc at hc ⊢
    rw [hb, h.2] at hc ⊢
    simp only [cond_false, cond_true] at hc ⊢
    cases hc
    cases Nat.eq_of_beq_eq_true h.1
    rfl
set_option maxHeartbeats 4000000 in
theorem ysetA {P : YP} {iv av : Nat → Int32} {lv : Nat → Int64} {rv : Nat → Value} {kr : Nat → Option Nat} {a j : Nat} {x : Int32} (h : xarr a = true) {t nn : Nat} {gg : Nat → Int32} (hc : yc P iv av lv rv kr a = .inl (t, nn, .inl gg)) : yc P iv (upd av j x) lv rv kr a = .inl (t, nn, .inl (upd gg j x)) := by
  unfold xarr at h
  cases hb : Nat.blt a 99 with
  | true =>
    rw [hb] at h
    simp only [cond_true, Bool.or_eq_true] at h
    have key : yc P iv (upd av j x) lv rv kr a = xsA (yc P iv av lv rv kr a) j x := by
      rcases h with (((((((((((((((((((((((((((((((((((((((((((((((((((((((((((((((((((((((((h | h) | h) | h) | h) | h) | h) | h) | h) | h) | h) | h) | h) | h) | h) | h) | h) | h) | h) | h) | h) | h) | h) | h) | h) | h) | h) | h) | h) | h) | h) | h) | h) | h) | h) | h) | h) | h) | h) | h) | h) | h) | h) | h) | h) | h) | h) | h) | h) | h) | h) | h) | h) | h) | h) | h) | h) | h) | h) | h) | h) | h) | h) | h) | h) | h) | h) | h) | h) | h) | h) | h) | h) | h) | h <;> (cases Nat.eq_of_beq_eq_true h; rfl)
    rw [key, hc]
    rfl
  | false =>
    rw [hb] at h
    simp only [cond_false, Bool.not_eq_true'] at h
    unfold yc at hc ⊢
    rw [hb, h] at hc ⊢
    simp only [cond_false] at hc ⊢
    cases hc
    rfl
theorem ZY_ok (P : YP) : ZOk (ZY P) := by
  refine ⟨?_, ?_, ?_⟩
  · intro s a k v s1 h ha
    change xwf s a k v = some s1 at h
    unfold xwf at h
    split at h
    · rename_i x
      cases hb : xint a k with
      | false => rw [hb] at h; cases h
      | true =>
        rw [hb] at h
        cases h
        refine ⟨⟨rfl, rfl⟩, fun b hb0 => ?_, fun ci fs hc hk => ?_⟩
        · show yc P (updI s.1 a k x b) _ _ _ _ b = yc P (s.1 b) _ _ _ _ b
          rw [updI_ne hb0]
        · show yc P (updI s.1 a k x a) _ _ _ _ a = _
          rw [updI_eq]
          exact yset hb hc
    · rename_i x
      cases hb : (Nat.beq a 97 && Nat.beq k 2) with
      | false => rw [hb] at h; cases h
      | true =>
        rw [hb] at h
        cases h
        rw [Bool.and_eq_true] at hb
        refine ⟨⟨rfl, rfl⟩, fun b hb0 => ?_, fun ci fs hc hk => ?_⟩
        · show yc P _ _ (updL s.2.2.1 a 0 x b) _ _ b = yc P _ _ (s.2.2.1 b) _ _ b
          rw [updL_ne hb0]
        · show yc P _ _ (updL s.2.2.1 a 0 x a) _ _ a = _
          rw [updL_eq]
          cases Nat.eq_of_beq_eq_true hb.1
          cases Nat.eq_of_beq_eq_true hb.2
          cases hc
          rfl
    · rename_i rr
      cases hb : xref a k with
      | false => rw [hb] at h; cases h
      | true =>
        rw [hb] at h
        cases h
        refine ⟨⟨rfl, rfl⟩, fun b hb0 => ?_, fun ci fs hc hk => ?_⟩
        · show yc P _ _ _ (updW s.2.2.2.1 a k (.ref rr) b) _ b = yc P _ _ _ (s.2.2.2.1 b) _ b
          rw [updW_ne hb0]
        · show yc P _ _ _ (updW s.2.2.2.1 a k (.ref rr) a) _ a = _
          rw [updW_eq]
          unfold xref at hb
          simp only [Bool.or_eq_true, Bool.and_eq_true] at hb
          rcases hb with (h | h) | h <;> (cases Nat.eq_of_beq_eq_true h.1; cases Nat.eq_of_beq_eq_true h.2; cases hc; rfl)
    · cases h
  · intro s a j x s1 h ha
    change xwa s a j x = some s1 at h
    unfold xwa at h
    cases hb : xarr a with
    | false => rw [hb] at h; cases h
    | true =>
      rw [hb] at h
      cases h
      refine ⟨⟨rfl, rfl⟩, fun b hb0 => ?_, fun t nn gg hc => ?_⟩
      · show yc P _ (updA s.2.1 a j x b) _ _ _ b = yc P _ (s.2.1 b) _ _ _ b
        rw [updA_ne hb0]
      · show yc P _ (updA s.2.1 a j x a) _ _ _ a = _
        rw [updA_eq]
        exact ysetA hb hc
  · intro s a j x s1 h ha
    change xwl s a j x = some s1 at h
    unfold xwl at h
    cases hb : (Nat.beq a 21 || Nat.beq a 22) with
    | false => rw [hb] at h; cases h
    | true =>
      rw [hb] at h
      cases h
      refine ⟨⟨rfl, rfl⟩, fun b hb0 => ?_, fun t nn gg hc => ?_⟩
      · show yc P _ _ (updL s.2.2.1 a j x b) _ _ b = yc P _ _ (s.2.2.1 b) _ _ b
        rw [updL_ne hb0]
      · show yc P _ _ (updL s.2.2.1 a j x a) _ _ a = _
        rw [updL_eq]
        rw [Bool.or_eq_true] at hb
        rcases hb with h | h <;> (cases Nat.eq_of_beq_eq_true h; cases hc; rfl)
set_option maxHeartbeats 4000000 in
theorem ZY_0 : ZY YP0 = ZX := by
  have h : ycel YP0 = xcel := by
    funext s b
    unfold ycel xcel yc xc
    rfl
  unfold ZY ZX
  rw [h]
