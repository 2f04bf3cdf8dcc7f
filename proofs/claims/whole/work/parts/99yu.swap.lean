/-! The kinds 1 and 2: their blocks of cells swapped with the first kind's. -/
def zsw (d k : Nat) : Nat := bif (Nat.ble 36 k && Nat.blt k 53) then k + 17 * d else bif (Nat.ble (36 + 17 * d) k && Nat.blt k (53 + 17 * d)) then k - 17 * d else k
theorem zsw_a {d k : Nat} (h1 : 36 ≤ k) (h2 : k < 53) : zsw d k = k + 17 * d := by
  unfold zsw
  rw [Nat.ble_eq_true_of_le h1, show Nat.blt k 53 = true from Nat.ble_eq_true_of_le h2]; rfl
theorem zsw_c {d k : Nat} (h1 : ¬ (36 ≤ k ∧ k < 53)) (h2 : ¬ (36 + 17 * d ≤ k ∧ k < 53 + 17 * d)) : zsw d k = k := by
  unfold zsw
  have e : ∀ a b : Nat, ¬ (a ≤ k ∧ k < b) → (Nat.ble a k && Nat.blt k b) = false := fun a b h => by
    cases hh : (Nat.ble a k && Nat.blt k b) with
    | false => rfl
    | true =>
      rw [Bool.and_eq_true] at hh
      exact absurd ⟨Nat.le_of_ble_eq_true hh.1, Nat.le_of_ble_eq_true hh.2⟩ h
  rw [e _ _ h1, e _ _ h2]; rfl
theorem zsw_b {d k : Nat} (h1 : 36 + 17 * d ≤ k) (h2 : k < 53 + 17 * d) : zsw d k = k - 17 * d := by
  unfold zsw
  cases hh : (Nat.ble 36 k && Nat.blt k 53) with
  | true =>
    rw [Bool.and_eq_true] at hh
    have h3 : k < 53 := Nat.le_of_ble_eq_true hh.2
    have hd : d = 0 := by omega
    subst hd
    show k + 17 * 0 = k - 17 * 0
    omega
  | false =>
    rw [Nat.ble_eq_true_of_le h1, show Nat.blt k (53 + 17 * d) = true from Nat.ble_eq_true_of_le h2]; rfl
theorem zsw_sw (d k : Nat) : zsw d (zsw d k) = k := by
  by_cases h1 : 36 ≤ k ∧ k < 53
  · rw [zsw_a h1.1 h1.2, zsw_b (by omega) (by omega)]; omega
  · by_cases h2 : 36 + 17 * d ≤ k ∧ k < 53 + 17 * d
    · rw [zsw_b h2.1 h2.2, zsw_a (by omega) (by omega)]; omega
    · rw [zsw_c h1 h2, zsw_c h1 h2]
theorem zsw_99 {d k : Nat} (hd : d < 3) (h : k < 36 ∨ 86 < k) : zsw d k = k := zsw_c (by omega) (by omega)
theorem zsw_n {d k n : Nat} (hd : d < 3) (h : k < 3 * n + 99) : zsw d k < 3 * n + 99 := by
  by_cases h1 : 36 ≤ k ∧ k < 53
  · rw [zsw_a h1.1 h1.2]; omega
  · by_cases h2 : 36 + 17 * d ≤ k ∧ k < 53 + 17 * d
    · rw [zsw_b h2.1 h2.2]; omega
    · rw [zsw_c h1 h2]; exact h
theorem zsw_ge {d k n : Nat} (hd : d < 3) (h : 3 * n + 99 ≤ k) : 3 * n + 99 ≤ zsw d k := by rw [zsw_99 hd (by omega)]; exact h
def swX (d : Nat) (u : SX) : SX := (fun b => u.1 (zsw d b), fun b => u.2.1 (zsw d b), fun b => u.2.2.1 (zsw d b), fun b j => ze (zsw d) (u.2.2.2.1 (zsw d b) j), u.2.2.2.2.1, fun b i => (u.2.2.2.2.2 (zsw d b) i).map (zsw d))
theorem ze_sw (d : Nat) (v : Value) : ze (zsw d) (ze (zsw d) v) = v := by
  cases v with
  | ref k => show Value.ref (zsw d (zsw d k)) = _; rw [zsw_sw]
  | _ => rfl
theorem zom_sw (d : Nat) (o : Option Nat) : (o.map (zsw d)).map (zsw d) = o := by
  cases o with
  | none => rfl
  | some k => show some (zsw d (zsw d k)) = _; rw [zsw_sw]
theorem swX_sw (d : Nat) (u : SX) : swX d (swX d u) = u := by
  obtain ⟨a, b, c, e, n, f⟩ := u
  have h1 : (fun k => a (zsw d (zsw d k))) = a := funext fun k => by rw [zsw_sw]
  have h2 : (fun k => b (zsw d (zsw d k))) = b := funext fun k => by rw [zsw_sw]
  have h3 : (fun k => c (zsw d (zsw d k))) = c := funext fun k => by rw [zsw_sw]
  have h4 : (fun k j => ze (zsw d) (ze (zsw d) (e (zsw d (zsw d k)) j))) = e := funext fun k => funext fun j => by rw [zsw_sw, ze_sw]
  have h5 : (fun k i => ((f (zsw d (zsw d k)) i).map (zsw d)).map (zsw d)) = f := funext fun k => funext fun i => by rw [zsw_sw, zom_sw]
  show ((fun k => a (zsw d (zsw d k))), (fun k => b (zsw d (zsw d k))), (fun k => c (zsw d (zsw d k))), (fun k j => ze (zsw d) (ze (zsw d) (e (zsw d (zsw d k)) j))), n, (fun k i => ((f (zsw d (zsw d k)) i).map (zsw d)).map (zsw d))) = _
  rw [h1, h2, h3, h4, h5]
def YPd (d : Nat) : YP := (fun i => bif Nat.beq i 0 then nI d else bif Nat.beq i d then 0 else YP0.1 i, fun i => (YP0.2.1 i).map (zsw d), fun i => (YP0.2.2 i).map (zsw d))
set_option maxHeartbeats 4000000 in
theorem swc0_lo (u : SX) : ∀ k, k < 99 → ycel YP0 u (zsw 0 k) = zmp (zsw 0) (ycel (YPd 0) (swX 0 u) k) := by
  intro k hk
  match k, hk with
  | 0, _ => rfl
  | 1, _ => rfl
  | 2, _ => rfl
  | 3, _ => rfl
  | 4, _ => rfl
  | 5, _ => rfl
  | 6, _ => rfl
  | 7, _ => rfl
  | 8, _ => rfl
  | 9, _ => rfl
  | 10, _ => rfl
  | 11, _ => rfl
  | 12, _ => rfl
  | 13, _ => rfl
  | 14, _ =>
    have e1 := ze_sw 0 (u.2.2.2.1 14 11)
    have e2 := ze_sw 0 (u.2.2.2.1 14 12)
    show (Sum.inr (4, [Value.ref 3, .int (u.1 14 1), .int (u.1 14 2), .int (u.1 14 3), .ref 15, .ref 16, .ref 17, .ref 18, .ref 19, .ref 20, .int (u.1 14 10), u.2.2.2.1 14 11, u.2.2.2.1 14 12]) : zc) = Sum.inr (4, [Value.ref 3, .int (u.1 14 1), .int (u.1 14 2), .int (u.1 14 3), .ref 15, .ref 16, .ref 17, .ref 18, .ref 19, .ref 20, .int (u.1 14 10), ze (zsw 0) (ze (zsw 0) (u.2.2.2.1 14 11)), ze (zsw 0) (ze (zsw 0) (u.2.2.2.1 14 12))])
    rw [e1, e2]
  | 15, _ => rfl
  | 16, _ => rfl
  | 17, _ => rfl
  | 18, _ => rfl
  | 19, _ => rfl
  | 20, _ => rfl
  | 21, _ => rfl
  | 22, _ => rfl
  | 23, _ => rfl
  | 24, _ => rfl
  | 25, _ => rfl
  | 26, _ => rfl
  | 27, _ => rfl
  | 28, _ => rfl
  | 29, _ => rfl
  | 30, _ => rfl
  | 31, _ => rfl
  | 32, _ => rfl
  | 33, _ => rfl
  | 34, _ =>
    show (Sum.inl (4, 3, .inr (.inr (.inr (.inr YP0.2.1)))) : zc) = Sum.inl (4, 3, .inr (.inr (.inr (.inr fun i => ((YP0.2.1 i).map (zsw 0)).map (zsw 0)))))
    rw [show (fun i => ((YP0.2.1 i).map (zsw 0)).map (zsw 0)) = YP0.2.1 from funext fun i => zom_sw 0 _]
  | 35, _ =>
    show (Sum.inl (5, 3, .inr (.inr (.inr (.inr YP0.2.2)))) : zc) = Sum.inl (5, 3, .inr (.inr (.inr (.inr fun i => ((YP0.2.2 i).map (zsw 0)).map (zsw 0)))))
    rw [show (fun i => ((YP0.2.2 i).map (zsw 0)).map (zsw 0)) = YP0.2.2 from funext fun i => zom_sw 0 _]
  | 36, _ => rfl
  | 37, _ =>
    show (Sum.inl (3, 200, .inr (.inr (.inr (.inr (u.2.2.2.2.2 37))))) : zc) = Sum.inl (3, 200, .inr (.inr (.inr (.inr fun i => ((u.2.2.2.2.2 37 i).map (zsw 0)).map (zsw 0)))))
    rw [show (fun i => ((u.2.2.2.2.2 37 i).map (zsw 0)).map (zsw 0)) = u.2.2.2.2.2 37 from funext fun i => zom_sw 0 _]
  | 38, _ => rfl
  | 39, _ => rfl
  | 40, _ => rfl
  | 41, _ => rfl
  | 42, _ => rfl
  | 43, _ => rfl
  | 44, _ => rfl
  | 45, _ => rfl
  | 46, _ => rfl
  | 47, _ => rfl
  | 48, _ => rfl
  | 49, _ => rfl
  | 50, _ => rfl
  | 51, _ => rfl
  | 52, _ => rfl
  | 53, _ => rfl
  | 54, _ =>
    show (Sum.inl (3, 200, .inr (.inr (.inr (.inr (u.2.2.2.2.2 54))))) : zc) = Sum.inl (3, 200, .inr (.inr (.inr (.inr fun i => ((u.2.2.2.2.2 54 i).map (zsw 0)).map (zsw 0)))))
    rw [show (fun i => ((u.2.2.2.2.2 54 i).map (zsw 0)).map (zsw 0)) = u.2.2.2.2.2 54 from funext fun i => zom_sw 0 _]
  | 55, _ => rfl
  | 56, _ => rfl
  | 57, _ => rfl
  | 58, _ => rfl
  | 59, _ => rfl
  | 60, _ => rfl
  | 61, _ => rfl
  | 62, _ => rfl
  | 63, _ => rfl
  | 64, _ => rfl
  | 65, _ => rfl
  | 66, _ => rfl
  | 67, _ => rfl
  | 68, _ => rfl
  | 69, _ => rfl
  | 70, _ => rfl
  | 71, _ =>
    show (Sum.inl (3, 200, .inr (.inr (.inr (.inr (u.2.2.2.2.2 71))))) : zc) = Sum.inl (3, 200, .inr (.inr (.inr (.inr fun i => ((u.2.2.2.2.2 71 i).map (zsw 0)).map (zsw 0)))))
    rw [show (fun i => ((u.2.2.2.2.2 71 i).map (zsw 0)).map (zsw 0)) = u.2.2.2.2.2 71 from funext fun i => zom_sw 0 _]
  | 72, _ => rfl
  | 73, _ => rfl
  | 74, _ => rfl
  | 75, _ => rfl
  | 76, _ => rfl
  | 77, _ => rfl
  | 78, _ => rfl
  | 79, _ => rfl
  | 80, _ => rfl
  | 81, _ => rfl
  | 82, _ => rfl
  | 83, _ => rfl
  | 84, _ => rfl
  | 85, _ => rfl
  | 86, _ => rfl
  | 87, _ =>
    have e1 := ze_sw 0 (u.2.2.2.1 87 1)
    show (Sum.inr (8, [Value.ref 3, u.2.2.2.1 87 1, .int (u.1 87 2), .int (u.1 87 3), .ref 88, .int (u.1 87 5), .ref 89, .ref 90, .ref 91, .int (u.1 87 9), .ref 92, .int (u.1 87 11), .int (u.1 87 12), .int (u.1 87 13), .int (u.1 87 14), .ref 93, .ref 94, .ref 95, .ref 96]) : zc) = Sum.inr (8, [Value.ref 3, ze (zsw 0) (ze (zsw 0) (u.2.2.2.1 87 1)), .int (u.1 87 2), .int (u.1 87 3), .ref 88, .int (u.1 87 5), .ref 89, .ref 90, .ref 91, .int (u.1 87 9), .ref 92, .int (u.1 87 11), .int (u.1 87 12), .int (u.1 87 13), .int (u.1 87 14), .ref 93, .ref 94, .ref 95, .ref 96])
    rw [e1]
  | 88, _ => rfl
  | 89, _ => rfl
  | 90, _ => rfl
  | 91, _ => rfl
  | 92, _ => rfl
  | 93, _ => rfl
  | 94, _ => rfl
  | 95, _ => rfl
  | 96, _ => rfl
  | 97, _ => rfl
  | 98, _ => rfl
  | k + 99, hk => exact absurd hk (by omega)
set_option maxHeartbeats 4000000 in
theorem swc1_lo (u : SX) : ∀ k, k < 99 → ycel YP0 u (zsw 1 k) = zmp (zsw 1) (ycel (YPd 1) (swX 1 u) k) := by
  intro k hk
  match k, hk with
  | 0, _ => rfl
  | 1, _ => rfl
  | 2, _ => rfl
  | 3, _ => rfl
  | 4, _ => rfl
  | 5, _ => rfl
  | 6, _ => rfl
  | 7, _ => rfl
  | 8, _ => rfl
  | 9, _ => rfl
  | 10, _ => rfl
  | 11, _ => rfl
  | 12, _ => rfl
  | 13, _ => rfl
  | 14, _ =>
    have e1 := ze_sw 1 (u.2.2.2.1 14 11)
    have e2 := ze_sw 1 (u.2.2.2.1 14 12)
    show (Sum.inr (4, [Value.ref 3, .int (u.1 14 1), .int (u.1 14 2), .int (u.1 14 3), .ref 15, .ref 16, .ref 17, .ref 18, .ref 19, .ref 20, .int (u.1 14 10), u.2.2.2.1 14 11, u.2.2.2.1 14 12]) : zc) = Sum.inr (4, [Value.ref 3, .int (u.1 14 1), .int (u.1 14 2), .int (u.1 14 3), .ref 15, .ref 16, .ref 17, .ref 18, .ref 19, .ref 20, .int (u.1 14 10), ze (zsw 1) (ze (zsw 1) (u.2.2.2.1 14 11)), ze (zsw 1) (ze (zsw 1) (u.2.2.2.1 14 12))])
    rw [e1, e2]
  | 15, _ => rfl
  | 16, _ => rfl
  | 17, _ => rfl
  | 18, _ => rfl
  | 19, _ => rfl
  | 20, _ => rfl
  | 21, _ => rfl
  | 22, _ => rfl
  | 23, _ => rfl
  | 24, _ => rfl
  | 25, _ => rfl
  | 26, _ => rfl
  | 27, _ => rfl
  | 28, _ => rfl
  | 29, _ => rfl
  | 30, _ => rfl
  | 31, _ => rfl
  | 32, _ => rfl
  | 33, _ => rfl
  | 34, _ =>
    show (Sum.inl (4, 3, .inr (.inr (.inr (.inr YP0.2.1)))) : zc) = Sum.inl (4, 3, .inr (.inr (.inr (.inr fun i => ((YP0.2.1 i).map (zsw 1)).map (zsw 1)))))
    rw [show (fun i => ((YP0.2.1 i).map (zsw 1)).map (zsw 1)) = YP0.2.1 from funext fun i => zom_sw 1 _]
  | 35, _ =>
    show (Sum.inl (5, 3, .inr (.inr (.inr (.inr YP0.2.2)))) : zc) = Sum.inl (5, 3, .inr (.inr (.inr (.inr fun i => ((YP0.2.2 i).map (zsw 1)).map (zsw 1)))))
    rw [show (fun i => ((YP0.2.2 i).map (zsw 1)).map (zsw 1)) = YP0.2.2 from funext fun i => zom_sw 1 _]
  | 36, _ => rfl
  | 37, _ =>
    show (Sum.inl (3, 200, .inr (.inr (.inr (.inr (u.2.2.2.2.2 54))))) : zc) = Sum.inl (3, 200, .inr (.inr (.inr (.inr fun i => ((u.2.2.2.2.2 54 i).map (zsw 1)).map (zsw 1)))))
    rw [show (fun i => ((u.2.2.2.2.2 54 i).map (zsw 1)).map (zsw 1)) = u.2.2.2.2.2 54 from funext fun i => zom_sw 1 _]
  | 38, _ => rfl
  | 39, _ => rfl
  | 40, _ => rfl
  | 41, _ => rfl
  | 42, _ => rfl
  | 43, _ => rfl
  | 44, _ => rfl
  | 45, _ => rfl
  | 46, _ => rfl
  | 47, _ => rfl
  | 48, _ => rfl
  | 49, _ => rfl
  | 50, _ => rfl
  | 51, _ => rfl
  | 52, _ => rfl
  | 53, _ => rfl
  | 54, _ =>
    show (Sum.inl (3, 200, .inr (.inr (.inr (.inr (u.2.2.2.2.2 37))))) : zc) = Sum.inl (3, 200, .inr (.inr (.inr (.inr fun i => ((u.2.2.2.2.2 37 i).map (zsw 1)).map (zsw 1)))))
    rw [show (fun i => ((u.2.2.2.2.2 37 i).map (zsw 1)).map (zsw 1)) = u.2.2.2.2.2 37 from funext fun i => zom_sw 1 _]
  | 55, _ => rfl
  | 56, _ => rfl
  | 57, _ => rfl
  | 58, _ => rfl
  | 59, _ => rfl
  | 60, _ => rfl
  | 61, _ => rfl
  | 62, _ => rfl
  | 63, _ => rfl
  | 64, _ => rfl
  | 65, _ => rfl
  | 66, _ => rfl
  | 67, _ => rfl
  | 68, _ => rfl
  | 69, _ => rfl
  | 70, _ => rfl
  | 71, _ =>
    show (Sum.inl (3, 200, .inr (.inr (.inr (.inr (u.2.2.2.2.2 71))))) : zc) = Sum.inl (3, 200, .inr (.inr (.inr (.inr fun i => ((u.2.2.2.2.2 71 i).map (zsw 1)).map (zsw 1)))))
    rw [show (fun i => ((u.2.2.2.2.2 71 i).map (zsw 1)).map (zsw 1)) = u.2.2.2.2.2 71 from funext fun i => zom_sw 1 _]
  | 72, _ => rfl
  | 73, _ => rfl
  | 74, _ => rfl
  | 75, _ => rfl
  | 76, _ => rfl
  | 77, _ => rfl
  | 78, _ => rfl
  | 79, _ => rfl
  | 80, _ => rfl
  | 81, _ => rfl
  | 82, _ => rfl
  | 83, _ => rfl
  | 84, _ => rfl
  | 85, _ => rfl
  | 86, _ => rfl
  | 87, _ =>
    have e1 := ze_sw 1 (u.2.2.2.1 87 1)
    show (Sum.inr (8, [Value.ref 3, u.2.2.2.1 87 1, .int (u.1 87 2), .int (u.1 87 3), .ref 88, .int (u.1 87 5), .ref 89, .ref 90, .ref 91, .int (u.1 87 9), .ref 92, .int (u.1 87 11), .int (u.1 87 12), .int (u.1 87 13), .int (u.1 87 14), .ref 93, .ref 94, .ref 95, .ref 96]) : zc) = Sum.inr (8, [Value.ref 3, ze (zsw 1) (ze (zsw 1) (u.2.2.2.1 87 1)), .int (u.1 87 2), .int (u.1 87 3), .ref 88, .int (u.1 87 5), .ref 89, .ref 90, .ref 91, .int (u.1 87 9), .ref 92, .int (u.1 87 11), .int (u.1 87 12), .int (u.1 87 13), .int (u.1 87 14), .ref 93, .ref 94, .ref 95, .ref 96])
    rw [e1]
  | 88, _ => rfl
  | 89, _ => rfl
  | 90, _ => rfl
  | 91, _ => rfl
  | 92, _ => rfl
  | 93, _ => rfl
  | 94, _ => rfl
  | 95, _ => rfl
  | 96, _ => rfl
  | 97, _ => rfl
  | 98, _ => rfl
  | k + 99, hk => exact absurd hk (by omega)
set_option maxHeartbeats 4000000 in
theorem swc2_lo (u : SX) : ∀ k, k < 99 → ycel YP0 u (zsw 2 k) = zmp (zsw 2) (ycel (YPd 2) (swX 2 u) k) := by
  intro k hk
  match k, hk with
  | 0, _ => rfl
  | 1, _ => rfl
  | 2, _ => rfl
  | 3, _ => rfl
  | 4, _ => rfl
  | 5, _ => rfl
  | 6, _ => rfl
  | 7, _ => rfl
  | 8, _ => rfl
  | 9, _ => rfl
  | 10, _ => rfl
  | 11, _ => rfl
  | 12, _ => rfl
  | 13, _ => rfl
  | 14, _ =>
    have e1 := ze_sw 2 (u.2.2.2.1 14 11)
    have e2 := ze_sw 2 (u.2.2.2.1 14 12)
    show (Sum.inr (4, [Value.ref 3, .int (u.1 14 1), .int (u.1 14 2), .int (u.1 14 3), .ref 15, .ref 16, .ref 17, .ref 18, .ref 19, .ref 20, .int (u.1 14 10), u.2.2.2.1 14 11, u.2.2.2.1 14 12]) : zc) = Sum.inr (4, [Value.ref 3, .int (u.1 14 1), .int (u.1 14 2), .int (u.1 14 3), .ref 15, .ref 16, .ref 17, .ref 18, .ref 19, .ref 20, .int (u.1 14 10), ze (zsw 2) (ze (zsw 2) (u.2.2.2.1 14 11)), ze (zsw 2) (ze (zsw 2) (u.2.2.2.1 14 12))])
    rw [e1, e2]
  | 15, _ => rfl
  | 16, _ => rfl
  | 17, _ => rfl
  | 18, _ => rfl
  | 19, _ => rfl
  | 20, _ => rfl
  | 21, _ => rfl
  | 22, _ => rfl
  | 23, _ => rfl
  | 24, _ => rfl
  | 25, _ => rfl
  | 26, _ => rfl
  | 27, _ => rfl
  | 28, _ => rfl
  | 29, _ => rfl
  | 30, _ => rfl
  | 31, _ => rfl
  | 32, _ => rfl
  | 33, _ => rfl
  | 34, _ =>
    show (Sum.inl (4, 3, .inr (.inr (.inr (.inr YP0.2.1)))) : zc) = Sum.inl (4, 3, .inr (.inr (.inr (.inr fun i => ((YP0.2.1 i).map (zsw 2)).map (zsw 2)))))
    rw [show (fun i => ((YP0.2.1 i).map (zsw 2)).map (zsw 2)) = YP0.2.1 from funext fun i => zom_sw 2 _]
  | 35, _ =>
    show (Sum.inl (5, 3, .inr (.inr (.inr (.inr YP0.2.2)))) : zc) = Sum.inl (5, 3, .inr (.inr (.inr (.inr fun i => ((YP0.2.2 i).map (zsw 2)).map (zsw 2)))))
    rw [show (fun i => ((YP0.2.2 i).map (zsw 2)).map (zsw 2)) = YP0.2.2 from funext fun i => zom_sw 2 _]
  | 36, _ => rfl
  | 37, _ =>
    show (Sum.inl (3, 200, .inr (.inr (.inr (.inr (u.2.2.2.2.2 71))))) : zc) = Sum.inl (3, 200, .inr (.inr (.inr (.inr fun i => ((u.2.2.2.2.2 71 i).map (zsw 2)).map (zsw 2)))))
    rw [show (fun i => ((u.2.2.2.2.2 71 i).map (zsw 2)).map (zsw 2)) = u.2.2.2.2.2 71 from funext fun i => zom_sw 2 _]
  | 38, _ => rfl
  | 39, _ => rfl
  | 40, _ => rfl
  | 41, _ => rfl
  | 42, _ => rfl
  | 43, _ => rfl
  | 44, _ => rfl
  | 45, _ => rfl
  | 46, _ => rfl
  | 47, _ => rfl
  | 48, _ => rfl
  | 49, _ => rfl
  | 50, _ => rfl
  | 51, _ => rfl
  | 52, _ => rfl
  | 53, _ => rfl
  | 54, _ =>
    show (Sum.inl (3, 200, .inr (.inr (.inr (.inr (u.2.2.2.2.2 54))))) : zc) = Sum.inl (3, 200, .inr (.inr (.inr (.inr fun i => ((u.2.2.2.2.2 54 i).map (zsw 2)).map (zsw 2)))))
    rw [show (fun i => ((u.2.2.2.2.2 54 i).map (zsw 2)).map (zsw 2)) = u.2.2.2.2.2 54 from funext fun i => zom_sw 2 _]
  | 55, _ => rfl
  | 56, _ => rfl
  | 57, _ => rfl
  | 58, _ => rfl
  | 59, _ => rfl
  | 60, _ => rfl
  | 61, _ => rfl
  | 62, _ => rfl
  | 63, _ => rfl
  | 64, _ => rfl
  | 65, _ => rfl
  | 66, _ => rfl
  | 67, _ => rfl
  | 68, _ => rfl
  | 69, _ => rfl
  | 70, _ => rfl
  | 71, _ =>
    show (Sum.inl (3, 200, .inr (.inr (.inr (.inr (u.2.2.2.2.2 37))))) : zc) = Sum.inl (3, 200, .inr (.inr (.inr (.inr fun i => ((u.2.2.2.2.2 37 i).map (zsw 2)).map (zsw 2)))))
    rw [show (fun i => ((u.2.2.2.2.2 37 i).map (zsw 2)).map (zsw 2)) = u.2.2.2.2.2 37 from funext fun i => zom_sw 2 _]
  | 72, _ => rfl
  | 73, _ => rfl
  | 74, _ => rfl
  | 75, _ => rfl
  | 76, _ => rfl
  | 77, _ => rfl
  | 78, _ => rfl
  | 79, _ => rfl
  | 80, _ => rfl
  | 81, _ => rfl
  | 82, _ => rfl
  | 83, _ => rfl
  | 84, _ => rfl
  | 85, _ => rfl
  | 86, _ => rfl
  | 87, _ =>
    have e1 := ze_sw 2 (u.2.2.2.1 87 1)
    show (Sum.inr (8, [Value.ref 3, u.2.2.2.1 87 1, .int (u.1 87 2), .int (u.1 87 3), .ref 88, .int (u.1 87 5), .ref 89, .ref 90, .ref 91, .int (u.1 87 9), .ref 92, .int (u.1 87 11), .int (u.1 87 12), .int (u.1 87 13), .int (u.1 87 14), .ref 93, .ref 94, .ref 95, .ref 96]) : zc) = Sum.inr (8, [Value.ref 3, ze (zsw 2) (ze (zsw 2) (u.2.2.2.1 87 1)), .int (u.1 87 2), .int (u.1 87 3), .ref 88, .int (u.1 87 5), .ref 89, .ref 90, .ref 91, .int (u.1 87 9), .ref 92, .int (u.1 87 11), .int (u.1 87 12), .int (u.1 87 13), .int (u.1 87 14), .ref 93, .ref 94, .ref 95, .ref 96])
    rw [e1]
  | 88, _ => rfl
  | 89, _ => rfl
  | 90, _ => rfl
  | 91, _ => rfl
  | 92, _ => rfl
  | 93, _ => rfl
  | 94, _ => rfl
  | 95, _ => rfl
  | 96, _ => rfl
  | 97, _ => rfl
  | 98, _ => rfl
  | k + 99, hk => exact absurd hk (by omega)
theorem swc {d : Nat} (hd : d < 3) (u : SX) (k : Nat) : ycel YP0 u (zsw d k) = zmp (zsw d) (ycel (YPd d) (swX d u) k) := by
  by_cases h : k < 99
  · match d, hd with
    | 0, _ => exact swc0_lo u k h
    | 1, _ => exact swc1_lo u k h
    | 2, _ => exact swc2_lo u k h
    | d + 3, hd => exact absurd hd (by omega)
  · have e := zsw_99 (d := d) (k := k) hd (by omega)
    have e1 := zsw_99 (d := d) (k := k + 1) hd (by omega)
    have e2 := zsw_99 (d := d) (k := k + 2) hd (by omega)
    rw [e]
    show yc YP0 (u.1 k) (u.2.1 k) (u.2.2.1 k) (u.2.2.2.1 k) (u.2.2.2.2.2 k) k = zmp (zsw d) (yc (YPd d) (u.1 (zsw d k)) (u.2.1 (zsw d k)) (u.2.2.1 (zsw d k)) (fun j => ze (zsw d) (u.2.2.2.1 (zsw d k) j)) (fun i => (u.2.2.2.2.2 (zsw d k) i).map (zsw d)) k)
    rw [e]
    unfold yc
    have hb : Nat.blt k 99 = false := by
      cases hh : Nat.blt k 99 with
      | false => rfl
      | true => exact absurd (Nat.le_of_ble_eq_true hh) h
    rw [hb, cond_false, cond_false]
    cases Nat.beq ((k - 99) % 3) 0 with
    | true =>
      show _ = (Sum.inr (7, [Value.int (u.1 k 0), .ref (zsw d (k + 1)), .ref (zsw d (k + 2))]) : zc)
      rw [e1, e2]
      rfl
    | false => rfl
/-- a run in the world with the blocks swapped is a run of the class -/
theorem Ev_sw {d : Nat} (hd : d < 3) {M : MD} {as : List Value} {u v : SX} {r : Option Value} (h : Ev (ZY (YPd d)) M as (swX d u) r v) : Ev ZX M (as.map (ze (zsw d))) u (r.map (ze (zsw d))) (swX d v) := by
  rw [← ZY_0]
  have hu : u.2.2.2.2.1 ≤ v.2.2.2.2.1 := by
    have : 3 * u.2.2.2.2.1 + 99 ≤ 3 * v.2.2.2.2.1 + 99 := h.1.1
    omega
  refine Ev_emb (Z2 := ZY YP0) (s2 := u) (s2' := swX d v) (zsw d) h ⟨?_, ?_⟩ rfl rfl (fun k hk => zsw_n hd hk) (fun k hk => zsw_n hd hk) (fun k hk => zsw_ge hd hk) (fun j k _ _ e => by rw [← zsw_sw d j, e, zsw_sw]) (fun k _ => swc hd u k) (fun k _ => ?_) (fun b hb => Or.inl ⟨zsw d b, zsw_n hd hb, (zsw_sw d b).symm⟩) ?_ ?_
  · show 3 * u.2.2.2.2.1 + 99 ≤ 3 * v.2.2.2.2.1 + 99; omega
  · show 27150 + 165 * u.2.2.2.2.1 ≤ 27150 + 165 * v.2.2.2.2.1; omega
  · have := swc hd (swX d v) k
    rw [swX_sw] at this
    exact this
  · intro ad ad1 a1 a2 a3
    refine ⟨fun b => ad1 (zsw d b), fun b hb => ?_, fun b hb => a2 _ (zsw_ge hd hb), fun k => by show ad1 (zsw d (zsw d k)) = _; rw [zsw_sw]⟩
    show ad1 (zsw d b) = ad b
    rw [a1 _ (zsw_n hd hb), zsw_sw]
  · intro dA ad ad' b hb hne
    exact absurd (zsw_sw d b).symm (hne (zsw d b) (zsw_n hd hb))
