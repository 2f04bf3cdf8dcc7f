/-! The class: openLookIn, open, close. -/
section ZSym
variable {S : Type} {Z : ZW S} {M : MD} {pc nx tg : Nat} {v0 : Int32} {l : List (Option Value)} {st : List Value} {s : S} {Q : Option Value → S → Prop}
/-- a field of a cell that is known by a hypothesis -/
theorem RQ_gf (hZ : ZOk Z) {idx a ci j pl : Nat} {fs : List Value} {v : Value} (hfe : zfe M pc = some (.getfield idx, 3, nx, tg, v0)) (hfr : zFR M.1 idx = some (ci, j, pl)) (hc : Z.1 s a = .inr (ci, fs)) (ha : a < Z.2.1 s) (hv : fs[j]? = some v) (k : RnQ Z M (nx, l, v :: st, s) Q) : RnQ Z M (pc, l, .ref a :: st, s) Q := by
  refine RQ_n hZ 1 (P := True) (f' := (nx, l, v :: st, s)) ?_ trivial k
  have hb : Nat.blt a (Z.2.1 s) = true := Nat.ble_eq_true_of_le ha
  simp only [zsn, zs1, hfe, zex, hfr, hc, Nat.beq_refl, hb, hv, Bool.and_self, cond_true]
/-- a place of an array of ints that is known by a hypothesis -/
theorem RQ_ia (hZ : ZOk Z) {a nn : Nat} {x : Int32} {g : Nat → Int32} (hfe : zfe M pc = some (.iaload, 1, nx, tg, v0)) (hc : Z.1 s a = .inl (0, nn, .inl g)) (ha : a < Z.2.1 s) (hin : vp_in x nn) (k : RnQ Z M (nx, l, .int (g x.toNatClampNeg) :: st, s) Q) : RnQ Z M (pc, l, .int x :: .ref a :: st, s) Q := by
  refine RQ_n hZ 1 (P := vp_in x nn ∧ True) (f' := (nx, l, .int (g x.toNatClampNeg) :: st, s)) ?_ ⟨hin, trivial⟩ k
  have hb : Nat.blt a (Z.2.1 s) = true := Nat.ble_eq_true_of_le ha
  simp only [zsn, zs1, hfe, zex, hc, hb, cond_true]
end ZSym
/-- what a state's closure adds, by names -/
def yO (sl : Nat) (u : SX) (n : Nat) : Int32 := u.2.1 39 (6 * sl + n)
def zol (G : ZGT) (O : Nat → Int32) (r : Nat) : Int32 := if r < zgR G ∧ zgi G r = true then O (zgl G r) else 0
theorem y_openLookIn {P : YP} {G : ZGT} {u : SX} (h : ZGX G u) {sl r : Nat} (hs : sl < 200) (hr : r ≤ zgR G) : Ev (ZY P) mX1_openLookIn [.ref 36, .int (nI sl), .int (nI r)] u (some (.int (zol G (yO sl u) r))) u := by
  have hb := h.b
  refine EQ_ev (EQ_V vX1_openLookIn rfl ?_)
  refine RQ_n (ZY_ok P) 4 rfl trivial ?_
  refine RQ_b rfl (fun z => ?_) (fun z => ?_)
  · have z := (zq_le h.R rfl (by omega) (by omega)).mp z
    refine RQ_n (ZY_ok P) 1 rfl trivial ?_
    exact RQ_to (Rn_iret rfl rfl) ⟨by rw [zol, if_neg (fun y => by omega)], rfl⟩
  have z := (not_congr (zq_le h.R rfl (by omega) (by omega))).mp z
  have hrR : r < zgR G := by omega
  have hl6 := h.1.l hrR
  refine RQ_n (ZY_ok P) 3 rfl trivial ?_
  refine RQ_v vX5_isIn (y_isIn h hrR) rfl k1_121 rfl rfl rfl (zy3 u rfl) rfl ?_
  refine RQ_b rfl (fun z2 => ?_) (fun z2 => ?_)
  · have z2 := bI_t z2
    have e4 : u.2.1 4 (nI r).toNatClampNeg = nI (zgl G r) := by rw [nI_clamp (by omega)]; exact h.l hrR
    have e1 : nI sl * 6 + u.2.1 4 (nI r).toNatClampNeg = nI (6 * sl + zgl G r) := by rw [e4, nI_mul6r, nI_add]
    refine RQ_n (ZY_ok P) 12 rfl ⟨nI_in (by omega) (by omega), by rw [e1]; exact nI_in (by omega) (by omega), trivial⟩ ?_
    refine RQ_to (Rn_iret rfl rfl) ⟨?_, rfl⟩
    rw [e1, nI_clamp (by omega), zol, if_pos ⟨hrR, z2⟩]
    rfl
  · have z2 := bI_0.mp (Classical.not_not.mp z2)
    refine RQ_n (ZY_ok P) 1 rfl trivial ?_
    exact RQ_to (Rn_iret rfl rfl) ⟨by rw [zol, if_neg (fun y => by rw [z2] at y; exact absurd y.2 (by decide))], rfl⟩
/-- what an item adds -/
theorem y_open_no {P : YP} {G : ZGT} {u : SX} (h : ZGX G u) {sl r d : Nat} {x : Int32} (hr : r ≤ zgR G) (hd : d < 2 ^ 31) (hn : ¬ (d < zgn G r ∧ 8 ≤ zgt G r d)) : Ev (ZY P) mX1_open [.ref 36, .int (nI (6 * sl)), .int (nI r), .int (nI d), .int x] u (some (.int 0)) u := by
  have hb := h.b
  refine EQ_ev (EQ_V vX1_open rfl ?_)
  refine RQ_n (ZY_ok P) 4 rfl trivial ?_
  refine RQ_v vX5_letterAt (y_letterAt h hr hd) rfl k1_112 rfl rfl rfl (zy3 u rfl) rfl ?_
  refine RQ_n (ZY_ok P) 3 rfl trivial ?_
  refine RQ_b rfl (fun z => ?_) (fun _ => ?_)
  · exfalso
    have z : (8 : Int32) ≤ zlt G r d := z
    unfold zlt at z
    by_cases y : d < zgn G r
    · rw [if_pos y] at z
      have ht := h.1.t hr y
      exact hn ⟨y, (zq_le (a := 8) rfl rfl (by omega) (by omega)).mp z⟩
    · rw [if_neg y] at z
      exact absurd z (by decide)
  refine RQ_n (ZY_ok P) 1 rfl trivial ?_
  exact RQ_to (Rn_zret rfl rfl (Or.inl rfl)) ⟨rfl, rfl⟩
theorem y_open_nm {P : YP} {G : ZGT} {E : Int32} {F : Nat → Int32} {u : SX} (h : ZGX G u) (hF : FE G E F u) (h5 : ∀ n, n < 6 → bsub (F n) 511) {sl r d n : Nat} {x : Int32} (hs : sl < 200) (hr : r ≤ zgR G) (hd : d < zgn G r) (hn : zgt G r d = 8 + n) : Ev (ZY P) mX1_open [.ref 36, .int (nI (6 * sl)), .int (nI r), .int (nI d), .int x] u (some (.int (bI (!decide (yO sl u n ||| zLB G E F r (d + 1) x = yO sl u n))))) (u.1, updA u.2.1 39 (6 * sl + n) (yO sl u n ||| zLB G E F r (d + 1) x), u.2.2) := by
  have hb := h.b
  have ht := h.1.t hr hd
  have hn6 : n < 6 := by omega
  have hnr := h.1.n hr
  refine EQ_ev (EQ_V vX1_open rfl ?_)
  refine RQ_n (ZY_ok P) 4 rfl trivial ?_
  refine RQ_v vX5_letterAt (y_letterAt h hr (by omega)) rfl k1_112 rfl rfl rfl (zy3 u rfl) rfl ?_
  rw [zlt_in hd, hn]
  refine RQ_n (ZY_ok P) 3 rfl trivial ?_
  refine RQ_b rfl (fun _ => ?_) (fun z => absurd ((zq_le (a := 8) (b := 8 + n) rfl rfl (by omega) (by omega)).mpr (by omega)) z)
  have e1 : nI (6 * sl) + nI (8 + n) - 8 = nI (6 * sl + n) := by
    rw [nI_add, show (8 : Int32) = nI 8 from rfl, nI_sub (by omega)]
    congr 1
    omega
  refine RQ_n (ZY_ok P) 5 rfl trivial ?_
  rw [e1]
  have hin : vp_in (nI (6 * sl + n)) 1200 := nI_in (by omega) (by omega)
  have hic : (nI (6 * sl + n)).toNatClampNeg = 6 * sl + n := nI_clamp (by omega)
  refine RQ_n (ZY_ok P) 12 rfl ⟨hin, trivial⟩ ?_
  rw [hic, nI_1]
  have hlb := y_looksBehind (P := P) h hF.2.2 (by rw [hF.2.1]; exact h5) (r := r) (i := d + 1) hr (by omega) x
  rw [hF.1, hF.2.1] at hlb
  refine RQ_v vX4_looksBehind hlb rfl k1_115 rfl rfl rfl (zy14 u rfl) rfl ?_
  obtain ⟨y, hy⟩ : ∃ y, y = zLB G E F r (d + 1) x := ⟨_, rfl⟩
  obtain ⟨w0, hw0⟩ : ∃ w0, w0 = yO sl u n := ⟨_, rfl⟩
  obtain ⟨ix, hix⟩ : ∃ ix, ix = nI (6 * sl + n) := ⟨_, rfl⟩
  have e39 : u.2.1 39 (6 * sl + n) = w0 := hw0.symm
  rw [← hy, ← hw0, e39, ← hix]
  rw [← hix] at hin hic
  refine RQ_n (ZY_ok P) 7 rfl ⟨hin, trivial⟩ ?_
  rw [hic, e39]
  have tail : ∀ b : Bool, b = !decide (w0 ||| y = w0) → RnQ (ZY P) mX1_open (69, [some (.ref 36), some (.int (nI (6 * sl))), some (.int (nI r)), some (.int (nI d)), some (.int x), some (.int (nI (8 + n))), some (.int ix), some (.int (w0 ||| y)), none], [.int (bI b)], u) (fun res v => res = some (.int (bI (!decide (w0 ||| y = w0)))) ∧ v = (u.1, updA u.2.1 39 (6 * sl + n) (w0 ||| y), u.2.2)) := by
    intro b hb
    refine RQ_n (ZY_ok P) 7 rfl ⟨hin, trivial⟩ ?_
    rw [hic]
    exact RQ_to (Rn_zret rfl rfl (bI_01 _)) ⟨by rw [hb], rfl⟩
  refine RQ_b rfl (fun z => ?_) (fun z => ?_)
  · have z : w0 ||| y = w0 := z
    refine RQ_n (ZY_ok P) 1 rfl trivial ?_
    exact tail false (by rw [decide_eq_true z]; rfl)
  · have z : ¬ w0 ||| y = w0 := z
    refine RQ_n (ZY_ok P) 2 rfl trivial ?_
    exact tail true (by rw [decide_eq_false z]; rfl)
/-- the same, whatever the letter -/
theorem y_open {P : YP} {G : ZGT} {E : Int32} {F : Nat → Int32} {u : SX} (h : ZGX G u) (hF : FE G E F u) (h5 : ∀ n, n < 6 → bsub (F n) 511) {sl r d : Nat} {x : Int32} (hs : sl < 200) (hr : r ≤ zgR G) (hd : d < 2 ^ 31) : EvQ (ZY P) mX1_open [.ref 36, .int (nI (6 * sl)), .int (nI r), .int (nI d), .int x] u (fun res v => ∃ b, res = some (.int (bI b)) ∧ (frX [] [39] u v ∧ ∀ j, (j < 6 * sl ∨ 6 * sl + 6 ≤ j) → v.2.1 39 j = u.2.1 39 j) ∧ (∀ n, n < 6 → bsub (yO sl u n) (yO sl v n)) ∧ (∀ n, n < 6 → yO sl v n ≠ yO sl u n → d < zgn G r ∧ zgt G r d = 8 + n ∧ yO sl v n = yO sl u n ||| zLB G E F r (d + 1) x) ∧ (d < zgn G r → 8 ≤ zgt G r d → bsub (zLB G E F r (d + 1) x) (yO sl v (zgt G r d - 8))) ∧ (b = true → ∃ n, n < 6 ∧ yO sl v n ≠ yO sl u n) ∧ (b = false → ∀ j, v.2.1 39 j = u.2.1 39 j)) := by
  by_cases z : d < zgn G r ∧ 8 ≤ zgt G r d
  · obtain ⟨n, hn⟩ : ∃ n, zgt G r d = 8 + n := ⟨zgt G r d - 8, by omega⟩
    have ht := h.1.t hr z.1
    have hb := h.b
    have hn6 : n < 6 := by omega
    obtain ⟨y, hy⟩ : ∃ y, y = zLB G E F r (d + 1) x := ⟨_, rfl⟩
    have hv : ∀ k, yO sl (u.1, updA u.2.1 39 (6 * sl + n) (yO sl u n ||| y), u.2.2) k = if k = n then yO sl u n ||| y else yO sl u k := by
      intro k
      show upd (u.2.1 39) (6 * sl + n) (yO sl u n ||| y) (6 * sl + k) = _
      by_cases w : k = n
      · subst w; rw [upd_at, if_pos rfl]
      · rw [upd_ne (by omega), if_neg w]; rfl
    have h0 := y_open_nm (P := P) h hF h5 (x := x) hs hr z.1 hn
    rw [← hy] at h0
    refine EQ_of h0 ⟨!decide (yO sl u n ||| y = yO sl u n), rfl, ⟨frX.a 39 (by decide), fun j hj => ?_⟩, fun k hk => ?_, fun k hk hne => ?_, fun _ _ => ?_, fun hb => ?_, fun hb j => ?_⟩
    · show upd (u.2.1 39) (6 * sl + n) (yO sl u n ||| y) j = _
      rw [upd_ne (by omega)]
    · rw [hv]
      by_cases w : k = n
      · subst w; rw [if_pos rfl]; exact bsub_l
      · rw [if_neg w]; exact bsub_rf
    · rw [hv] at hne ⊢
      by_cases w : k = n
      · subst w; rw [if_pos rfl, ← hy]; exact ⟨z.1, hn, rfl⟩
      · rw [if_neg w] at hne; exact absurd rfl hne
    · rw [hv, hn, Nat.add_sub_cancel_left, if_pos rfl, ← hy]; exact bsub_r
    · refine ⟨n, hn6, ?_⟩
      rw [hv, if_pos rfl]
      rw [Bool.not_eq_true', decide_eq_false_iff_not] at hb
      exact hb
    · rw [Bool.not_eq_false', decide_eq_true_eq] at hb
      show upd (u.2.1 39) (6 * sl + n) (yO sl u n ||| y) j = _
      rw [hb]
      by_cases w : j = 6 * sl + n
      · subst w; rw [upd_at]; rfl
      · rw [upd_ne w]
  · exact EQ_of (y_open_no h hr hd z) ⟨false, rfl, ⟨frX.rf, fun _ _ => rfl⟩, fun _ _ => bsub_rf, fun _ _ hne => absurd rfl hne, fun a b => absurd ⟨a, b⟩ z, fun hb => (by cases hb), fun _ _ => rfl⟩
