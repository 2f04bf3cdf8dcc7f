/-! The row stays a row. The class: push, note, shift. -/
section ZRw
variable {G : ZGT} {N : ZNM} {p : Int32} {X : ZRS}
theorem zph_row (X : ZRS) (s : Nat) (b f h : Int32) : (zph X s b f h).2 0 = upd (X.2 0) (X.1 0) (nI s) := rfl
theorem zrw_up {X Y : ZRS} {i : Nat} (h : Y.2 0 i = X.2 0 i) : zrw Y i = zrw X i := by unfold zrw; rw [h]
theorem ZRW.st (h : ZRW N X) (h3 : X.1 1 < 300) : ZRW N (updN X.1 1 (X.1 1 + 1), X.2) ∧ X.1 3 < X.1 1 + 1 := by
  obtain ⟨h1, h2, h4, h5, h6, h7⟩ := h
  exact ⟨⟨h1, h2, h4, h5, by show X.1 3 ≤ X.1 1 + 1; omega, by show X.1 1 + 1 ≤ 300; omega⟩, by omega⟩
theorem ZRW.po (h : ZRW N X) {r : Nat} (hc : zgn G r < X.1 0) (hd : X.1 3 < X.1 1) : ZRW N (zpo G X r) := by
  obtain ⟨h1, h2, h4, h5, h6, h7⟩ := h
  have e0 : (zpo G X r).1 0 = X.1 0 - zgn G r := by unfold zpo; dsimp only; rw [updN_ne (by decide), updN_at]
  have er : ∀ i, zrw (zpo G X r) i = zrw X i := fun i => rfl
  have ea : (zpo G X r).2 0 = X.2 0 := rfl
  refine ⟨by rw [e0]; omega, h2, fun i hi => ?_, fun i hi => ?_, ?_, h7⟩
  · rw [e0] at hi; exact h4 i (by omega)
  · rw [e0] at hi; exact h5 i (by omega)
  · show (zpo G X r).1 3 ≤ X.1 1
    unfold zpo; dsimp only; rw [updN_at]; omega
theorem ZRW.ph (h : ZRW N X) {s b0 : Nat} {b f g : Int32} (hd : X.1 0 < 100) (hN : N.1 ≤ 200) (hs : s < N.1) (hb : b0 < 14) (hg : N.2.2 (zrw X (X.1 0 - 1)) b0 = some s) : ZRW N (zph X s b f g) := by
  obtain ⟨h1, h2, h4, h5, h6, h7⟩ := h
  have e0 : (zph X s b f g).1 0 = X.1 0 + 1 := by unfold zph; dsimp only; rw [updN_at]
  have er : ∀ i, i < X.1 0 → zrw (zph X s b f g) i = zrw X i := fun i hi => zrw_up (by rw [zph_row, upd_ne (by omega)])
  have et : zrw (zph X s b f g) (X.1 0) = s := by unfold zrw; rw [zph_row, upd_at, nI_clamp (by omega)]
  refine ⟨by rw [e0]; omega, by rw [er 0 (by omega)]; exact h2, fun i hi => ?_, fun i hi => ?_, h6, h7⟩
  · rw [e0] at hi
    by_cases y : i = X.1 0
    · rw [y, et, zph_row, upd_at]; exact ⟨rfl, hs⟩
    · rw [er i (by omega), zph_row, upd_ne y]; exact h4 i (by omega)
  · rw [e0] at hi
    rw [er i (by omega)]
    by_cases y : i + 1 = X.1 0
    · rw [y, et]
      exact ⟨b0, hb, by rw [show i = X.1 0 - 1 by omega]; exact hg⟩
    · rw [er (i + 1) (by omega)]; exact h5 i (by omega)
/-- how an action goes -/
theorem zao_cases (hG : GW G) (hF : ZNF G N) (hW : ZRW N X) {md t : Nat} (ht : t ≤ zgT G ∨ t = 99) {a : Int32} (ha : a = ztl G (zcl G (zE0 G) (zF0 G) (N.2.1 (zrw X (X.1 0 - 1)))) (N.2.2 (zrw X (X.1 0 - 1))) p t (decide (md = 1))) :
    (a = -1 ∧ zao G N p md t X = (0, X)) ∨ (a ≠ -1 ∧ X.1 1 = 300 ∧ zao G N p md t X = (2, X)) ∨ (X.1 1 < 300 ∧ a = 999 ∧ zao G N p md t X = (1, (updN X.1 1 (X.1 1 + 1), X.2))) ∨
    (∃ s b, X.1 1 < 300 ∧ s < N.1 ∧ b < 14 ∧ N.2.2 (zrw X (X.1 0 - 1)) b = some s ∧ a = nI (1000 + s) ∧ zao G N p md t X = if X.1 0 = 100 then (2, (updN X.1 1 (X.1 1 + 1), X.2)) else (4, zph (updN X.1 1 (X.1 1 + 1), X.2) s 1 (nI (X.1 2)) 0)) ∨
    ∃ r, X.1 1 < 300 ∧ r < zgR G ∧ a = nI r ∧ zgn G r < X.1 0 ∧ zao G N p md t X = zre G N p md t r (updN X.1 1 (X.1 1 + 1), X.2) := by
  have hR := hG.1.2.1
  have hN := hF.1.2
  have hd := hW.1
  have hk := (hW.2.2.1 (X.1 0 - 1) (by omega)).2
  have h300 := hW.2.2.2.2.2
  unfold zao
  dsimp only
  rw [← ha]
  by_cases y : a = -1
  · exact Or.inl ⟨y, if_pos y⟩
  rw [if_neg y]
  by_cases z : X.1 1 = 300
  · exact Or.inr (Or.inl ⟨y, z, if_pos z⟩)
  rw [if_neg z]
  by_cases w : a = 999
  · exact Or.inr (Or.inr (Or.inl ⟨by omega, w, if_pos w⟩))
  rw [if_neg w]
  rcases ztl_or (C := zcl G (zE0 G) (zF0 G) (N.2.1 (zrw X (X.1 0 - 1)))) (p := p) (hF.sh hG hk (t := t)) (decide (md = 1)) with ⟨r, r1, r2⟩ | q | ⟨x, x1, x2, q⟩
  · have r2' := r2
    rw [← ha] at r2
    obtain ⟨l1, -, -⟩ := zLR hG hF hW r1 r2'
    refine Or.inr (Or.inr (Or.inr (Or.inr ⟨r, by omega, r1, r2, l1, ?_⟩)))
    rw [r2, zix_i (by omega) r1]
  · rw [← ha] at q; exact absurd q y
  · rw [← ha] at q
    -- a shift
    have hx : x ≠ 999 := fun e => w (by rw [q, e]; rfl)
    have hno : zix a (zgR G) = none := by
      cases hz : zix a (zgR G) with
      | none => rfl
      | some k =>
        obtain ⟨k1, k2⟩ := zix_s hz
        rw [q] at k2
        have := (nI_eq (by omega) (by omega)).mp k2
        omega
    have hzac : a = zac G (zcl G (zE0 G) (zF0 G) (N.2.1 (zrw X (X.1 0 - 1)))) (N.2.2 (zrw X (X.1 0 - 1))) p t ∧ t ≤ zgT G := by
      have ha2 := ha
      unfold ztl at ha2
      split at ha2
      · split at ha2
        · rename_i h1 h2; exact ⟨ha2, h2⟩
        · exact absurd ha2 y
      · cases hz : zdf G (zac G (zcl G (zE0 G) (zF0 G) (N.2.1 (zrw X (X.1 0 - 1)))) (N.2.2 (zrw X (X.1 0 - 1))) p) with
        | none => rw [hz] at ha2; exact absurd ha2 y
        | some k =>
          rw [hz, q] at ha2
          have hk := zdfs_lt _ _ hz
          have := (nI_eq (a := x) (b := k) (by omega) (by omega)).mp ha2
          omega
    obtain ⟨hz1, hz2⟩ := hzac
    unfold zac at hz1
    split at hz1
    · exact absurd hz1 w
    · split at hz1
      · cases hl : zlo G (zcl G (zE0 G) (zF0 G) (N.2.1 (zrw X (X.1 0 - 1)))) t with
        | none => rw [hl] at hz1; exact absurd hz1 y
        | some k =>
          rw [hl, q] at hz1
          have hk := (zfst_s hl).1
          have := (nI_eq (a := x) (b := k) (by omega) (by omega)).mp hz1
          omega
      · cases hs : zsh G (N.2.2 (zrw X (X.1 0 - 1))) t with
        | none => rw [hs] at hz1; exact absurd hz1 y
        | some s =>
          rw [hs] at hz1
          have hz1 : a = 1000 + nI s := hz1
          have hT := hG.1.2.2.2.2
          have hgs : N.2.2 (zrw X (X.1 0 - 1)) t = some s ∧ t < zgT G := by
            unfold zsh at hs
            split at hs
            · rename_i h1; exact ⟨hs, h1⟩
            · cases hs
          have hsn : s < N.1 := by
            rcases hF.2.2.1 _ hk t (by omega) with ⟨e, -⟩ | ⟨t', e, ht', -⟩
            · rw [e] at hgs; cases hgs.1
            · rw [e] at hgs; have := Option.some.inj hgs.1; omega
          refine Or.inr (Or.inr (Or.inr (Or.inl ⟨s, t, by omega, hsn, by omega, hgs.1, ?_, ?_⟩)))
          · rw [hz1, show (1000 : Int32) = nI 1000 from rfl, nI_add]
          · rw [hno]
            dsimp only
            rw [show (a - 1000).toNatClampNeg = s by rw [hz1, Int32.add_comm, Int32.add_sub_cancel]; exact nI_clamp (by omega)]
end ZRw
/-- the class holds the reading -/
def XRd (X : ZRS) (v : SX) : Prop := (v.1 87 5 = nI (X.1 0) ∧ v.1 87 12 = nI (X.1 1) ∧ v.1 87 13 = nI (X.1 2) ∧ v.1 87 14 = nI (X.1 3)) ∧ v.2.1 89 = X.2 0 ∧ v.2.1 90 = X.2 1 ∧ v.2.1 91 = X.2 3 ∧ v.2.1 93 = X.2 4 ∧ v.2.1 94 = X.2 5 ∧ v.2.1 95 = X.2 6 ∧ v.2.1 96 = X.2 8
theorem zy87 {P : YP} {MX : MD} (s : SX) (h : MX.1 = 8) : zrc (ZY P) MX s 87 = true := zyr (ci := 8) rfl h (by omega)
theorem y_push {P : YP} {X : ZRS} {u : SX} (h : XRd X u) (hd : X.1 0 < 100) (s : Nat) (b f g : Int32) : EvQ (ZY P) mX8_push [.ref 87, .int (nI s), .int b, .int g] u (fun x v => x = none ∧ XRd (zph X s b f g) v ∧ frX [(87, 5)] [89, 90, 91] u v) := by
  obtain ⟨⟨i1, i2, i3, i4⟩, a0, a1, a3, a4, a5, a6, a8⟩ := h
  have hin : vp_in (nI (X.1 0)) 100 := nI_in (by omega) (by omega)
  have hic : (nI (X.1 0)).toNatClampNeg = X.1 0 := nI_clamp (by omega)
  refine EQ_V vX8_push rfl ?_
  refine RQ_n (ZY_ok P) 5 rfl trivial ?_
  rw [i1]
  refine RQ_n (ZY_ok P) 1 rfl ⟨hin, trivial⟩ ?_
  rw [hic]
  obtain ⟨v1, hv1⟩ : ∃ w : SX, w = (u.1, updA u.2.1 89 (X.1 0) (nI s), u.2.2) := ⟨_, rfl⟩
  rw [← hv1]
  refine RQ_n (ZY_ok P) 5 rfl trivial ?_
  rw [show v1.1 87 5 = nI (X.1 0) by rw [hv1]; exact i1]
  refine RQ_n (ZY_ok P) 1 rfl ⟨hin, trivial⟩ ?_
  rw [hic]
  obtain ⟨v2, hv2⟩ : ∃ w : SX, w = (v1.1, updA v1.2.1 90 (X.1 0) b, v1.2.2) := ⟨_, rfl⟩
  rw [← hv2]
  refine RQ_n (ZY_ok P) 5 rfl trivial ?_
  rw [show v2.1 87 5 = nI (X.1 0) by rw [hv2, hv1]; exact i1]
  refine RQ_n (ZY_ok P) 1 rfl ⟨hin, trivial⟩ ?_
  rw [hic]
  obtain ⟨v3, hv3⟩ : ∃ w : SX, w = (v2.1, updA v2.2.1 91 (X.1 0) g, v2.2.2) := ⟨_, rfl⟩
  rw [← hv3]
  have f3 : frX [(87, 5)] [89, 90, 91] u v3 := by
    rw [hv3]; refine (frX.tr ?_ (frX.a 91 (by decide)))
    rw [hv2]; refine (frX.tr ?_ (frX.a 90 (by decide)))
    rw [hv1]; exact frX.a 89 (by decide)
  have b89 : v3.2.1 89 = upd (X.2 0) (X.1 0) (nI s) := by rw [hv3, hv2, hv1, ← a0]; rfl
  have b90 : v3.2.1 90 = upd (X.2 1) (X.1 0) b := by rw [hv3, hv2, hv1, ← a1]; rfl
  have b91 : v3.2.1 91 = upd (X.2 3) (X.1 0) g := by rw [hv3, hv2, hv1, ← a3]; rfl
  refine RQ_n (ZY_ok P) 6 rfl trivial ?_
  rw [show v3.1 87 5 = nI (X.1 0) by rw [hv3, hv2, hv1]; exact i1, show nI (X.1 0) + 1 = nI (X.1 0 + 1) from nI_add _ 1]
  obtain ⟨v4, hv4⟩ : ∃ w : SX, w = (updI v3.1 87 5 (nI (X.1 0 + 1)), v3.2) := ⟨_, rfl⟩
  show RnQ (ZY P) mX8_push (_, _, _, ((updI v3.1 87 5 (nI (X.1 0 + 1)), v3.2) : SX)) _
  rw [← hv4]
  have f4 : frX [(87, 5)] [] v3 v4 := by rw [hv4]; exact frX.i 87 5 (by decide)
  have F := f3.tr (f4.up (by decide) (by decide))
  refine RQ_to (Rn_vret rfl rfl) ⟨rfl, ⟨⟨?_, ?_, ?_, ?_⟩, ?_, ?_, ?_, ?_, ?_, ?_, ?_⟩, F⟩
  · rw [hv4]; rfl
  · exact (F.1 87 12 (by decide)).trans i2
  · exact (F.1 87 13 (by decide)).trans i3
  · exact (F.1 87 14 (by decide)).trans i4
  · exact (f4.2.1 89 (by decide)).trans b89
  · exact (f4.2.1 90 (by decide)).trans b90
  · exact (f4.2.1 91 (by decide)).trans b91
  · exact (F.2.1 93 (by decide)).trans a4
  · exact (F.2.1 94 (by decide)).trans a5
  · exact (F.2.1 95 (by decide)).trans a6
  · exact (F.2.1 96 (by decide)).trans a8
/-- what note writes -/
def znt (X : ZRS) (r : Nat) (sz hh : Int32) (fr : Int32) : ZRS := (updN X.1 3 (X.1 3 + 1), updA (updA (updA (updA (updA X.2 4 (X.1 3) (nI r)) 5 (X.1 3) sz) 6 (X.1 3) (nI (X.1 2) - sz)) 7 (X.1 3) fr) 8 (X.1 3) hh)
theorem y_note {P : YP} {X : ZRS} {u : SX} (h : XRd X u) (hd : X.1 3 < 300) (r : Nat) (sz hh fr : Int32) : EvQ (ZY P) mX8_note [.ref 87, .int (nI r), .int sz, .int hh] u (fun x v => x = none ∧ XRd (znt X r sz hh fr) v ∧ frX [(87, 14)] [93, 94, 95, 96] u v) := by
  obtain ⟨⟨i1, i2, i3, i4⟩, a0, a1, a3, a4, a5, a6, a8⟩ := h
  have hin : vp_in (nI (X.1 3)) 300 := nI_in (by omega) (by omega)
  have hic : (nI (X.1 3)).toNatClampNeg = X.1 3 := nI_clamp (by omega)
  refine EQ_V vX8_note rfl ?_
  refine RQ_n (ZY_ok P) 3 rfl trivial ?_
  rw [i4]
  refine RQ_b rfl (fun z => ?_) (fun _ => ?_)
  · have := (zq_le (a := 300) (b := X.1 3) rfl rfl (by omega) (by omega)).mp z
    omega
  refine RQ_n (ZY_ok P) 5 rfl trivial ?_
  rw [i4]
  refine RQ_n (ZY_ok P) 1 rfl ⟨hin, trivial⟩ ?_
  rw [hic]
  obtain ⟨v1, hv1⟩ : ∃ w : SX, w = (u.1, updA u.2.1 93 (X.1 3) (nI r), u.2.2) := ⟨_, rfl⟩
  rw [← hv1]
  refine RQ_n (ZY_ok P) 5 rfl trivial ?_
  rw [show v1.1 87 14 = nI (X.1 3) by rw [hv1]; exact i4]
  refine RQ_n (ZY_ok P) 1 rfl ⟨hin, trivial⟩ ?_
  rw [hic]
  obtain ⟨v2, hv2⟩ : ∃ w : SX, w = (v1.1, updA v1.2.1 94 (X.1 3) sz, v1.2.2) := ⟨_, rfl⟩
  rw [← hv2]
  refine RQ_n (ZY_ok P) 8 rfl trivial ?_
  rw [show v2.1 87 14 = nI (X.1 3) by rw [hv2, hv1]; exact i4, show v2.1 87 13 = nI (X.1 2) by rw [hv2, hv1]; exact i3]
  refine RQ_n (ZY_ok P) 1 rfl ⟨hin, trivial⟩ ?_
  rw [hic]
  obtain ⟨v3, hv3⟩ : ∃ w : SX, w = (v2.1, updA v2.2.1 95 (X.1 3) (nI (X.1 2) - sz), v2.2.2) := ⟨_, rfl⟩
  rw [← hv3]
  refine RQ_n (ZY_ok P) 5 rfl trivial ?_
  rw [show v3.1 87 14 = nI (X.1 3) by rw [hv3, hv2, hv1]; exact i4]
  refine RQ_n (ZY_ok P) 1 rfl ⟨hin, trivial⟩ ?_
  rw [hic]
  obtain ⟨v4, hv4⟩ : ∃ w : SX, w = (v3.1, updA v3.2.1 96 (X.1 3) hh, v3.2.2) := ⟨_, rfl⟩
  rw [← hv4]
  have f4 : frX [(87, 14)] [93, 94, 95, 96] u v4 := by
    rw [hv4]; refine (frX.tr ?_ (frX.a 96 (by decide)))
    rw [hv3]; refine (frX.tr ?_ (frX.a 95 (by decide)))
    rw [hv2]; refine (frX.tr ?_ (frX.a 94 (by decide)))
    rw [hv1]; exact frX.a 93 (by decide)
  have b93 : v4.2.1 93 = upd (X.2 4) (X.1 3) (nI r) := by rw [hv4, hv3, hv2, hv1, ← a4]; rfl
  have b94 : v4.2.1 94 = upd (X.2 5) (X.1 3) sz := by rw [hv4, hv3, hv2, hv1, ← a5]; rfl
  have b95 : v4.2.1 95 = upd (X.2 6) (X.1 3) (nI (X.1 2) - sz) := by rw [hv4, hv3, hv2, hv1, ← a6]; rfl
  have b96 : v4.2.1 96 = upd (X.2 8) (X.1 3) hh := by rw [hv4, hv3, hv2, hv1, ← a8]; rfl
  refine RQ_n (ZY_ok P) 6 rfl trivial ?_
  rw [show v4.1 87 14 = nI (X.1 3) by rw [hv4, hv3, hv2, hv1]; exact i4, show nI (X.1 3) + 1 = nI (X.1 3 + 1) from nI_add _ 1]
  obtain ⟨v5, hv5⟩ : ∃ w : SX, w = (updI v4.1 87 14 (nI (X.1 3 + 1)), v4.2) := ⟨_, rfl⟩
  show RnQ (ZY P) mX8_note (_, _, _, ((updI v4.1 87 14 (nI (X.1 3 + 1)), v4.2) : SX)) _
  rw [← hv5]
  have f5 : frX [(87, 14)] [] v4 v5 := by rw [hv5]; exact frX.i 87 14 (by decide)
  have F := f4.tr (f5.up (by decide) (by decide))
  refine RQ_to (Rn_vret rfl rfl) ⟨rfl, ⟨⟨?_, ?_, ?_, ?_⟩, ?_, ?_, ?_, ?_, ?_, ?_, ?_⟩, F⟩
  · exact (F.1 87 5 (by decide)).trans i1
  · exact (F.1 87 12 (by decide)).trans i2
  · exact (F.1 87 13 (by decide)).trans i3
  · rw [hv5]; rfl
  · exact (F.2.1 89 (by decide)).trans a0
  · exact (F.2.1 90 (by decide)).trans a1
  · exact (F.2.1 91 (by decide)).trans a3
  · exact (f5.2.1 93 (by decide)).trans b93
  · exact (f5.2.1 94 (by decide)).trans b94
  · exact (f5.2.1 95 (by decide)).trans b95
  · exact (f5.2.1 96 (by decide)).trans b96
