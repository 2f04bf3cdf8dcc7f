/-! What is expected: as a value. -/
/-- rows that are alike -/
def EqR (X Y : ZRS) : Prop := X.1 0 = Y.1 0 ∧ X.1 1 = Y.1 1 ∧ ∀ i, i < X.1 0 → X.2 0 i = Y.2 0 i
section ZExp
variable {G : ZGT} {N : ZNM} {p : Int32} {X Y : ZRS} {md t : Nat}
theorem EqR.ph (h : EqR X Y) (s : Nat) (b f g b' f' g' : Int32) : EqR (zph X s b f g) (zph Y s b' f' g') := by
  obtain ⟨e0, e1, e2⟩ := h
  refine ⟨?_, e1, fun i hi => ?_⟩
  · show X.1 0 + 1 = Y.1 0 + 1
    rw [e0]
  · have hi : i < X.1 0 + 1 := hi
    show upd (X.2 0) (X.1 0) (nI s) i = upd (Y.2 0) (Y.1 0) (nI s) i
    rw [← e0]
    by_cases y : i = X.1 0
    · rw [y, upd_at, upd_at]
    · rw [upd_ne y, upd_ne y]; exact e2 i (by omega)
theorem EqR.po (h : EqR X Y) (r : Nat) : EqR (zpo G X r) (zpo G Y r) := by
  obtain ⟨e0, e1, e2⟩ := h
  refine ⟨?_, e1, fun i hi => ?_⟩
  · show X.1 0 - zgn G r = Y.1 0 - zgn G r
    rw [e0]
  · have hi : i < X.1 0 - zgn G r := hi
    exact e2 i (by omega)
theorem EqR.ao (hW : ZRW N X) (h : EqR X Y) : (zao G N p md t X).1 = (zao G N p md t Y).1 ∧ EqR (zao G N p md t X).2 (zao G N p md t Y).2 := by
  have d0 := h.1
  have d1 := h.2.1
  have hd := hW.1
  have hz0 : ∀ i, i < X.1 0 → zrw X i = zrw Y i := fun i hi => by unfold zrw; rw [h.2.2 i hi]
  have hk : zrw X (X.1 0 - 1) = zrw Y (Y.1 0 - 1) := by rw [← d0]; exact hz0 _ (by omega)
  obtain ⟨a, ha⟩ : ∃ a, a = ztl G (zcl G (zE0 G) (zF0 G) (N.2.1 (zrw Y (Y.1 0 - 1)))) (N.2.2 (zrw Y (Y.1 0 - 1))) p t (decide (md = 1)) := ⟨_, rfl⟩
  have ha2 : a = ztl G (zcl G (zE0 G) (zF0 G) (N.2.1 (zrw X (X.1 0 - 1)))) (N.2.2 (zrw X (X.1 0 - 1))) p t (decide (md = 1)) := by rw [hk]; exact ha
  have hst : EqR (updN X.1 1 (X.1 1 + 1), X.2) (updN Y.1 1 (Y.1 1 + 1), Y.2) := ⟨d0, by show X.1 1 + 1 = Y.1 1 + 1; rw [d1], h.2.2⟩
  unfold zao
  dsimp only
  rw [← ha, ← ha2]
  by_cases y : a = -1
  · rw [if_pos y, if_pos y]; exact ⟨rfl, h⟩
  rw [if_neg y, if_neg y]
  by_cases z : X.1 1 = 300
  · rw [if_pos z, if_pos (show Y.1 1 = 300 by omega)]; exact ⟨rfl, h⟩
  rw [if_neg z, if_neg (show ¬ Y.1 1 = 300 by omega)]
  by_cases w : a = 999
  · rw [if_pos w, if_pos w]; exact ⟨rfl, hst⟩
  rw [if_neg w, if_neg w]
  cases hz : zix a (zgR G) with
  | none =>
    dsimp only
    by_cases q : X.1 0 = 100
    · rw [if_pos q, if_pos (show Y.1 0 = 100 by omega)]; exact ⟨rfl, hst⟩
    rw [if_neg q, if_neg (show ¬ Y.1 0 = 100 by omega)]
    exact ⟨rfl, hst.ph _ _ _ _ _ _ _⟩
  | some r =>
    dsimp only
    unfold zre
    have c0 : ((updN Y.1 1 (Y.1 1 + 1), Y.2) : ZRS).1 0 = Y.1 0 := rfl
    have c1 : ((updN X.1 1 (X.1 1 + 1), X.2) : ZRS).1 0 = X.1 0 := rfl
    rw [c0, c1, ← d0]
    by_cases q : X.1 0 - zgn G r = 100
    · rw [if_pos q, if_pos q]; exact ⟨rfl, hst.po r⟩
    rw [if_neg q, if_neg q]
    have hk2 : zrw (updN X.1 1 (X.1 1 + 1), X.2) (X.1 0 - zgn G r - 1) = zrw (updN Y.1 1 (Y.1 1 + 1), Y.2) (X.1 0 - zgn G r - 1) := hz0 _ (by omega)
    rw [hk2]
    cases hg : zgoo G N p md t (zrw (updN Y.1 1 (Y.1 1 + 1), Y.2) (X.1 0 - zgn G r - 1)) (zgl G r) with
    | none => exact ⟨rfl, hst.po r⟩
    | some g => exact ⟨rfl, (hst.po r).ph _ _ _ _ _ _ _⟩
/-- how reading goes on by one sign, again and again -/
noncomputable def zxt (G : ZGT) (N : ZNM) (p : Int32) (t : Nat) : Nat → Nat × ZRS → Nat
  | 0, Z => Z.1
  | n + 1, Z => if Z.1 = 3 then zxt G N p t n (zao G N p 0 t Z.2) else Z.1
theorem zxt_eq (hG : GW G) (hF : ZNF G N) (ht : t ≤ zgT G ∨ t = 99) : ∀ n (Z W : Nat × ZRS), ZRW N Z.2 → Z.1 = W.1 → EqR Z.2 W.2 → zxt G N p t n Z = zxt G N p t n W
  | 0, Z, W, _, h, _ => h
  | n + 1, Z, W, hW, h, hE => by
    rw [zxt, zxt, ← h]
    by_cases y : Z.1 = 3
    · rw [if_pos y, if_pos y]
      obtain ⟨a, b⟩ := hE.ao (G := G) (p := p) (md := 0) (t := t) hW
      exact zxt_eq hG hF ht n _ _ (hW.ao hG hF ht).1 a b
    · rw [if_neg y, if_neg y]
theorem zxt_end (hG : GW G) (hF : ZNF G N) (ht : t ≤ zgT G ∨ t = 99) : ∀ n (Z : Nat × ZRS), ZRW N Z.2 → (Z.1 = 3 → Z.2.1 1 + n = 301) → zxt G N p t n Z ≠ 3
  | 0, Z, hW, h => fun y => by
    have y : Z.1 = 3 := y
    have h1 := h y
    have h2 := hW.2.2.2.2.2
    omega
  | n + 1, Z, hW, h => by
    rw [zxt]
    by_cases y : Z.1 = 3
    · rw [if_pos y]
      obtain ⟨a, b⟩ := hW.ao (p := p) (md := 0) hG hF ht
      exact zxt_end hG hF ht n _ a (fun z => by rw [b (by omega)]; have := h y; omega)
    · rw [if_neg y]; exact y
theorem zxt_no {n : Nat} {Z : Nat × ZRS} (h : Z.1 ≠ 3) : zxt G N p t n Z = Z.1 := by
  cases n with
  | zero => rfl
  | succ n => rw [zxt, if_neg h]
/-- whether that sign would be taken behind the row that was kept -/
noncomputable def zxv (G : ZGT) (N : ZNM) (p : Int32) (K : Nat × (Nat → Int32)) (t : Nat) : Bool := decide (zxt G N p t 301 (3, zkx K) = 1) || decide (zxt G N p t 301 (3, zkx K) = 4)
noncomputable def zxb (q : Nat → Bool) : Nat → Int32
  | 0 => 0
  | n + 1 => if q n = true then zxb q n ||| (1 : Int32) <<< (nI n &&& 31) else zxb q n
theorem zxb_cg {q q' : Nat → Bool} : ∀ n, (∀ i, i < n → q i = q' i) → zxb q n = zxb q' n
  | 0, _ => rfl
  | n + 1, h => by rw [zxb, zxb, zxb_cg n (fun i hi => h i (by omega)), h n (by omega)]
theorem zxv_cg (hG : GW G) (hF : ZNF G N) (ht : t ≤ zgT G ∨ t = 99) {K L : Nat × (Nat → Int32)} (hW : ZRW N (zkx K)) (h0 : K.1 = L.1) (h1 : ∀ i, i < K.1 → K.2 i = L.2 i) : zxv G N p K t = zxv G N p L t := by
  have e : zxt G N p t 301 (3, zkx K) = zxt G N p t 301 (3, zkx L) := zxt_eq hG hF ht 301 _ _ hW rfl ⟨h0, rfl, h1⟩
  unfold zxv
  rw [e]
noncomputable def zvX (G : ZGT) (o : Option ZAS) (p : Int32) (m : Nat) (ln : Nat → Nat) (yy : Nat → Nat → Nat) (sl : Nat → Nat) (x1 : Int32) : Int32 := match o with
  | none => -1
  | some A => match zrqs m x1 0 with
    | none => -1
    | some (k, md) => if (zcs G A p ln yy sl k md).1 = 0 then zxb (zxv G (zN A) p (zcs G A p ln yy sl k md).2.2) (zgT G + 1) else -1
end ZExp
