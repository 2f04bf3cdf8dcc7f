/-! Reading all: as a value, in the class, in the reference. -/
section ZPr
variable {S : Type} {Z : ZW S} {M : MD} {pc nx tg : Nat} {v : Int32} {l : List (Option Value)} {st : List Value} {s s1 sE : S} {r : Option Value} {Q : Option Value → S → Prop}
/-- a reference is put into a field -/
theorem Rn_pr (hZ : ZOk Z) {idx ci j pl a : Nat} {w : Value} {fs : List Value} (hfe : zfe M pc = some (.putfield idx, 3, nx, tg, v)) (hfr : zFR M.1 idx = some (ci, j, pl)) (hcell : Z.1 s a = .inr (ci, fs)) (ha : a < Z.2.1 s) (hj : j < fs.length) (hf : zfinF ci j = false) (hfit : ∀ ad, narrow (ztyF ci j) (ze ad w) = ze ad w ∧ fits (ztyF ci j) (ze ad w) = true) (hs1 : Z.2.2.2.1 s a j w = some s1)
    (k : Rn Z M (nx, l, st, s1) r sE) : Rn Z M (pc, l, w :: .ref a :: st, s) r sE := by
  obtain ⟨ho, C, T, N, hc, hk, hl1, hty⟩ := zFR_ok hfr
  obtain ⟨hcn, hoth, hself⟩ := hZ.1 _ _ _ _ _ hs1 ha
  have hfin : (T j).2.2.2 = false := by
    have : zfinF ci j = (T j).2.2.2 := by unfold zfinF; rw [hc]
    rw [← this]; exact hf
  refine Rn_gen (s' := s1) (l' := l) (st' := st) (nx := nx) hcn (fun p l0 e R s0 m args below meth c H locs cells slots Q ls A dC dI dA ad hC hH hl ww => ?_) k
  obtain ⟨hd, hnx, -⟩ := zD hC hfe
  subst hnx
  have hat : (zws Z dA ad s)[a]? = some (ad a, .inr (ci, fs.map (ze ad))) := by rw [zws_at ha, hcell]; rfl
  obtain ⟨hn, hft⟩ := hfit ad
  exact va_put (v := ze ad w) (ty := ztyF ci j) hC.1 hC.2.1 hC.2.2.2.2.1 (zcl_in hc) (ztyF ci) (zcl_ty hc) (zcl_nm hc) (zown hC ho) hH.2.1 hH.1 hH.2.2.1 hH.2.2.2.1 a hat hc j hk (hC.2.2.2.2.1 _ hl1) (fun _ q => q) hfin hty hn hft (by simpa using hj) hd
    (fun H1 locs1 h1 h2 h3 => ww H1 locs1 ls (ZH_set (a := a) hH hcn.1 hoth (by rw [hself ci fs hcell hj]; simp [zcc, List.map_set]) h1 h2 h3) hl)
theorem RQ_pr (hZ : ZOk Z) {idx ci j pl a : Nat} {w : Value} {fs : List Value} (hfe : zfe M pc = some (.putfield idx, 3, nx, tg, v)) (hfr : zFR M.1 idx = some (ci, j, pl)) (hcell : Z.1 s a = .inr (ci, fs)) (ha : a < Z.2.1 s) (hj : j < fs.length) (hf : zfinF ci j = false) (hfit : ∀ ad, narrow (ztyF ci j) (ze ad w) = ze ad w ∧ fits (ztyF ci j) (ze ad w) = true) (hs1 : Z.2.2.2.1 s a j w = some s1)
    (k : RnQ Z M (nx, l, st, s1) Q) : RnQ Z M (pc, l, w :: .ref a :: st, s) Q := by
  obtain ⟨r, s', hq, hr⟩ := k
  exact ⟨r, s', hq, Rn_pr hZ hfe hfr hcell ha hj hf hfit hs1 hr⟩
end ZPr
def znx (G : ZGT) (len : Nat) (inp : Nat → Nat) (X : ZRS) : Nat := if X.1 2 < len then inp (X.1 2) else zgT G
abbrev ZRT : Type := Nat × ZRS × Nat × (Nat → Int32)
noncomputable def zrt1 (G : ZGT) (N : ZNM) (p : Int32) (md len : Nat) (inp : Nat → Nat) (R : ZRT) : ZRT := ((zr1 (zao G N p md (znx G len inp R.2.1) R.2.1)).1, (zr1 (zao G N p md (znx G len inp R.2.1) R.2.1)).2, if (zr1 (zao G N p md (znx G len inp R.2.1) R.2.1)).1 = 4 then ((zr1 (zao G N p md (znx G len inp R.2.1) R.2.1)).2.1 0, (zr1 (zao G N p md (znx G len inp R.2.1) R.2.1)).2.2 0) else R.2.2)
noncomputable def zrt (G : ZGT) (N : ZNM) (p : Int32) (md len : Nat) (inp : Nat → Nat) : Nat → ZRT → ZRT
  | 0, R => R
  | n + 1, R => if R.1 < 3 then R else zrt G N p md len inp n (zrt1 G N p md len inp R)
/-- the row that was kept, as a reading -/
def zkx (K : Nat × (Nat → Int32)) : ZRS := (updN (fun _ => 0) 0 K.1, fun _ => K.2)
theorem ZRW.k {N : ZNM} {X : ZRS} (h : ZRW N X) : ZRW N (zkx (X.1 0, X.2 0)) := by
  obtain ⟨h1, h2, h3, h4, -, -⟩ := h
  exact ⟨h1, h2, h3, h4, Nat.le_refl _, Nat.zero_le _⟩
theorem ZRW.r1 {N : ZNM} {Z : Nat × ZRS} (h : ZRW N Z.2) : ZRW N (zr1 Z).2 ∧ (zr1 Z).2.1 1 = Z.2.1 1 := by
  unfold zr1
  split
  · exact ⟨h, rfl⟩
  · exact ⟨h, rfl⟩
section ZRt
variable {G : ZGT} {N : ZNM} {p : Int32} {md len : Nat} {inp : Nat → Nat}
/-- what holds all along -/
def ZRI (N : ZNM) (R : ZRT) : Prop := ZRW N R.2.1 ∧ ZRW N (zkx R.2.2) ∧ R.2.1.1 2 ≤ R.2.1.1 1
theorem zao_le {X : ZRS} {t : Nat} : (zao G N p md t X).1 ≤ 4 := by
  unfold zao zre
  dsimp only
  repeat' split
  all_goals (first | exact (by decide : (0 : Nat) ≤ 4) | exact (by decide : (1 : Nat) ≤ 4) | exact (by decide : (2 : Nat) ≤ 4) | exact (by decide : (3 : Nat) ≤ 4) | exact (by decide : (4 : Nat) ≤ 4))
theorem zao_rd {X : ZRS} {t : Nat} : (zao G N p md t X).2.1 2 = X.1 2 ∧ X.1 1 ≤ (zao G N p md t X).2.1 1 := by
  unfold zao zre
  dsimp only
  repeat' split
  all_goals (first | exact ⟨rfl, Nat.le_refl _⟩ | exact ⟨rfl, Nat.le_succ _⟩)
theorem znx_ok (hi : ∀ i, i < len → inp i ≤ zgT G ∨ inp i = 99) (X : ZRS) : znx G len inp X ≤ zgT G ∨ znx G len inp X = 99 := by
  unfold znx
  split
  · rename_i y; exact hi _ y
  · exact Or.inl (Nat.le_refl _)
theorem zrt1_I (hG : GW G) (hF : ZNF G N) (hi : ∀ i, i < len → inp i ≤ zgT G ∨ inp i = 99) {R : ZRT} (h : ZRI N R) : ZRI N (zrt1 G N p md len inp R) ∧ (3 ≤ (zrt1 G N p md len inp R).1 → (zrt1 G N p md len inp R).2.1.1 1 = R.2.1.1 1 + 1) := by
  obtain ⟨h1, h2, h3⟩ := h
  obtain ⟨a1, a2⟩ := h1.ao (p := p) (md := md) hG hF (znx_ok hi R.2.1)
  obtain ⟨b1, b2⟩ := a1.r1
  refine ⟨⟨b1, ?_, ?_⟩, fun y => ?_⟩
  · unfold zrt1
    dsimp only
    split
    · exact b1.k
    · exact h2
  · obtain ⟨c1, c2⟩ := zao_rd (G := G) (N := N) (p := p) (md := md) (X := R.2.1) (t := znx G len inp R.2.1)
    show (zr1 _).2.1 2 ≤ (zr1 _).2.1 1
    rw [b2]
    unfold zr1
    split
    · rename_i y
      have := a2 (by omega)
      show (zao G N p md (znx G len inp R.2.1) R.2.1).2.1 2 + 1 ≤ _
      omega
    · omega
  · show (zr1 _).2.1 1 = _
    rw [b2]
    refine a2 ?_
    rw [← zr1_1]
    exact y
theorem zrt_end (hG : GW G) (hF : ZNF G N) (hi : ∀ i, i < len → inp i ≤ zgT G ∨ inp i = 99) : ∀ n R, ZRI N R → (3 ≤ R.1 → R.2.1.1 1 + n = 301) → (zrt G N p md len inp n R).1 < 3 ∧ ZRI N (zrt G N p md len inp n R)
  | 0, R, h, hn => by
    refine ⟨Classical.byContradiction (fun y => ?_), h⟩
    have y : 3 ≤ R.1 := Nat.not_lt.mp y
    have := hn y
    have := h.1.2.2.2.2.2
    omega
  | n + 1, R, h, hn => by
    rw [zrt]
    by_cases y : R.1 < 3
    · rw [if_pos y]; exact ⟨y, h⟩
    · rw [if_neg y]
      obtain ⟨a, b⟩ := zrt1_I (p := p) (md := md) hG hF hi h
      exact zrt_end hG hF hi n _ a (fun z => by rw [b z]; have := hn (by omega); omega)
/-- two runs that begin alike end alike -/
def EqT (R S : ZRT) : Prop := R.1 = S.1 ∧ EqA R.2.1 S.2.1 ∧ (3 ≤ S.1 → SRI S.2.1) ∧ R.2.2.1 = S.2.2.1 ∧ ∀ i, i < R.2.2.1 → R.2.2.2 i = S.2.2.2 i
theorem zrt_eq (hG : GW G) (hF : ZNF G N) (hi : ∀ i, i < len → inp i ≤ zgT G ∨ inp i = 99) : ∀ n R S, ZRI N R → ZRI N S → EqT R S → EqT (zrt G N p md len inp n R) (zrt G N p md len inp n S)
  | 0, R, S, _, _, h => h
  | n + 1, R, S, hR, hS, h => by
    rw [zrt, zrt, ← h.1]
    by_cases y : R.1 < 3
    · rw [if_pos y, if_pos y]; exact h
    · rw [if_neg y, if_neg y]
      obtain ⟨h1, h2, h3, h4, h5⟩ := h
      have e : znx G len inp R.2.1 = znx G len inp S.2.1 := by unfold znx; rw [h2.1 2 (by omega)]
      obtain ⟨b1, b2, b3⟩ := EqA.ao (p := p) (md := md) hG hF hR.1 hS.1 (znx_ok hi S.2.1) h2 (h3 (by omega))
      refine zrt_eq hG hF hi n _ _ (zrt1_I hG hF hi hR).1 (zrt1_I hG hF hi hS).1 ?_
      unfold zrt1
      rw [e]
      refine ⟨by rw [zr1_1, zr1_1]; exact b1, b2, fun y => b3 (by rw [← zr1_1]; exact y), ?_, ?_⟩
      · dsimp only
        rw [zr1_1, zr1_1, b1]
        split
        · exact b2.1 0 (by omega)
        · exact h4
      · dsimp only
        rw [zr1_1, zr1_1, b1]
        split
        · exact b2.2.1
        · exact h5
end ZRt
/-- the class has kept this row -/
def XKp (K : Nat × (Nat → Int32)) (v : SX) : Prop := v.1 87 9 = nI K.1 ∧ ∀ i, i < K.1 → v.2.1 92 i = K.2 i
section XRun
variable {P : YP} {G : ZGT} {N : ZNM} {p : Int32} {X : ZRS} {u : SX} {md len : Nat} {inp : Nat → Nat}
theorem y_keepRow (h : XRd X u) (hd : X.1 0 ≤ 100) : EvQ (ZY P) mX8_keepRow [.ref 87] u (fun x v => x = none ∧ XRd X v ∧ XKp (X.1 0, X.2 0) v ∧ frX [(87, 9)] [92] u v) := by
  have e5 := h.1.1
  refine EQ_V vX8_keepRow rfl ?_
  refine RQ_n (ZY_ok P) 4 rfl trivial ?_
  rw [e5]
  obtain ⟨v1, hv1⟩ : ∃ x : SX, x = (updI u.1 87 9 (nI (X.1 0)), u.2) := ⟨_, rfl⟩
  show RnQ (ZY P) mX8_keepRow (8, _, _, ((updI u.1 87 9 (nI (X.1 0)), u.2) : SX)) _
  rw [← hv1]
  have f1 : frX [(87, 9)] [] u v1 := by rw [hv1]; exact frX.i 87 9 (by decide)
  have e9 : v1.1 87 9 = nI (X.1 0) := by rw [hv1]; rfl
  have e5' : v1.1 87 5 = nI (X.1 0) := (f1.1 87 5 (by decide)).trans e5
  have e89 : v1.2.1 89 = X.2 0 := (f1.2.1 89 (by decide)).trans h.2.1
  refine RQ_n (ZY_ok P) 8 rfl trivial ?_
  refine RQ_copy (s' := (v1.1, setA v1.2.1 92 (va_cpy (v1.2.1 89) (v1.2.1 92) 0 0 (X.1 0)), v1.2.2)) (i := 0) (j := 0) (n := X.1 0) (n0 := 100) (n1 := 100) (f := v1.2.1 89) (g := v1.2.1 92) rfl k8_88 rfl rfl rfl e5' rfl rfl (by show 89 < 3 * v1.2.2.2.2.1 + 99; omega) (by show 92 < 3 * v1.2.2.2.2.1 + 99; omega) (by omega) (by omega) ⟨by omega, by omega⟩ (y_cps rfl) ?_
  obtain ⟨v2, hv2⟩ : ∃ x : SX, x = (v1.1, setA v1.2.1 92 (va_cpy (v1.2.1 89) (v1.2.1 92) 0 0 (X.1 0)), v1.2.2) := ⟨_, rfl⟩
  rw [← hv2]
  have f2 : frX [] [92] v1 v2 := by rw [hv2]; exact frX.s 92 (by decide)
  have e92 : v2.2.1 92 = va_cpy (v1.2.1 89) (v1.2.1 92) 0 0 (X.1 0) := by rw [hv2]; show setA v1.2.1 92 (va_cpy (v1.2.1 89) (v1.2.1 92) 0 0 (X.1 0)) 92 = _; rw [setA_at]
  have F : frX [(87, 9)] [92] u v2 := (f1.up (by decide) (by decide)).tr (f2.up (by decide) (by decide))
  refine RQ_to (Rn_vret rfl rfl) ⟨rfl, h.fr F (by decide) (by decide), ⟨(f2.1 87 9 (by decide)).trans e9, fun i hi => ?_⟩, F⟩
  have hi : i < X.1 0 := hi
  rw [e92, e89]
  unfold va_cpy
  rw [if_pos ⟨by omega, by omega⟩, Nat.zero_add, Nat.sub_zero]
/-- how the class's reading begins -/
def xr0 (u : SX) : ZRS := zph (fun _ => 0, fun a => match a with | 0 => u.2.1 89 | 1 => u.2.1 90 | 3 => u.2.1 91 | 4 => u.2.1 93 | 5 => u.2.1 94 | 6 => u.2.1 95 | 8 => u.2.1 96 | _ => fun _ => 0) 0 0 0 0
theorem zph0_W (hN : 1 ≤ N.1) (a : Nat → Nat → Int32) : ZRW N (zph (fun _ => 0, a) 0 0 0 0) := by
  have e : ∀ i, i < 1 → (zph (fun _ => 0, a) 0 0 0 0).2 0 i = nI 0 := fun i hi => by
    rw [show i = 0 by omega, zph_row, upd_at]
  have er : zrw (zph (fun _ => 0, a) 0 0 0 0) 0 = 0 := by unfold zrw; rw [e 0 (by omega)]; exact nI_clamp (by omega)
  refine ⟨⟨Nat.le_refl _, by show 1 ≤ 100; omega⟩, er, fun i hi => ?_, fun i hi => ?_, Nat.le_refl _, Nat.zero_le _⟩
  · have hi : i < 1 := hi
    have h0 : i = 0 := by omega
    subst h0
    rw [er]; exact ⟨e 0 (by omega), hN⟩
  · have hi : i + 1 < 1 := hi
    omega
/-- what a run leaves -/
def XRn (R : ZRT) (v : SX) : Prop := v.1 87 11 = nI R.1 ∧ XRd R.2.1 v ∧ XKp R.2.2 v
noncomputable def xrt (G : ZGT) (N : ZNM) (p : Int32) (md len : Nat) (inp : Nat → Nat) (u : SX) : ZRT := zrt G N p md len inp 301 (3, xr0 u, (xr0 u).1 0, (xr0 u).2 0)
set_option maxHeartbeats 1000000 in
theorem y_run (hG : ZGX G u) (hF : ZNF G N) (hV : XV G N u) (hT : XT G N p u) (hmd3 : md < 3) (hlen : u.1 87 3 = nI len) (hl24 : len ≤ 24) (hinp : ∀ i, i < len → u.2.1 88 i = nI (inp i)) (hi : ∀ i, i < len → inp i ≤ zgT G ∨ inp i = 99) :
    EvQ (ZY P) mX8_run [.ref 87, .ref 47, .int (nI md)] u (fun x v => x = none ∧ XRn (xrt G N p md len inp u) v ∧ v.2.2.2.1 87 1 = .ref 47 ∧ v.1 87 2 = nI md ∧ (∀ b j, ¬ (b = 87 ∧ j ∈ [2, 5, 9, 11, 12, 13, 14]) → v.1 b j = u.1 b j) ∧ (∀ a, a ∉ [89, 90, 91, 92, 93, 94, 95, 96] → v.2.1 a = u.2.1 a) ∧ v.2.2.1 = u.2.2.1 ∧ v.2.2.2.1 = updW u.2.2.2.1 87 1 (.ref 47) ∧ v.2.2.2.2 = u.2.2.2.2) := by
  have hb := hG.b
  have hN1 := hF.1
  refine EQ_V vX8_run rfl ?_
  refine RQ_n (ZY_ok P) 2 rfl trivial ?_
  refine RQ_pr (s1 := (u.1, u.2.1, u.2.2.1, updW u.2.2.2.1 87 1 (.ref 47), u.2.2.2.2)) (ZY_ok P) rfl rfl rfl (show 87 < 3 * u.2.2.2.2.1 + 99 by omega) (show 1 < 19 by decide) rfl (fun _ => ⟨rfl, rfl⟩) rfl ?_
  refine RQ_n (ZY_ok P) 15 rfl trivial ?_
  obtain ⟨u1, hu1⟩ : ∃ x : SX, x = (updI (updI (updI (updI (updI u.1 87 2 (nI md)) 87 12 0) 87 13 0) 87 14 0) 87 5 0, u.2.1, u.2.2.1, updW u.2.2.2.1 87 1 (.ref 47), u.2.2.2.2) := ⟨_, rfl⟩
  show RnQ (ZY P) mX8_run (30, _, _, ((updI (updI (updI (updI (updI u.1 87 2 (nI md)) 87 12 0) 87 13 0) 87 14 0) 87 5 0, u.2.1, u.2.2.1, updW u.2.2.2.1 87 1 (.ref 47), u.2.2.2.2) : SX)) _
  rw [← hu1]
  -- what differs from u from here on
  have hI1 : ∀ b j, ¬ (b = 87 ∧ j ∈ [2, 5, 12, 13, 14]) → u1.1 b j = u.1 b j := fun b j hn => by
    rw [hu1]
    show updI (updI (updI (updI (updI u.1 87 2 (nI md)) 87 12 0) 87 13 0) 87 14 0) 87 5 0 b j = _
    by_cases y : b = 87
    · subst y
      have hj : j ∉ [2, 5, 12, 13, 14] := fun z => hn ⟨rfl, z⟩
      simp only [List.mem_cons, List.not_mem_nil, or_false] at hj
      rw [updI_eq, updS_ne (by omega), updI_eq, updS_ne (by omega), updI_eq, updS_ne (by omega), updI_eq, updS_ne (by omega), updI_eq, updS_ne (by omega)]
    · rw [updI_ne y, updI_ne y, updI_ne y, updI_ne y, updI_ne y]
  have hA1 : u1.2.1 = u.2.1 := by rw [hu1]
  have hL1 : u1.2.2.1 = u.2.2.1 := by rw [hu1]
  have hW1 : u1.2.2.2.1 = updW u.2.2.2.1 87 1 (.ref 47) := by rw [hu1]
  have hK1 : u1.2.2.2.2 = u.2.2.2.2 := by rw [hu1]
  have R0 : XRd (fun _ => 0, fun a => match a with | 0 => u.2.1 89 | 1 => u.2.1 90 | 3 => u.2.1 91 | 4 => u.2.1 93 | 5 => u.2.1 94 | 6 => u.2.1 95 | 8 => u.2.1 96 | _ => fun _ => 0) u1 := by
    rw [hu1]
    exact ⟨⟨rfl, rfl, rfl, rfl⟩, rfl, rfl, rfl, rfl, rfl, rfl, rfl⟩
  refine RQ_n (ZY_ok P) 4 rfl trivial ?_
  refine RQ_V vX8_push (y_push R0 (show 0 < 100 by omega) 0 0 0 0) rfl k8_66 rfl rfl rfl (zy87 _ rfl) (fun _ s1 q => by show 3 * s1.2.2.2.2.1 + 99 = 3 * u1.2.2.2.2.1 + 99; rw [q.2.2.2.2]) ?_
  rintro r2 u2 ⟨rfl, R2, f2⟩
  have R2 : XRd (xr0 u) u2 := R2
  have W0 : ZRW N (xr0 u) := zph0_W hN1.1 _
  refine RQ_n (ZY_ok P) 1 rfl trivial ?_
  refine RQ_V vX8_keepRow (y_keepRow R2 W0.1.2) rfl k8_70 rfl rfl rfl (zy87 _ rfl) (fun _ s1 q => by show 3 * s1.2.2.2.2.1 + 99 = 3 * u2.2.2.2.2.1 + 99; rw [q.2.2.2.2.2]) ?_
  rintro r3 u3 ⟨rfl, R3, K3, f3⟩
  refine RQ_n (ZY_ok P) 5 rfl trivial ?_
  obtain ⟨u4, hu4⟩ : ∃ x : SX, x = (updI u3.1 87 11 3, u3.2) := ⟨_, rfl⟩
  show RnQ (ZY P) mX8_run (48, _, _, ((updI u3.1 87 11 3, u3.2) : SX)) _
  rw [← hu4]
  have f4 : frX [(87, 11)] [] u3 u4 := by rw [hu4]; exact frX.i 87 11 (by decide)
  have F4 : frX [(87, 5), (87, 9), (87, 11)] [89, 90, 91, 92] u1 u4 := ((f2.up (by decide) (by decide)).tr (f3.up (by decide) (by decide))).tr (f4.up (by decide) (by decide))
  have N4 : XRn (3, xr0 u, (xr0 u).1 0, (xr0 u).2 0) u4 := ⟨by rw [hu4]; rfl, R3.fr f4 (by decide) (by decide), by rw [show u4.1 87 9 = u3.1 87 9 from f4.1 87 9 (by decide)]; exact K3.1, fun i hi => by rw [f4.2.1 92 (by decide)]; exact K3.2 i hi⟩
  have key : ∀ n i R v, i + n = 301 → R.1 ≤ 4 → (3 ≤ R.1 → R.2.1.1 1 + n = 301) → ZRI N R → zrt G N p md len inp n R = xrt G N p md len inp u → XRn R v → frX [(87, 5), (87, 9), (87, 11), (87, 12), (87, 13), (87, 14)] [89, 90, 91, 92, 93, 94, 95, 96] u1 v → RnQ (ZY P) mX8_run (48, [some (.ref 87), some (.ref 47), some (.int (nI md)), some (.int (nI i))], [], v) (fun x v => x = none ∧ XRn (xrt G N p md len inp u) v ∧ v.2.2.2.1 87 1 = .ref 47 ∧ v.1 87 2 = nI md ∧ (∀ b j, ¬ (b = 87 ∧ j ∈ [2, 5, 9, 11, 12, 13, 14]) → v.1 b j = u.1 b j) ∧ (∀ a, a ∉ [89, 90, 91, 92, 93, 94, 95, 96] → v.2.1 a = u.2.1 a) ∧ v.2.2.1 = u.2.2.1 ∧ v.2.2.2.1 = updW u.2.2.2.1 87 1 (.ref 47) ∧ v.2.2.2.2 = u.2.2.2.2) := by
    intro n
    induction n with
    | zero =>
      intro i R v hin hle hst hI he hX hf
      have hlt := (zrt_end (p := p) (md := md) hG.1 hF hi 0 R hI hst).1
      have hlt : R.1 < 3 := hlt
      refine RQ_n (ZY_ok P) 3 rfl trivial ?_
      rw [hX.1]
      refine RQ_b rfl (fun _ => ?_) (fun z => absurd ((zq_lt (a := R.1) (b := 3) rfl rfl (by omega) (by omega)).mpr hlt) z)
      refine RQ_to (Rn_vret rfl rfl) ⟨rfl, by rw [← he]; exact hX, by rw [hf.2.2, hW1]; rfl, (hf.1 87 2 (by decide)).trans (by rw [hu1]; rfl), fun b j hn => ?_, fun a ha => by rw [hf.2.1 a ha, hA1], by rw [hf.2.2, hL1], by rw [hf.2.2, hW1], by rw [hf.2.2, hK1]⟩
      rw [hf.1 b j (fun y => hn ?_), hI1 b j (fun y => hn ⟨y.1, by have := y.2; simp only [List.mem_cons, List.not_mem_nil, or_false] at this ⊢; omega⟩)]
      simp only [List.mem_cons, List.not_mem_nil, or_false, Prod.mk.injEq] at y ⊢; omega
    | succ n ih =>
      intro i R v hin hle hst hI he hX hf
      have Gv : ZGX G v := by
        have g1 : ZGX G u1 := by
          unfold ZGX at hG ⊢
          rw [hI1 3 0 (by simp), hI1 3 1 (by simp), hI1 3 2 (by simp), hI1 3 3 (by simp), hA1]
          exact hG
        exact g1.fr hf rfl
      have hVu1 : XV G N u1 := by
        obtain ⟨x1, sl, kc, x2, x3⟩ := hV
        refine ⟨(hI1 36 10 (by simp)).trans x1, sl, kc, fun k hk => ?_, fun k hk b hb => by rw [hA1]; exact x3 k hk b hb⟩
        obtain ⟨b1, b2, b3, b4, b5, b6⟩ := x2 k hk
        have h99 : 99 ≤ kc k := b4.1
        refine ⟨b1, by rw [hA1]; exact b2, by rw [hK1]; exact b3, by rw [hK1]; exact b4, b5.fr (hI1 _ _ (by omega)) (by rw [hA1]) (by rw [hA1]), ?_⟩
        have : yO (sl k) u1 = yO (sl k) u := by unfold yO; rw [hA1]
        rw [this]; exact b6
      have Vv : XV G N v := hVu1.fr hf (by decide) (by decide)
      have hTu1 : XT G N p u1 := by unfold XT at hT ⊢; rw [hA1]; exact hT
      have Tv : XT G N p v := hTu1.fr hf (by decide)
      refine RQ_n (ZY_ok P) 3 rfl trivial ?_
      rw [hX.1]
      by_cases y : R.1 < 3
      · rw [zrt, if_pos y] at he
        refine RQ_b rfl (fun _ => ?_) (fun z => absurd ((zq_lt (a := R.1) (b := 3) rfl rfl (by omega) (by omega)).mpr y) z)
        refine RQ_to (Rn_vret rfl rfl) ⟨rfl, by rw [← he]; exact hX, by rw [hf.2.2, hW1]; rfl, (hf.1 87 2 (by decide)).trans (by rw [hu1]; rfl), fun b j hn => ?_, fun a ha => by rw [hf.2.1 a ha, hA1], by rw [hf.2.2, hL1], by rw [hf.2.2, hW1], by rw [hf.2.2, hK1]⟩
        rw [hf.1 b j (fun y => hn ?_), hI1 b j (fun y => hn ⟨y.1, by have := y.2; simp only [List.mem_cons, List.not_mem_nil, or_false] at this ⊢; omega⟩)]
        simp only [List.mem_cons, List.not_mem_nil, or_false, Prod.mk.injEq] at y ⊢; omega
      rw [zrt, if_neg y] at he
      refine RQ_b rfl (fun z => absurd ((zq_lt (a := R.1) (b := 3) rfl rfl (by omega) (by omega)).mp z) y) (fun _ => ?_)
      refine RQ_n (ZY_ok P) 2 rfl trivial ?_
      refine RQ_b rfl (fun z => ?_) (fun _ => ?_)
      · have := (zq_lt (a := 300) (b := i) rfl rfl (by omega) (by omega)).mp z
        omega
      obtain ⟨hX1, hX2, hX3⟩ := hX
      have e13 : v.1 87 13 = nI (R.2.1.1 2) := hX2.1.2.2.1
      have e3 : v.1 87 3 = nI len := by rw [hf.1 87 3 (by decide), hI1 87 3 (by simp)]; exact hlen
      have htab : v.2.2.2.1 87 1 = .ref 47 := by rw [hf.2.2, hW1]; rfl
      have hmd : v.1 87 2 = nI md := (hf.1 87 2 (by decide)).trans (by rw [hu1]; rfl)
      have htk := znx_ok (G := G) hi R.2.1
      obtain ⟨tk, htke⟩ : ∃ tk, tk = znx G len inp R.2.1 := ⟨_, rfl⟩
      rw [← htke] at htk
      have hrd : R.2.1.1 2 < 2 ^ 31 := by have h1 := hI.2.2; have h2 := hI.1.2.2.2.2.2; omega
      -- behind the sign
      have p95 : RnQ (ZY P) mX8_run (95, [some (.ref 87), some (.ref 47), some (.int (nI md)), some (.int (nI i))], [.int (nI tk), .ref 87, .ref 87], v) (fun x v => x = none ∧ XRn (xrt G N p md len inp u) v ∧ v.2.2.2.1 87 1 = .ref 47 ∧ v.1 87 2 = nI md ∧ (∀ b j, ¬ (b = 87 ∧ j ∈ [2, 5, 9, 11, 12, 13, 14]) → v.1 b j = u.1 b j) ∧ (∀ a, a ∉ [89, 90, 91, 92, 93, 94, 95, 96] → v.2.1 a = u.2.1 a) ∧ v.2.2.1 = u.2.2.1 ∧ v.2.2.2.1 = updW u.2.2.2.1 87 1 (.ref 47) ∧ v.2.2.2.2 = u.2.2.2.2) := by
        refine RQ_V vX8_step (y_step (p := p) Gv hF Vv Tv htab hmd hmd3 hX2 hI.1 htk) rfl k8_81 rfl rfl rfl (zy87 _ rfl) (fun _ s1 q => by show 3 * s1.2.2.2.2.1 + 99 = 3 * v.2.2.2.2.1 + 99; rw [q.2.2.2.2]) ?_
        rintro r5 v5 ⟨rfl, R5, f5⟩
        obtain ⟨a1, a2⟩ := zrt1_I (p := p) (md := md) hG.1 hF hi hI
        have hle' : (zrt1 G N p md len inp R).1 ≤ 4 := by show (zr1 _).1 ≤ 4; rw [zr1_1]; exact zao_le
        have hst' : 3 ≤ (zrt1 G N p md len inp R).1 → (zrt1 G N p md len inp R).2.1.1 1 + n = 301 := fun z => by rw [a2 z]; have := hst (by omega); omega
        obtain ⟨e, hee⟩ : ∃ e, e = (zao G N p md tk R.2.1).1 := ⟨_, rfl⟩
        have he4 : e ≤ 4 := by rw [hee]; exact zao_le
        rw [← hee]
        have e1 : (zrt1 G N p md len inp R).1 = e := by show (zr1 _).1 = e; rw [zr1_1, ← htke, hee]
        refine RQ_n (ZY_ok P) 1 rfl trivial ?_
        obtain ⟨v6, hv6⟩ : ∃ x : SX, x = (updI v5.1 87 11 (nI e), v5.2) := ⟨_, rfl⟩
        show RnQ (ZY P) mX8_run (101, _, _, ((updI v5.1 87 11 (nI e), v5.2) : SX)) _
        rw [← hv6]
        have f6 : frX [(87, 11)] [] v5 v6 := by rw [hv6]; exact frX.i 87 11 (by decide)
        have e11 : v6.1 87 11 = nI e := by rw [hv6]; rfl
        have R6 : XRd (zao G N p md tk R.2.1).2 v6 := R5.fr f6 (by decide) (by decide)
        have F6 : frX [(87, 5), (87, 11), (87, 12), (87, 14)] [89, 90, 91, 93, 94, 95, 96] v v6 := (f5.up (by decide) (by decide)).tr (f6.up (by decide) (by decide))
        have K6 : XKp R.2.2 v6 := ⟨(F6.1 87 9 (by decide)).trans hX3.1, fun j hj => by rw [F6.2.1 92 (by decide)]; exact hX3.2 j hj⟩
        have U6 := hf.tr (F6.up (by decide) (by decide))
        refine RQ_n (ZY_ok P) 3 rfl trivial ?_
        rw [e11]
        by_cases q : e = 4
        · refine RQ_b rfl (fun z => absurd ((zq_eq (a := e) (b := 4) rfl rfl (by omega) (by omega)).mpr q) z) (fun _ => ?_)
          refine RQ_n (ZY_ok P) 6 rfl trivial ?_
          have e13' : v6.1 87 13 = nI ((zao G N p md tk R.2.1).2.1 2) := R6.1.2.2.1
          rw [e13', show nI ((zao G N p md tk R.2.1).2.1 2) + 1 = nI ((zao G N p md tk R.2.1).2.1 2 + 1) from nI_add _ 1]
          obtain ⟨v7, hv7⟩ : ∃ x : SX, x = (updI v6.1 87 13 (nI ((zao G N p md tk R.2.1).2.1 2 + 1)), v6.2) := ⟨_, rfl⟩
          show RnQ (ZY P) mX8_run (119, _, _, ((updI v6.1 87 13 (nI ((zao G N p md tk R.2.1).2.1 2 + 1)), v6.2) : SX)) _
          rw [← hv7]
          have f7 : frX [(87, 13)] [] v6 v7 := by rw [hv7]; exact frX.i 87 13 (by decide)
          have ez : zr1 (zao G N p md tk R.2.1) = (4, (updN (zao G N p md tk R.2.1).2.1 2 ((zao G N p md tk R.2.1).2.1 2 + 1), (zao G N p md tk R.2.1).2.2)) := by unfold zr1; rw [if_pos (by rw [← hee]; exact q)]
          have R7 : XRd (zr1 (zao G N p md tk R.2.1)).2 v7 := by
            rw [ez]
            obtain ⟨⟨j1, j2, j3, j4⟩, b⟩ := R6
            refine ⟨⟨(f7.1 87 5 (by decide)).trans j1, (f7.1 87 12 (by decide)).trans j2, by rw [hv7]; rfl, (f7.1 87 14 (by decide)).trans j4⟩, ?_⟩
            rw [show v7.2 = v6.2 by rw [hv7]]
            exact b
          have hd7 : (zr1 (zao G N p md tk R.2.1)).2.1 0 ≤ 100 := by have := a1.1.1.2; unfold zrt1 at this; rw [← htke] at this; exact this
          refine RQ_n (ZY_ok P) 1 rfl trivial ?_
          refine RQ_V vX8_keepRow (y_keepRow R7 hd7) rfl k8_70 rfl rfl rfl (zy87 _ rfl) (fun _ s1 q => by show 3 * s1.2.2.2.2.1 + 99 = 3 * v7.2.2.2.2.1 + 99; rw [q.2.2.2.2.2]) ?_
          rintro r8 v8 ⟨rfl, R8, K8, f8⟩
          refine RQ_n (ZY_ok P) 2 rfl trivial ?_
          rw [show nI i + 1 = nI (i + 1) from nI_add i 1]
          refine ih (i + 1) _ v8 (by omega) hle' hst' a1 he ⟨?_, ?_, ?_⟩ (U6.tr ((f7.up (by decide) (by decide)).tr (f8.up (by decide) (by decide))))
          · rw [e1, f8.1 87 11 (by decide), f7.1 87 11 (by decide)]; exact e11
          · unfold zrt1; rw [← htke]; exact R8
          · unfold zrt1; rw [← htke]; dsimp only
            rw [if_pos (by rw [zr1_1, ← hee]; exact q)]; exact K8
        · refine RQ_b rfl (fun _ => ?_) (fun z => absurd ((zq_eq (a := e) (b := 4) rfl rfl (by omega) (by omega)).mp (Classical.not_not.mp z)) q)
          have ez : zr1 (zao G N p md tk R.2.1) = zao G N p md tk R.2.1 := by unfold zr1; rw [if_neg (by rw [← hee]; exact q)]
          refine RQ_n (ZY_ok P) 2 rfl trivial ?_
          rw [show nI i + 1 = nI (i + 1) from nI_add i 1]
          refine ih (i + 1) _ v6 (by omega) hle' hst' a1 he ⟨?_, ?_, ?_⟩ U6
          · rw [e1]; exact e11
          · unfold zrt1; rw [← htke, ez]; exact R6
          · unfold zrt1; rw [← htke]; dsimp only
            rw [if_neg (by rw [zr1_1, ← hee]; exact q)]; exact K6
      refine RQ_n (ZY_ok P) 6 rfl trivial ?_
      rw [e13, e3]
      by_cases q : R.2.1.1 2 < len
      · refine RQ_b rfl (fun z => ?_) (fun _ => ?_)
        · have := (zq_le (a := len) (b := R.2.1.1 2) rfl rfl (by omega) (by omega)).mp z
          omega
        refine RQ_n (ZY_ok P) 4 rfl trivial ?_
        rw [e13]
        refine RQ_n (ZY_ok P) 1 rfl ⟨nI_in (by omega) (by omega), trivial⟩ ?_
        rw [nI_clamp (show R.2.1.1 2 < 2 ^ 31 by omega), show v.2.1 88 (R.2.1.1 2) = nI tk by rw [hf.2.1 88 (by decide), hA1, hinp _ q, htke]; unfold znx; rw [if_pos q]]
        refine RQ_n (ZY_ok P) 1 rfl trivial ?_
        exact p95
      · refine RQ_b rfl (fun _ => ?_) (fun z => absurd ((zq_le (a := len) (b := R.2.1.1 2) rfl rfl (by omega) (by omega)).mpr (by omega)) z)
        refine RQ_n (ZY_ok P) 3 rfl trivial ?_
        rw [Gv.2.1.2.2, show zgT G = tk by rw [htke]; unfold znx; rw [if_neg q]]
        exact p95
  exact key 301 0 _ u4 (by omega) (show 3 ≤ 4 by omega) (fun _ => rfl) ⟨W0, W0.k, Nat.le_refl _⟩ rfl N4 (F4.up (by decide) (by decide))
end XRun
