section ZCalls
variable {S : Type} {Z : ZW S} {M M' : MD} {pc nx n tg : Nat} {i : Instr} {v : Int32} {l l' : List (Option Value)} {st st' : List Value} {s s' sE s1 : S} {r r1 : Option Value}
theorem zbi_ok {c : Jvm.ClassFile.Cond} {off : Int} {x y : Int32} (hfe : zfe M pc = some (.if_icmp c off, 3, nx, tg, v)) (ht : zbx c x y → Rn Z M (tg, l, st, s) r sE) (hf : ¬ zbx c x y → Rn Z M (nx, l, st, s) r sE) : Rn Z M (pc, l, .int y :: .int x :: st, s) r sE := by
  by_cases hc : zbx c x y
  · refine Rn_pure (fun p l0 e R s0 m args below meth c0 H locs cells slots Q ls A dC dI dA ad hC hH hl w => ?_) (ht hc)
    obtain ⟨hd, rfl, hk⟩ := zD hC hfe
    have hg : (pc : Int) + off = (tg : Int) := of_decide_eq_true hk
    cases c with
    | eq => exact lv_icmp_eq hC.1 hC.2.1 hd hg (fun _ => w) (fun q => absurd hc q)
    | ne => exact lv_icmp_ne hC.1 hC.2.1 hd hg (fun _ => w) (fun q => absurd q hc)
    | lt => exact lv_icmp_lt hC.1 hC.2.1 hd hg (fun _ => w) (fun q => absurd hc q)
    | ge => exact lv_icmp_ge hC.1 hC.2.1 hd hg (fun _ => w) (fun q => absurd hc q)
    | gt => exact lv_icmp_gt hC.1 hC.2.1 hd hg (fun _ => w) (fun q => absurd hc q)
    | le => exact lv_icmp_le hC.1 hC.2.1 hd hg (fun _ => w) (fun q => absurd hc q)
  · refine Rn_pure (fun p l0 e R s0 m args below meth c0 H locs cells slots Q ls A dC dI dA ad hC hH hl w => ?_) (hf hc)
    obtain ⟨hd, rfl, hk⟩ := zD hC hfe
    have hg : (pc : Int) + off = (tg : Int) := of_decide_eq_true hk
    cases c with
    | eq => exact lv_icmp_eq hC.1 hC.2.1 hd hg (fun q => absurd q hc) (fun _ => w)
    | ne => exact lv_icmp_ne hC.1 hC.2.1 hd hg (fun q => absurd q hc) (fun _ => w)
    | lt => exact lv_icmp_lt hC.1 hC.2.1 hd hg (fun q => absurd q hc) (fun _ => w)
    | ge => exact lv_icmp_ge hC.1 hC.2.1 hd hg (fun q => absurd q hc) (fun _ => w)
    | gt => exact lv_icmp_gt hC.1 hC.2.1 hd hg (fun q => absurd q hc) (fun _ => w)
    | le => exact lv_icmp_le hC.1 hC.2.1 hd hg (fun q => absurd q hc) (fun _ => w)
theorem zbc_ok {c : Jvm.ClassFile.Cond} {off : Int} {x : Int32} (hfe : zfe M pc = some (.ifCond c off, 3, nx, tg, v)) (ht : zbx c x 0 → Rn Z M (tg, l, st, s) r sE) (hf : ¬ zbx c x 0 → Rn Z M (nx, l, st, s) r sE) : Rn Z M (pc, l, .int x :: st, s) r sE := by
  by_cases hc : zbx c x 0
  · refine Rn_pure (fun p l0 e R s0 m args below meth c0 H locs cells slots Q ls A dC dI dA ad hC hH hl w => ?_) (ht hc)
    obtain ⟨hd, rfl, hk⟩ := zD hC hfe
    have hg : (pc : Int) + off = (tg : Int) := of_decide_eq_true hk
    cases c with
    | eq => exact lv_if_eq hC.1 hC.2.1 hd hg (fun _ => w) (fun q => absurd hc q)
    | ne => exact lv_if_ne hC.1 hC.2.1 hd hg (fun _ => w) (fun q => absurd q hc)
    | lt => exact lv_if_lt hC.1 hC.2.1 hd hg (fun _ => w) (fun q => absurd hc q)
    | ge => exact lv_if_ge hC.1 hC.2.1 hd hg (fun _ => w) (fun q => absurd hc q)
    | gt => exact lv_if_gt hC.1 hC.2.1 hd hg (fun _ => w) (fun q => absurd hc q)
    | le => exact lv_if_le hC.1 hC.2.1 hd hg (fun _ => w) (fun q => absurd hc q)
  · refine Rn_pure (fun p l0 e R s0 m args below meth c0 H locs cells slots Q ls A dC dI dA ad hC hH hl w => ?_) (hf hc)
    obtain ⟨hd, rfl, hk⟩ := zD hC hfe
    have hg : (pc : Int) + off = (tg : Int) := of_decide_eq_true hk
    cases c with
    | eq => exact lv_if_eq hC.1 hC.2.1 hd hg (fun q => absurd q hc) (fun _ => w)
    | ne => exact lv_if_ne hC.1 hC.2.1 hd hg (fun q => absurd q hc) (fun _ => w)
    | lt => exact lv_if_lt hC.1 hC.2.1 hd hg (fun q => absurd q hc) (fun _ => w)
    | ge => exact lv_if_ge hC.1 hC.2.1 hd hg (fun q => absurd q hc) (fun _ => w)
    | gt => exact lv_if_gt hC.1 hC.2.1 hd hg (fun q => absurd q hc) (fun _ => w)
    | le => exact lv_if_le hC.1 hC.2.1 hd hg (fun q => absurd q hc) (fun _ => w)
/-- a branch -/
theorem Rn_br {f fa fb : ZF S} {c : Prop} (h : zbr M f = some (c, fa, fb)) (ht : c → Rn Z M fa r sE) (hf : ¬ c → Rn Z M fb r sE) : Rn Z M f r sE := by
  obtain ⟨pc, l, st, s⟩ := f
  unfold zbr at h
  dsimp only at h
  split at h
  · rename_i c0 off nx tg v hfe
    split at h
    · cases h
      exact zbi_ok hfe ht hf
    · cases h
  · rename_i c0 off nx tg v hfe
    split at h
    · cases h
      exact zbc_ok hfe ht hf
    · cases h
  · cases h
/-- what a return gives -/
theorem zend {dC : Nat → ClassId} {dI : Nat → Nat → Nat} {dA : Nat → ClassId} {ad ad0 : Nat → Nat} {nn : Nat} {A : Nat → Prop} {s0 : State} {H : Heap} {locs : List Loc} {args : Array Value} (hH : ZH Z dC dI dA ad A s0 H locs s) (ha : nn ≤ Z.2.1 s ∧ ∀ k, k < nn → ad k = ad0 k) (r : Option Value) (t : State) (ht : t.heap = H) (hW : s0.WarmedH t.vm) : zQ Z dC dI dA ad0 nn A r s args s0 (.returned (r.map (ze ad))) t :=
  ⟨⟨ad, ha.2, hH.2.2.2.2.2, rfl, by rw [ht]; exact hH.1, va_K.moved hW.alike hH.2.1, hH.2.2.1⟩, hH.2.2.2.1.F ht⟩
theorem Rn_iret {x : Int32} (hfe : zfe M pc = some (.ireturn, 1, nx, tg, v)) (hr : M.2.2.2.2.1 = some .int) : Rn Z M (pc, l, [.int x], s) (some (.int x)) s := by
  refine ⟨⟨Nat.le_refl _, Nat.le_refl _⟩, ?_⟩
  intro p l0 e R s0 m args below meth c H locs ls A dC dI dA ad ad0 nn k0 n0 hC hR hH hlv ha hk
  exact W.iret (v := x) hC.1 hC.2.1 (hC.2.2.2.1.trans hr) (fun t ht hW => zend hH ha (some (.int x)) t ht hW) hH.2.2.2.1.2.2 (zD hC hfe).1 hC.2.2.2.2.2.2.1
theorem Rn_zret {x : Int32} (hfe : zfe M pc = some (.ireturn, 1, nx, tg, v)) (hr : M.2.2.2.2.1 = some .boolean) (hx : x = 0 ∨ x = 1) : Rn Z M (pc, l, [.int x], s) (some (.int x)) s := by
  refine ⟨⟨Nat.le_refl _, Nat.le_refl _⟩, ?_⟩
  intro p l0 e R s0 m args below meth c H locs ls A dC dI dA ad ad0 nn k0 n0 hC hR hH hlv ha hk
  exact W.zret (v := x) (ty := .boolean) hC.1 hC.2.1 (hC.2.2.2.1.trans hr) (by rcases hx with rfl | rfl <;> rfl) (fun t ht hW => zend hH ha (some (.int x)) t ht hW) hH.2.2.2.1.2.2 (zD hC hfe).1 hC.2.2.2.2.2.2.1
theorem Rn_vret (hfe : zfe M pc = some (.return_, 1, nx, tg, v)) (hr : M.2.2.2.2.1 = none) : Rn Z M (pc, l, [], s) none s := by
  refine ⟨⟨Nat.le_refl _, Nat.le_refl _⟩, ?_⟩
  intro p l0 e R s0 m args below meth c H locs ls A dC dI dA ad ad0 nn k0 n0 hC hR hH hlv ha hk
  exact W.vret hC.1 hC.2.1 (hC.2.2.2.1.trans hr) (fun t ht hW => zend hH ha none t ht hW) hH.2.2.2.1.2.2 (zD hC hfe).1 hC.2.2.2.2.2.2.1
theorem Rn_aret {a : Nat} {C : String} (hfe : zfe M pc = some (.areturn, 1, nx, tg, v)) (hr : M.2.2.2.2.1 = some (.object C)) : Rn Z M (pc, l, [.ref a], s) (some (.ref a)) s := by
  refine ⟨⟨Nat.le_refl _, Nat.le_refl _⟩, ?_⟩
  intro p l0 e R s0 m args below meth c H locs ls A dC dI dA ad ad0 nn k0 n0 hC hR hH hlv ha hk
  exact W.aret (v := .ref (ad a)) (rt := .object C) hC.1 hC.2.1 (hC.2.2.2.1.trans hr) (Or.inl ⟨C, rfl⟩) (Or.inr ⟨_, rfl⟩) (fun t ht hW => zend hH ha (some (.ref a)) t ht hW) hH.2.2.2.1.2.2 (zD hC hfe).1 hC.2.2.2.2.2.2.1
/-- the locals with which a method begins -/
def zarg : List Value → List (Option Value)
  | [] => []
  | v :: vs => bif Nat.beq v.category 2 then some v :: none :: zarg vs else some v :: zarg vs
def zargs (nL : Nat) (as : List Value) : List (Option Value) := zarg as ++ List.replicate (nL - (zarg as).length) none
theorem zarg_sl (ad : Nat → Nat) : ∀ as : List Value, (lg_sl (as.map (ze ad))).length = (zarg as).length
  | [] => rfl
  | v :: vs => by
    have ih := zarg_sl ad vs
    have hc := ze_cat ad v
    unfold lg_sl at ih ⊢
    simp only [List.map_cons, List.flatMap_cons, List.length_append, ih, zarg, hc]
    cases hb : Nat.beq v.category 2 with
    | true =>
      rw [if_pos (Nat.eq_of_beq_eq_true hb)]
      simp only [cond_true, List.length_cons, List.length_nil]
      omega
    | false =>
      rw [if_neg (fun q => by rw [q] at hb; cases hb)]
      simp only [cond_false, List.length_cons, List.length_nil]
      omega
theorem zarg_at (ad : Nat → Nat) : ∀ (as : List Value) (o i : Nat) (w : Value), (zarg as)[i]? = some (some w) → (o + i, ze ad w) ∈ lv_args o (as.map (ze ad))
  | [], o, i, w, h => by simp [zarg] at h
  | v :: vs, o, i, w, h => by
    unfold zarg at h
    cases hb : Nat.beq v.category 2 with
    | true =>
      rw [hb] at h
      have hc : (ze ad v).category = 2 := by rw [ze_cat]; exact Nat.eq_of_beq_eq_true hb
      simp only [cond_true] at h
      match i, h with
      | 0, h => simp at h; subst h; exact List.mem_cons_self
      | 1, h => simp at h
      | i + 2, h =>
        simp only [List.getElem?_cons_succ] at h
        have h2 := zarg_at ad vs (o + 2) i w h
        simp only [List.map_cons, lv_args, hc, if_true]
        refine List.mem_cons_of_mem _ ?_
        have e : o + (i + 2) = o + 2 + i := by omega
        rw [e]
        exact h2
    | false =>
      rw [hb] at h
      have hc : ¬ (ze ad v).category = 2 := by rw [ze_cat]; intro q; rw [q] at hb; cases hb
      simp only [cond_false] at h
      match i, h with
      | 0, h => simp at h; subst h; exact List.mem_cons_self
      | i + 1, h =>
        simp only [List.getElem?_cons_succ] at h
        have h2 := zarg_at ad vs (o + 1) i w h
        simp only [List.map_cons, lv_args, hc, if_false]
        refine List.mem_cons_of_mem _ ?_
        have e : o + (i + 1) = o + 1 + i := by omega
        rw [e]
        exact h2
/-- a method, called with these arguments in this world, answers r and leaves that world -/
def Ev (Z : ZW S) (M : MD) (as : List Value) (s : S) (r : Option Value) (s' : S) : Prop :=
  (Z.2.1 s ≤ Z.2.1 s' ∧ Z.2.2.1 s ≤ Z.2.2.1 s') ∧ ∀ (l : Launch) (dC : Nat → ClassId) (dI : Nat → Nat → Nat) (dA : Nat → ClassId) (ad : Nat → Nat) (sz : Nat),
    Met l M.2.1 (Cond.code M.2.1 M.2.2.1 M.2.2.2.1 M.2.2.2.2.1 :: zT) ({ frames := M.2.2.2.2.2.1.1, cells := Z.2.1 s' - Z.2.1 s, slots := Z.2.2.1 s' - Z.2.2.1 s, locals := M.2.2.2.2.2.1.2.1 })
      (va_Pc (as.map (ze ad)) (fun U => U.heap.size = sz ∧ va_P (dC, dI) vwCl (zws Z dA ad s) U.heap ∧ va_K (dC, dI) vwCl (ztys dA) U ∧ va_D (fun _ => True) (zws Z dA ad s) ∧ (∀ k, Z.2.1 s ≤ k → ad k = 0) ∧ zNf U))
      (zQ Z dC dI dA ad (Z.2.1 s) (va_A (zws Z dA ad s) sz) r s') (Z.2.1 s' - Z.2.1 s) (Z.2.2.1 s' - Z.2.2.1 s) (va_A (zws Z dA ad s) sz)
theorem Ev_of {as : List Value} (hM : ZMo M) (hp : plainName M.2.1.cls = true) (hn : Nat.ble (zarg as).length M.2.2.2.1 = true) (h : Rn Z M (0, zargs M.2.2.2.1 as, [], s) r s') : Ev Z M as s r s' := by
  refine ⟨h.1, ?_⟩
  intro l dC dI dA ad sz
  refine Met.ofW (cc := M.2.2.1) (maxL := M.2.2.2.1) (ret := M.2.2.2.2.1) hp rfl ?_
  intro p e s0 m args below meth c s₁ B hml hv
  obtain ⟨rfl, hsz, hP, hK, hD0, had, hNf⟩ := hv
  have hts : ∀ w ∈ zT, w.before _ s0 = true := fun w hw => atoms_spec (ws := Cond.code M.2.1 M.2.2.1 M.2.2.2.1 M.2.2.2.2.1 :: zT) B.pre w (List.mem_cons_of_mem _ hw)
  have hown : s0.vm.findClass M.2.1.cls = some m.cls := findClass_of_methodNamed B.named
  have hle : (zarg as).length ≤ M.2.2.2.1 := Nat.le_of_ble_eq_true hn
  have hl0 := lv_entry (as.map (ze ad)) (n := M.2.2.2.1) (by rw [zarg_sl]; exact hle)
  rw [lg_entry_eq]
  generalize (lg_sl (as.map (ze ad)) ++ List.replicate (M.2.2.2.1 - (lg_sl (as.map (ze ad))).length) Slot.unset).toArray = ls at hl0 ⊢
  subst hsz
  have hlv : zlv ad ls M.2.2.2.1 (zargs M.2.2.2.1 as) := by
    refine ⟨by simp [zargs]; omega, hl0.1, hl0.2.1, fun i w hi => ?_⟩
    have h1 : (zarg as)[i]? = some (some w) := by
      unfold zargs at hi
      by_cases q : i < (zarg as).length
      · rw [List.getElem?_append_left q] at hi; exact hi
      · rw [List.getElem?_append_right (Nat.le_of_not_lt q)] at hi
        have := List.eq_of_mem_replicate (List.mem_of_getElem? hi)
        cases this
    have h2 := zarg_at ad as 0 i w h1
    rw [Nat.zero_add] at h2
    exact hl0.2.2 _ h2
  have key := h.2 p l e (headSpec (Cond.code M.2.1 M.2.2.1 M.2.2.2.1 M.2.2.2.2.1 :: zT) ({ frames := M.2.2.2.2.2.1.1, cells := Z.2.1 s' - Z.2.1 s, slots := Z.2.2.1 s' - Z.2.2.1 s, locals := M.2.2.2.2.2.1.2.1 })).room s0 m (as.map (ze ad)).toArray below meth c s0.heap [] ls (va_A (zws Z dA ad s) s0.heap.size) dC dI dA ad ad (Z.2.1 s) (Z.2.1 s) (Z.2.2.1 s)
    ⟨B.exec, B.bytes, hml, B.returns, hts, hown, B.notSynchronized, hM, (name_of_methodNamed B.named B.method).1, hNf⟩ ⟨Nat.le_refl _, Nat.le_refl _, Nat.le_refl _, Nat.le_refl _⟩ ⟨hP, hK, hD0.self, va_S.rf, fun q hq => Or.inr hq, had⟩ hlv ⟨Nat.le_refl _, fun _ _ => rfl⟩ ⟨Nat.le_refl _, Nat.le_refl _⟩
  dsimp only at key
  rw [Nat.sub_self, Nat.sub_self] at key
  exact key
end ZCalls
