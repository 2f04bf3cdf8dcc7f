/-! counts: the class, the reference. -/
def zsm (f : Nat → Int32) : Nat → Int32
  | 0 => 0
  | n + 1 => zsm f n + f n
theorem zsm_cg {f g : Nat → Int32} : ∀ n, (∀ k, k < n → f k = g k) → zsm f n = zsm g n
  | 0, _ => rfl
  | n + 1, h => by rw [zsm, zsm, zsm_cg n (fun k hk => h k (by omega)), h n (by omega)]
theorem zsm_cnt (p : Nat → Bool) : ∀ n, zsm (fun k => if p k = true then 1 else 0) n = nI (zcnt p n)
  | 0 => rfl
  | n + 1 => by
    rw [zsm, zsm_cnt p n, zcnt]
    cases p n with
    | true => exact nI_add _ 1
    | false => exact nI_add _ 0
/-- what is counted of a state -/
noncomputable def zcv (G : ZGT) (N : ZNM) (p : Int32) (j k : Nat) : Int32 := match j with
  | 0 => bitC (zck G (zcl G (zE0 G) (zF0 G) (N.2.1 k)) (N.2.2 k) (zgT G + 1))
  | 1 => if decide (zck G (zcl G (zE0 G) (zF0 G) (N.2.1 k)) (N.2.2 k) (zgT G + 1) ≠ 0) = true then 1 else 0
  | 2 => if decide (1 < zcom N k) = true then 1 else 0
  | 4 => nI (zcnt (fun i => decide (N.2.1 k i ≠ 0)) 102)
  | 6 => if (zdf G (zac G (zcl G (zE0 G) (zF0 G) (N.2.1 k)) (N.2.2 k) p)).isSome = true then 1 else 0
  | _ => nI (zcnt (fun t => decide (zac G (zcl G (zE0 G) (zF0 G) (N.2.1 k)) (N.2.2 k) p t ≠ -1)) (zgT G + 1))
noncomputable def zvC (G : ZGT) (o : Option ZAS) (p x1 : Int32) : Int32 := match o with
  | none => -1
  | some A => match zix x1 7 with
    | none => -1
    | some 3 => nI (zmx (zcom (zN A)) (zN A).1)
    | some j => zsm (zcv G (zN A) p j) (zN A).1
section XCn2
variable {P : YP} {G : ZGT} {N : ZNM} {u : SX} {p : Int32}
theorem y_conflictsInAll (hF : ZNF G N) (h : XV G N u) (hT : XT G N p u) : Ev (ZY P) mX0_conflictsInAll [.ref 47] u (some (.int (zsm (zcv G N p 0) N.1))) u := by
  have hN := hF.1.2
  refine EQ_ev ?_
  refine EQ_V vX0_conflictsInAll rfl ?_
  refine RQ_n (ZY_ok P) 4 rfl trivial ?_
  refine loopU N.1 (fun k (_ : Unit) => [some (.ref 47), some (.int (zsm (zcv G N p 0) k)), some (.int (nI k))]) (fun _ _ w => w = u) ?_ 0 () u (by omega) rfl
  intro k _ w hk hw ih
  subst hw
  refine RQ_n (ZY_ok P) 4 rfl trivial ?_
  rw [h.1]
  refine RQ_b rfl (fun z => ?_) (fun z => ?_)
  · have z := (zq_le (a := N.1) (b := k) rfl rfl (by omega) (by omega)).mp z
    have : k = N.1 := by omega
    subst this
    refine RQ_n (ZY_ok P) 1 rfl trivial ?_
    exact RQ_to (Rn_iret rfl rfl) ⟨rfl, rfl⟩
  have z := (not_congr (zq_le (a := N.1) (b := k) rfl rfl (by omega) (by omega))).mp z
  have hkn : k < N.1 := by omega
  have hin2 : vp_in (nI k) 200 := nI_in (by omega) (by omega)
  have hic2 : (nI k).toNatClampNeg = k := nI_clamp (by omega)
  refine RQ_n (ZY_ok P) 5 rfl ⟨hin2, trivial⟩ ?_
  rw [hic2, (hT k hkn).2.2]
  refine RQ_s vJ6_bitCount_0f7a4 (e_bitCount (ZY_ok P) w _) rfl k0_141 rfl rfl rfl rfl ?_
  refine RQ_n (ZY_ok P) 4 rfl trivial ?_
  exact ih (by omega) () _ _ ⟨rfl, rfl, nIs k, trivial⟩ rfl
theorem y_statesInConflict (hF : ZNF G N) (h : XV G N u) (hT : XT G N p u) : Ev (ZY P) mX0_statesInConflict [.ref 47] u (some (.int (zsm (zcv G N p 1) N.1))) u := by
  have hN := hF.1.2
  refine EQ_ev ?_
  refine EQ_V vX0_statesInConflict rfl ?_
  refine RQ_n (ZY_ok P) 4 rfl trivial ?_
  refine loopU N.1 (fun k (_ : Unit) => [some (.ref 47), some (.int (zsm (zcv G N p 1) k)), some (.int (nI k))]) (fun _ _ w => w = u) ?_ 0 () u (by omega) rfl
  intro k _ w hk hw ih
  subst hw
  refine RQ_n (ZY_ok P) 4 rfl trivial ?_
  rw [h.1]
  refine RQ_b rfl (fun z => ?_) (fun z => ?_)
  · have z := (zq_le (a := N.1) (b := k) rfl rfl (by omega) (by omega)).mp z
    have : k = N.1 := by omega
    subst this
    refine RQ_n (ZY_ok P) 1 rfl trivial ?_
    exact RQ_to (Rn_iret rfl rfl) ⟨rfl, rfl⟩
  have z := (not_congr (zq_le (a := N.1) (b := k) rfl rfl (by omega) (by omega))).mp z
  have hkn : k < N.1 := by omega
  have hin2 : vp_in (nI k) 200 := nI_in (by omega) (by omega)
  have hic2 : (nI k).toNatClampNeg = k := nI_clamp (by omega)
  refine RQ_n (ZY_ok P) 5 rfl ⟨hin2, trivial⟩ ?_
  rw [hic2, (hT k hkn).2.2]
  have e : zsm (zcv G N p 1) (k + 1) = zsm (zcv G N p 1) k + (if decide (zck G (zcl G (zE0 G) (zF0 G) (N.2.1 k)) (N.2.2 k) (zgT G + 1) ≠ 0) = true then 1 else 0) := rfl
  refine RQ_b rfl (fun y => ?_) (fun y => ?_)
  · have y : zck G (zcl G (zE0 G) (zF0 G) (N.2.1 k)) (N.2.2 k) (zgT G + 1) = 0 := y
    refine RQ_n (ZY_ok P) 5 rfl trivial ?_
    refine ih (by omega) () _ _ ?_ rfl
    rw [e, decide_eq_false (fun q => q y)]
    exact ⟨rfl, rfl, nIs k, trivial⟩
  · have y : zck G (zcl G (zE0 G) (zF0 G) (N.2.1 k)) (N.2.2 k) (zgT G + 1) ≠ 0 := y
    refine RQ_n (ZY_ok P) 6 rfl trivial ?_
    refine ih (by omega) () _ _ ?_ rfl
    rw [e, decide_eq_true y]
    exact ⟨rfl, rfl, nIs k, trivial⟩
theorem y_statesWithDefault (hG : ZGX G u) (hF : ZNF G N) (h : XV G N u) (hT : XT G N p u) : Ev (ZY P) mX0_statesWithDefault [.ref 47] u (some (.int (zsm (zcv G N p 6) N.1))) u := by
  have hN := hF.1.2
  refine EQ_ev ?_
  refine EQ_V vX0_statesWithDefault rfl ?_
  refine RQ_n (ZY_ok P) 4 rfl trivial ?_
  refine loopU N.1 (fun k (_ : Unit) => [some (.ref 47), some (.int (zsm (zcv G N p 6) k)), some (.int (nI k))]) (fun _ _ w => w = u) ?_ 0 () u (by omega) rfl
  intro k _ w hk hw ih
  subst hw
  refine RQ_n (ZY_ok P) 4 rfl trivial ?_
  rw [h.1]
  refine RQ_b rfl (fun z => ?_) (fun z => ?_)
  · have z := (zq_le (a := N.1) (b := k) rfl rfl (by omega) (by omega)).mp z
    have : k = N.1 := by omega
    subst this
    refine RQ_n (ZY_ok P) 1 rfl trivial ?_
    exact RQ_to (Rn_iret rfl rfl) ⟨rfl, rfl⟩
  have z := (not_congr (zq_le (a := N.1) (b := k) rfl rfl (by omega) (by omega))).mp z
  have hkn : k < N.1 := by omega
  have hin2 : vp_in (nI k) 200 := nI_in (by omega) (by omega)
  have hic2 : (nI k).toNatClampNeg = k := nI_clamp (by omega)
  refine RQ_n (ZY_ok P) 5 rfl ⟨hin2, trivial⟩ ?_
  rw [hic2, (hT k hkn).2.1]
  have e : zsm (zcv G N p 6) (k + 1) = zsm (zcv G N p 6) k + (if (zdf G (zac G (zcl G (zE0 G) (zF0 G) (N.2.1 k)) (N.2.2 k) p)).isSome = true then 1 else 0) := rfl
  refine RQ_n (ZY_ok P) 1 rfl trivial ?_
  cases hz : zdf G (zac G (zcl G (zE0 G) (zF0 G) (N.2.1 k)) (N.2.2 k) p) with
  | none =>
    rw [hz] at e
    refine RQ_b rfl (fun _ => ?_) (fun y => absurd rfl y)
    refine RQ_n (ZY_ok P) 5 rfl trivial ?_
    refine ih (by omega) () _ _ ?_ rfl
    rw [e]
    exact ⟨rfl, rfl, nIs k, trivial⟩
  | some r =>
    rw [hz] at e
    have hr := zdfs_lt _ _ hz
    have hR := hG.1.1.2.1
    refine RQ_b rfl (fun y => absurd y (nI_m1 (a := r) (by omega))) (fun _ => ?_)
    refine RQ_n (ZY_ok P) 6 rfl trivial ?_
    refine ih (by omega) () _ _ ?_ rfl
    rw [e]
    exact ⟨rfl, rfl, nIs k, trivial⟩
theorem y_itemsOfKernels (hF : ZNF G N) (h : XV G N u) : Ev (ZY P) mX1_itemsOfKernels [.ref 36] u (some (.int (zsm (zcv G N p 4) N.1))) u := by
  have hN := hF.1.2
  refine EQ_ev ?_
  refine EQ_V vX1_itemsOfKernels rfl ?_
  refine RQ_n (ZY_ok P) 4 rfl trivial ?_
  refine loopU N.1 (fun k (_ : Unit) => [some (.ref 36), some (.int (zsm (zcv G N p 4) k)), some (.int (nI k))]) (fun _ _ w => w = u) ?_ 0 () u (by omega) rfl
  intro k _ w hk hw ih
  subst hw
  refine RQ_n (ZY_ok P) 3 rfl trivial ?_
  rw [h.1]
  refine RQ_b rfl (fun z => ?_) (fun z => ?_)
  · have z := (zq_le (a := N.1) (b := k) rfl rfl (by omega) (by omega)).mp z
    have : k = N.1 := by omega
    subst this
    refine RQ_n (ZY_ok P) 1 rfl trivial ?_
    exact RQ_to (Rn_iret rfl rfl) ⟨rfl, rfl⟩
  have z := (not_congr (zq_le (a := N.1) (b := k) rfl rfl (by omega) (by omega))).mp z
  have hkn : k < N.1 := by omega
  have hin2 : vp_in (nI k) 200 := nI_in (by omega) (by omega)
  have hic2 : (nI k).toNatClampNeg = k := nI_clamp (by omega)
  obtain ⟨kc, e1, e2, m, it, hz2, hm, hsz, -⟩ := y_kernelOf (P := P) hN h hkn
  have hlt := isK_lt e2.2
  obtain ⟨l0, -, -⟩ := isK_cell (P := P) (s := w) e2.2
  have hl0 : kc < (ZY P).2.1 w := by show kc < 3 * w.2.2.2.2.1 + 99; omega
  refine RQ_n (ZY_ok P) 3 rfl trivial ?_
  refine RQ_v vX1_kernelOf e1 rfl k1_141 rfl rfl rfl (zy36 _ rfl) rfl ?_
  refine RQ_gf (ZY_ok P) rfl rfl l0 hl0 rfl ?_
  rw [hsz, zen_cnt hz2]
  refine RQ_n (ZY_ok P) 4 rfl trivial ?_
  exact ih (by omega) () _ _ ⟨rfl, rfl, nIs k, trivial⟩ rfl
theorem y_actionsInAll (hG : ZGX G u) (hF : ZNF G N) (h : XV G N u) (hT : XT G N p u) : Ev (ZY P) mX0_actionsInAll [.ref 47] u (some (.int (zsm (zcv G N p 5) N.1))) u := by
  have hN := hF.1.2
  have hb := hG.b
  refine EQ_ev ?_
  refine EQ_V vX0_actionsInAll rfl ?_
  refine RQ_n (ZY_ok P) 4 rfl trivial ?_
  refine loopU N.1 (fun k (_ : Unit) => [some (.ref 47), some (.int (zsm (zcv G N p 5) k)), some (.int (nI k)), none]) (fun _ _ w => w = u) ?_ 0 () u (by omega) rfl
  intro k _ w hk hw ih
  subst hw
  refine RQ_n (ZY_ok P) 4 rfl trivial ?_
  rw [h.1]
  refine RQ_b rfl (fun z => ?_) (fun z => ?_)
  · have z := (zq_le (a := N.1) (b := k) rfl rfl (by omega) (by omega)).mp z
    have : k = N.1 := by omega
    subst this
    refine RQ_n (ZY_ok P) 1 rfl trivial ?_
    exact RQ_to (Rn_iret rfl rfl) ⟨rfl, rfl⟩
  have z := (not_congr (zq_le (a := N.1) (b := k) rfl rfl (by omega) (by omega))).mp z
  have hkn : k < N.1 := by omega
  have hin2 : vp_in (nI k) 200 := nI_in (by omega) (by omega)
  have hic2 : (nI k).toNatClampNeg = k := nI_clamp (by omega)
  obtain ⟨a, ha⟩ : ∃ a, a = zac G (zcl G (zE0 G) (zF0 G) (N.2.1 k)) (N.2.2 k) p := ⟨_, rfl⟩
  refine RQ_n (ZY_ok P) 2 rfl trivial ?_
  rw [show zsm (zcv G N p 5) k = zsm (zcv G N p 5) k + nI (zcnt (fun t => decide (a t ≠ -1)) 0) from (Int32.add_zero _).symm]
  refine loopU (zgT G + 1) (fun t (_ : Unit) => [some (.ref 47), some (.int (zsm (zcv G N p 5) k + nI (zcnt (fun t => decide (a t ≠ -1)) t))), some (.int (nI k)), some (.int (nI t))]) (fun _ _ v => v = w) ?_ 0 () w (by omega) rfl
  intro t _ v ht hv ih2
  subst hv
  refine RQ_n (ZY_ok P) 4 rfl trivial ?_
  rw [hG.2.1.2.2]
  refine RQ_b rfl (fun y => ?_) (fun y => ?_)
  · have y := (zq_lt (a := zgT G) (b := t) rfl rfl (by omega) (by omega)).mp y
    have : t = zgT G + 1 := by omega
    subst this
    refine RQ_n (ZY_ok P) 2 rfl trivial ?_
    refine ih (by omega) () _ _ ?_ rfl
    have e : zsm (zcv G N p 5) (k + 1) = zsm (zcv G N p 5) k + nI (zcnt (fun t => decide (a t ≠ -1)) (zgT G + 1)) := by rw [ha]; rfl
    rw [e]
    exact ⟨rfl, rfl, nIs k, trivial⟩
  have y := (not_congr (zq_lt (a := zgT G) (b := t) rfl rfl (by omega) (by omega))).mp y
  have hto := y_told (P := P) hG hN hT hkn (show t < 100 by omega) false
  rw [ztl_f, if_pos (by omega), ← ha] at hto
  refine RQ_n (ZY_ok P) 5 rfl trivial ?_
  refine RQ_v vX0_told hto rfl k0_134 rfl rfl rfl (zy47 _ rfl) rfl ?_
  refine RQ_n (ZY_ok P) 1 rfl trivial ?_
  refine RQ_b rfl (fun q => ?_) (fun q => ?_)
  · have q : a t = -1 := q
    refine RQ_n (ZY_ok P) 5 rfl trivial ?_
    refine ih2 (by omega) () _ _ ?_ rfl
    rw [zcnt, decide_eq_false (fun x => x q)]
    exact ⟨rfl, congrArg Value.int (Int32.add_zero _).symm, rfl, nIs t, trivial⟩
  · have q : ¬ a t = -1 := q
    refine RQ_n (ZY_ok P) 6 rfl trivial ?_
    refine ih2 (by omega) () _ _ ?_ rfl
    rw [zcnt, decide_eq_true q]
    refine ⟨rfl, congrArg Value.int ?_, rfl, nIs t, trivial⟩
    rw [if_pos rfl, ← nI_add, ← Int32.add_assoc]
    rfl
end XCn2
