section ZStep
variable {S : Type} {Z : ZW S} {M : MD} {pc nx n tg : Nat} {i : Instr} {v : Int32} {l l' : List (Option Value)} {st st' : List Value} {s s' sE : S} {r : Option Value}
theorem zgo_ok {i0 : Int} (hfe : zfe M pc = some (.goto i0, 3, nx, tg, v)) (k : Rn Z M (tg, l, st, s) r sE) : Rn Z M (pc, l, st, s) r sE := by
  refine Rn_pure (fun p l0 e R s0 m args below meth c H locs cells slots Q ls A dC dI dA ad hC hH hl w => ?_) k
  obtain ⟨hd, -, ht⟩ := zD hC hfe
  exact lv_goto hC.1 hC.2.1 hd (of_decide_eq_true ht) w
theorem zP2 {P : Option Prop} (hP : ∀ q, P = some q → q) {q : Prop} (h : P = some q) : q := hP q h
/-- ZH behind a write of one cell -/
theorem ZH_set {dC : Nat → ClassId} {dI : Nat → Nat → Nat} {dA : Nat → ClassId} {ad : Nat → Nat} {A : Nat → Prop} {s0 : State} {H H1 : Heap} {locs locs1 : List Loc} {a : Nat} {x : va_E} (hH : ZH Z dC dI dA ad A s0 H locs s) (hc : Z.2.1 s' = Z.2.1 s) (ho : ∀ b, b ≠ a → Z.1 s' b = Z.1 s b) (hx : zcc dA ad (Z.1 s' a) = x)
    (h1 : va_P (dC, dI) vwCl ((zws Z dA ad s).set a (ad a, x)) H1) (h2 : va_D A ((zws Z dA ad s).set a (ad a, x))) (h3 : va_S A s0.heap H1 locs1) : ZH Z dC dI dA ad A s0 H1 locs1 s' := by
  have e : zws Z dA ad s' = (zws Z dA ad s).set a (ad a, x) := by rw [zws_set hc ho, hx]
  exact ⟨by rw [e]; exact h1, hH.2.1, by rw [e]; exact h2, h3, hH.2.2.2.2.1, fun k hk => hH.2.2.2.2.2 k (by rw [← hc]; exact hk)⟩
theorem zown {p : Program} {s0 : State} {m : MethodId} {args : Array Value} {meth : Method} {c : Code} (hC : ZC M p s0 m args meth c) (h : M.1 < 13) : s0.vm.findClass (zcn M.1) = some m.cls := by rw [hC.2.2.2.2.2.2.2.1.2 h]; exact hC.2.2.2.2.2.1
theorem zfit_ok {t : FieldType} {w : Value} {q : Option Prop} (h : zfit t w = some q) (hP : ∀ x, q = some x → x) (ad : Nat → Nat) : narrow t (ze ad w) = ze ad w ∧ fits t (ze ad w) = true := by
  unfold zfit at h
  split at h
  · exact ⟨rfl, rfl⟩
  · exact ⟨rfl, rfl⟩
  · cases h
    rcases hP _ rfl with rfl | rfl <;> exact ⟨rfl, rfl⟩
  · cases h
set_option maxHeartbeats 4000000 in
theorem zex_ok (hZ : ZOk Z) (hfe : zfe M pc = some (i, n, nx, tg, v)) {P : Option Prop} {f' : ZF S} (h : zex Z M.1 i n nx tg v l st s = some (P, f')) (hP : ∀ q, P = some q → q) (k : Rn Z M f' r sE) : Rn Z M (pc, l, st, s) r sE := by
  unfold zex at h
  split at h
  · -- iload_n
    split at h
    · rename_i x hx
      cases h
      refine Rn_pure (fun p l0 e R s0 m args below meth c H locs cells slots Q ls A dC dI dA ad hC hH hl w => ?_) k
      obtain ⟨hd, rfl, -⟩ := zD hC hfe
      exact lv_iload_n hC.1 hC.2.1 hd rfl (hl.2.2.2 _ _ hx) w
    · cases h
  · -- iload
    split at h
    · rename_i x hx
      cases h
      refine Rn_pure (fun p l0 e R s0 m args below meth c H locs cells slots Q ls A dC dI dA ad hC hH hl w => ?_) k
      obtain ⟨hd, rfl, -⟩ := zD hC hfe
      exact lv_iload hC.1 hC.2.1 hd (hl.2.2.2 _ _ hx) w
    · cases h
  · -- aload_n
    split at h
    · rename_i x hx
      cases h
      refine Rn_pure (fun p l0 e R s0 m args below meth c H locs cells slots Q ls A dC dI dA ad hC hH hl w => ?_) k
      obtain ⟨hd, rfl, -⟩ := zD hC hfe
      exact lv_aload_n hC.1 hC.2.1 hd rfl (hl.2.2.2 _ _ hx) w
    · cases h
  · -- aload
    split at h
    · rename_i x hx
      cases h
      refine Rn_pure (fun p l0 e R s0 m args below meth c H locs cells slots Q ls A dC dI dA ad hC hH hl w => ?_) k
      obtain ⟨hd, rfl, -⟩ := zD hC hfe
      exact lv_aload hC.1 hC.2.1 hd (hl.2.2.2 _ _ hx) w
    · cases h
  · -- lload_n
    split at h
    · rename_i x hx
      cases h
      refine Rn_pure (fun p l0 e R s0 m args below meth c H locs cells slots Q ls A dC dI dA ad hC hH hl w => ?_) k
      obtain ⟨hd, rfl, -⟩ := zD hC hfe
      exact lv_lload_n hC.1 hC.2.1 hd rfl (hl.2.2.2 _ _ hx) w
    · cases h
  · -- lload
    split at h
    · rename_i x hx
      cases h
      refine Rn_pure (fun p l0 e R s0 m args below meth c H locs cells slots Q ls A dC dI dA ad hC hH hl w => ?_) k
      obtain ⟨hd, rfl, -⟩ := zD hC hfe
      exact lv_lload hC.1 hC.2.1 hd (hl.2.2.2 _ _ hx) w
    · cases h
  · -- istore_n
    split at h
    · rename_i x rr
      cases hb : Nat.blt _ l.length with
      | false => rw [hb] at h; cases h
      | true =>
        rw [hb] at h
        cases h
        refine Rn_loc (fun p l0 e R s0 m args below meth c H locs cells slots Q ls ad hC hl w => ?_) k
        obtain ⟨hd, rfl, -⟩ := zD hC hfe
        exact lv_istore_n hC.1 hC.2.1 hd rfl (zlv_has hl) (by rw [← hl.1]; exact Nat.le_of_ble_eq_true hb) rfl (fun ls' h' => w ls' (zlv_st1 (v := .int x) hl h'))
    · cases h
  · -- istore
    split at h
    · rename_i x rr
      cases hb : Nat.blt _ l.length with
      | false => rw [hb] at h; cases h
      | true =>
        rw [hb] at h
        cases h
        refine Rn_loc (fun p l0 e R s0 m args below meth c H locs cells slots Q ls ad hC hl w => ?_) k
        obtain ⟨hd, rfl, -⟩ := zD hC hfe
        exact lv_istore hC.1 hC.2.1 hd (zlv_has hl) (by rw [← hl.1]; exact Nat.le_of_ble_eq_true hb) rfl (fun ls' h' => w ls' (zlv_st1 (v := .int x) hl h'))
    · cases h
  · -- astore_n
    split at h
    · rename_i x rr
      cases hb : Nat.blt _ l.length with
      | false => rw [hb] at h; cases h
      | true =>
        rw [hb] at h
        cases h
        refine Rn_loc (fun p l0 e R s0 m args below meth c H locs cells slots Q ls ad hC hl w => ?_) k
        obtain ⟨hd, rfl, -⟩ := zD hC hfe
        exact lv_astore_n hC.1 hC.2.1 hd rfl (zlv_has hl) (by rw [← hl.1]; exact Nat.le_of_ble_eq_true hb) rfl (fun ls' h' => w ls' (zlv_st1 (v := .ref x) hl h'))
    · cases h
  · -- astore
    split at h
    · rename_i x rr
      cases hb : Nat.blt _ l.length with
      | false => rw [hb] at h; cases h
      | true =>
        rw [hb] at h
        cases h
        refine Rn_loc (fun p l0 e R s0 m args below meth c H locs cells slots Q ls ad hC hl w => ?_) k
        obtain ⟨hd, rfl, -⟩ := zD hC hfe
        exact lv_astore hC.1 hC.2.1 hd (zlv_has hl) (by rw [← hl.1]; exact Nat.le_of_ble_eq_true hb) rfl (fun ls' h' => w ls' (zlv_st1 (v := .ref x) hl h'))
    · cases h
  · -- lstore_n
    split at h
    · rename_i x rr
      cases hb : Nat.blt _ l.length with
      | false => rw [hb] at h; cases h
      | true =>
        rw [hb] at h
        cases h
        refine Rn_loc (fun p l0 e R s0 m args below meth c H locs cells slots Q ls ad hC hl w => ?_) k
        obtain ⟨hd, rfl, -⟩ := zD hC hfe
        exact lv_lstore_n hC.1 hC.2.1 hd rfl (zlv_has hl) (by rw [← hl.1]; exact Nat.le_of_ble_eq_true hb) rfl (fun ls' h' => w ls' (zlv_st2 (v := .long x) hl h'))
    · cases h
  · -- lstore
    split at h
    · rename_i x rr
      cases hb : Nat.blt _ l.length with
      | false => rw [hb] at h; cases h
      | true =>
        rw [hb] at h
        cases h
        refine Rn_loc (fun p l0 e R s0 m args below meth c H locs cells slots Q ls ad hC hl w => ?_) k
        obtain ⟨hd, rfl, -⟩ := zD hC hfe
        exact lv_lstore hC.1 hC.2.1 hd (zlv_has hl) (by rw [← hl.1]; exact Nat.le_of_ble_eq_true hb) rfl (fun ls' h' => w ls' (zlv_st2 (v := .long x) hl h'))
    · cases h
  · -- iinc
    split at h
    · rename_i x hx
      cases h
      refine Rn_loc (fun p l0 e R s0 m args below meth c H locs cells slots Q ls ad hC hl w => ?_) k
      obtain ⟨hd, rfl, ht⟩ := zD hC hfe
      have hv : Int32.ofInt _ = v := of_decide_eq_true ht
      obtain ⟨q, hq⟩ := List.getElem?_of_mem (zas_mem (ad := ad) hx)
      exact lv_iinc (v := x + v) hC.1 hC.2.1 hd (zlv_has hl) hq (by rw [hv]) (by rw [← hl.1]; exact (List.getElem?_eq_some_iff.mp hx).1) rfl (fun ls' h' => w ls' (zlv_st1 (v := .int (x + v)) hl h'))
    · cases h
  · -- iconst
    cases h
    refine Rn_pure (fun p l0 e R s0 m args below meth c H locs cells slots Q ls A dC dI dA ad hC hH hl w => ?_) k
    obtain ⟨hd, rfl, ht⟩ := zD hC hfe
    exact lv_iconst hC.1 hC.2.1 hd (of_decide_eq_true ht) w
  · -- bipush
    cases h
    refine Rn_pure (fun p l0 e R s0 m args below meth c H locs cells slots Q ls A dC dI dA ad hC hH hl w => ?_) k
    obtain ⟨hd, rfl, ht⟩ := zD hC hfe
    exact lv_bipush hC.1 hC.2.1 hd (of_decide_eq_true ht) w
  · -- sipush
    cases h
    refine Rn_pure (fun p l0 e R s0 m args below meth c H locs cells slots Q ls A dC dI dA ad hC hH hl w => ?_) k
    obtain ⟨hd, rfl, ht⟩ := zD hC hfe
    exact lv_sipush hC.1 hC.2.1 hd (of_decide_eq_true ht) w
  · -- lconst
    cases h
    refine Rn_pure (fun p l0 e R s0 m args below meth c H locs cells slots Q ls A dC dI dA ad hC hH hl w => ?_) k
    obtain ⟨hd, rfl, ht⟩ := zD hC hfe
    exact lv_lconst hC.1 hC.2.1 hd rfl w
  · -- ldc
    split at h
    · rename_i q hq
      cases h
      refine Rn_pure (fun p l0 e R s0 m args below meth c H locs cells slots Q ls A dC dI dA ad hC hH hl w => ?_) k
      obtain ⟨hd, rfl, ht⟩ := zD hC hfe
      obtain ⟨ho, hw⟩ := zCT_ok hq
      exact lv_ldc hC.1 hC.2.1 (zown hC ho) (hC.2.2.2.2.1 _ hw) hd w
    · cases h
  · -- ldc_w
    split at h
    · rename_i q hq
      cases h
      refine Rn_pure (fun p l0 e R s0 m args below meth c H locs cells slots Q ls A dC dI dA ad hC hH hl w => ?_) k
      obtain ⟨hd, rfl, ht⟩ := zD hC hfe
      obtain ⟨ho, hw⟩ := zCT_ok hq
      exact lv_ldcw hC.1 hC.2.1 (zown hC ho) (hC.2.2.2.2.1 _ hw) hd w
    · cases h
  · -- ldc2_w
    split at h
    · rename_i q hq
      cases h
      refine Rn_pure (fun p l0 e R s0 m args below meth c H locs cells slots Q ls A dC dI dA ad hC hH hl w => ?_) k
      obtain ⟨hd, rfl, ht⟩ := zD hC hfe
      obtain ⟨ho, hw⟩ := zCL_ok hq
      exact lv_ldc2 hC.1 hC.2.1 (zown hC ho) (hC.2.2.2.2.1 _ hw) hd w
    · cases h
  · -- iadd
    split at h
    · cases h
      refine Rn_pure (fun p l0 e R s0 m args below meth c H locs cells slots Q ls A dC dI dA ad hC hH hl w => ?_) k
      obtain ⟨hd, rfl, -⟩ := zD hC hfe
      exact lv_iadd hC.1 hC.2.1 hd w
    · cases h
  · -- isub
    split at h
    · cases h
      refine Rn_pure (fun p l0 e R s0 m args below meth c H locs cells slots Q ls A dC dI dA ad hC hH hl w => ?_) k
      obtain ⟨hd, rfl, -⟩ := zD hC hfe
      exact lv_isub hC.1 hC.2.1 hd w
    · cases h
  · -- imul
    split at h
    · cases h
      refine Rn_pure (fun p l0 e R s0 m args below meth c H locs cells slots Q ls A dC dI dA ad hC hH hl w => ?_) k
      obtain ⟨hd, rfl, -⟩ := zD hC hfe
      exact lv_imul hC.1 hC.2.1 hd w
    · cases h
  · -- iand
    split at h
    · cases h
      refine Rn_pure (fun p l0 e R s0 m args below meth c H locs cells slots Q ls A dC dI dA ad hC hH hl w => ?_) k
      obtain ⟨hd, rfl, -⟩ := zD hC hfe
      exact lv_iand hC.1 hC.2.1 hd w
    · cases h
  · -- ior
    split at h
    · cases h
      refine Rn_pure (fun p l0 e R s0 m args below meth c H locs cells slots Q ls A dC dI dA ad hC hH hl w => ?_) k
      obtain ⟨hd, rfl, -⟩ := zD hC hfe
      exact lv_ior hC.1 hC.2.1 hd w
    · cases h
  · -- ixor
    split at h
    · cases h
      refine Rn_pure (fun p l0 e R s0 m args below meth c H locs cells slots Q ls A dC dI dA ad hC hH hl w => ?_) k
      obtain ⟨hd, rfl, -⟩ := zD hC hfe
      exact lv_ixor hC.1 hC.2.1 hd w
    · cases h
  · -- ishl
    split at h
    · cases h
      refine Rn_pure (fun p l0 e R s0 m args below meth c H locs cells slots Q ls A dC dI dA ad hC hH hl w => ?_) k
      obtain ⟨hd, rfl, -⟩ := zD hC hfe
      exact lv_ishl hC.1 hC.2.1 hd w
    · cases h
  · -- ishr
    split at h
    · cases h
      refine Rn_pure (fun p l0 e R s0 m args below meth c H locs cells slots Q ls A dC dI dA ad hC hH hl w => ?_) k
      obtain ⟨hd, rfl, -⟩ := zD hC hfe
      exact lv_ishr hC.1 hC.2.1 hd w
    · cases h
  · -- iushr
    split at h
    · cases h
      refine Rn_pure (fun p l0 e R s0 m args below meth c H locs cells slots Q ls A dC dI dA ad hC hH hl w => ?_) k
      obtain ⟨hd, rfl, -⟩ := zD hC hfe
      exact lv_iushr hC.1 hC.2.1 hd rfl w
    · cases h
  · -- idiv
    split at h
    · cases h
      refine Rn_pure (fun p l0 e R s0 m args below meth c H locs cells slots Q ls A dC dI dA ad hC hH hl w => ?_) k
      obtain ⟨hd, rfl, -⟩ := zD hC hfe
      exact lv_idiv hC.1 hC.2.1 hd (hP _ rfl) w
    · cases h
  · -- irem
    split at h
    · cases h
      refine Rn_pure (fun p l0 e R s0 m args below meth c H locs cells slots Q ls A dC dI dA ad hC hH hl w => ?_) k
      obtain ⟨hd, rfl, -⟩ := zD hC hfe
      exact lv_irem hC.1 hC.2.1 hd (hP _ rfl) w
    · cases h
  · -- ladd
    split at h
    · cases h
      refine Rn_pure (fun p l0 e R s0 m args below meth c H locs cells slots Q ls A dC dI dA ad hC hH hl w => ?_) k
      obtain ⟨hd, rfl, -⟩ := zD hC hfe
      exact lv_ladd hC.1 hC.2.1 hd w
    · cases h
  · -- lmul
    split at h
    · cases h
      refine Rn_pure (fun p l0 e R s0 m args below meth c H locs cells slots Q ls A dC dI dA ad hC hH hl w => ?_) k
      obtain ⟨hd, rfl, -⟩ := zD hC hfe
      exact lv_lmul hC.1 hC.2.1 hd w
    · cases h
  · -- lrem
    split at h
    · cases h
      refine Rn_pure (fun p l0 e R s0 m args below meth c H locs cells slots Q ls A dC dI dA ad hC hH hl w => ?_) k
      obtain ⟨hd, rfl, -⟩ := zD hC hfe
      exact lv_lrem hC.1 hC.2.1 hd (hP _ rfl) w
    · cases h
  · -- lushr
    split at h
    · cases h
      refine Rn_pure (fun p l0 e R s0 m args below meth c H locs cells slots Q ls A dC dI dA ad hC hH hl w => ?_) k
      obtain ⟨hd, rfl, -⟩ := zD hC hfe
      exact lv_lushr hC.1 hC.2.1 hd rfl w
    · cases h
  · -- i2l
    split at h
    · cases h
      refine Rn_pure (fun p l0 e R s0 m args below meth c H locs cells slots Q ls A dC dI dA ad hC hH hl w => ?_) k
      obtain ⟨hd, rfl, -⟩ := zD hC hfe
      exact lv_i2l hC.1 hC.2.1 hd rfl w
    · cases h
  · -- l2i
    split at h
    · cases h
      refine Rn_pure (fun p l0 e R s0 m args below meth c H locs cells slots Q ls A dC dI dA ad hC hH hl w => ?_) k
      obtain ⟨hd, rfl, -⟩ := zD hC hfe
      exact lv_l2i hC.1 hC.2.1 hd rfl w
    · cases h
  · -- dup
    split at h
    · rename_i a rr
      cases hb : Nat.beq a.category 1 with
      | false => rw [hb] at h; cases h
      | true =>
        rw [hb] at h
        cases h
        refine Rn_pure (fun p l0 e R s0 m args below meth c H locs cells slots Q ls A dC dI dA ad hC hH hl w => ?_) k
        obtain ⟨hd, rfl, -⟩ := zD hC hfe
        exact lv_dup hC.1 hC.2.1 hd (by rw [ze_cat]; exact Nat.eq_of_beq_eq_true hb) w
    · cases h
  · -- pop
    split at h
    · rename_i a rr
      cases hb : Nat.beq a.category 1 with
      | false => rw [hb] at h; cases h
      | true =>
        rw [hb] at h
        cases h
        refine Rn_pure (fun p l0 e R s0 m args below meth c H locs cells slots Q ls A dC dI dA ad hC hH hl w => ?_) k
        obtain ⟨hd, rfl, -⟩ := zD hC hfe
        exact lv_pop hC.1 hC.2.1 hd (by rw [ze_cat]; exact Nat.eq_of_beq_eq_true hb) w
    · cases h
  · -- dup2
    split at h
    · rename_i a b rr
      cases hb : (Nat.beq a.category 1 && Nat.beq b.category 1) with
      | false => rw [hb] at h; cases h
      | true =>
        rw [hb] at h
        cases h
        rw [Bool.and_eq_true] at hb
        refine Rn_pure (fun p l0 e R s0 m args below meth c H locs cells slots Q ls A dC dI dA ad hC hH hl w => ?_) k
        obtain ⟨hd, rfl, -⟩ := zD hC hfe
        exact lv_dup2_11 hC.1 hC.2.1 hd (by rw [ze_cat]; exact Nat.eq_of_beq_eq_true hb.1) (by rw [ze_cat]; exact Nat.eq_of_beq_eq_true hb.2) w
    · cases h
  · -- goto
    cases h
    refine Rn_pure (fun p l0 e R s0 m args below meth c H locs cells slots Q ls A dC dI dA ad hC hH hl w => ?_) k
    obtain ⟨hd, -, ht⟩ := zD hC hfe
    exact lv_goto hC.1 hC.2.1 hd (of_decide_eq_true ht) w
  · -- getfield
    split at h
    · rename_i ci j pl a rr hfr
      split at h
      · rename_i cj fs hcell
        cases hb : (Nat.beq ci cj && Nat.blt a (Z.2.1 s)) with
        | false => rw [hb] at h; cases h
        | true =>
          rw [hb] at h
          simp only [cond_true] at h
          rw [Bool.and_eq_true] at hb
          have e1 : ci = cj := Nat.eq_of_beq_eq_true hb.1
          have ha : a < Z.2.1 s := Nat.le_of_ble_eq_true hb.2
          subst e1
          split at h
          · rename_i w hw
            cases h
            obtain ⟨ho, C, T, N, hc, hk, hl1, hty⟩ := zFR_ok hfr
            refine Rn_pure (fun p l0 e R s0 m args below meth c H locs cells slots Q ls A dC dI dA ad hC hH hl ww => ?_) k
            obtain ⟨hd, rfl, -⟩ := zD hC hfe
            have hat : (zws Z dA ad s)[a]? = some (ad a, .inr (ci, fs.map (ze ad))) := by rw [zws_at ha, hcell]; rfl
            exact va_get (v := ze ad w) hC.1 hC.2.1 hC.2.2.2.2.1 (zcl_in hc) (zown hC ho) hH.2.1 hH.1 a hat hc j hk (hC.2.2.2.2.1 _ hl1) (fun _ q => q) (by rw [List.getElem?_map, hw]; rfl) hd ww
          · cases h
      · cases h
    · cases h
  · -- putfield
    split at h
    · rename_i ci j pl w a rr hfr
      split at h
      · rename_i cj fs hcell
        cases hb : (Nat.beq ci cj && Nat.blt a (Z.2.1 s) && Nat.blt j fs.length && !(zfinF ci j)) with
        | false => rw [hb] at h; cases h
        | true =>
          rw [hb] at h
          simp only [cond_true] at h
          simp only [Bool.and_eq_true] at hb
          obtain ⟨⟨⟨hb1, hb2⟩, hb3⟩, hb4⟩ := hb
          have e1 : ci = cj := Nat.eq_of_beq_eq_true hb1
          have ha : a < Z.2.1 s := Nat.le_of_ble_eq_true hb2
          have hj : j < fs.length := Nat.le_of_ble_eq_true hb3
          subst e1
          split at h
          · rename_i q s1 hq hs1
            cases h
            obtain ⟨ho, C, T, N, hc, hk, hl1, hty⟩ := zFR_ok hfr
            obtain ⟨hcn, hoth, hself⟩ := hZ.1 _ _ _ _ _ hs1 ha
            have hfin : (T j).2.2.2 = false := by
              have : zfinF ci j = (T j).2.2.2 := by unfold zfinF; rw [hc]
              rw [← this]; simpa using hb4
            refine Rn_gen (s' := s1) (l' := l) (st' := rr) (nx := nx) hcn (fun p l0 e R s0 m args below meth c H locs cells slots Q ls A dC dI dA ad hC hH hl ww => ?_) k
            obtain ⟨hd, hnx, -⟩ := zD hC hfe
            subst hnx
            have hat : (zws Z dA ad s)[a]? = some (ad a, .inr (ci, fs.map (ze ad))) := by rw [zws_at ha, hcell]; rfl
            obtain ⟨hn, hft⟩ := zfit_ok hq hP ad
            exact va_put (v := ze ad w) (ty := ztyF ci j) hC.1 hC.2.1 hC.2.2.2.2.1 (zcl_in hc) (ztyF ci) (zcl_ty hc) (zcl_nm hc) (zown hC ho) hH.2.1 hH.1 hH.2.2.1 hH.2.2.2.1 a hat hc j hk (hC.2.2.2.2.1 _ hl1) (fun _ q => q) hfin hty hn hft (by simpa using hj) hd
              (fun H1 locs1 h1 h2 h3 => ww H1 locs1 ls (ZH_set (a := a) hH hcn.1 hoth (by rw [hself ci fs hcell hj]; simp [zcc, List.map_set]) h1 h2 h3) hl)
          · cases h
      · cases h
    · cases h
  · -- iaload
    split at h
    · rename_i j a rr
      split at h
      · rename_i nn g hcell
        cases hb : Nat.blt a (Z.2.1 s) with
        | false => rw [hb] at h; cases h
        | true =>
          rw [hb] at h
          cases h
          have ha : a < Z.2.1 s := Nat.le_of_ble_eq_true hb
          refine Rn_pure (fun p l0 e R s0 m args below meth c H locs cells slots Q ls A dC dI dA ad hC hH hl ww => ?_) k
          obtain ⟨hd, rfl, -⟩ := zD hC hfe
          exact va_iald (cA := dA 0) (n := nn) (f := g) hC.1 hC.2.1 hH.2.1 hH.1 a 0 (by rw [zws_at ha, hcell]; rfl) rfl (hP _ rfl) hd ww
      · cases h
    · cases h
  · -- baload
    split at h
    · rename_i j a rr
      split at h
      · rename_i nn g hcell
        cases hb : Nat.blt a (Z.2.1 s) with
        | false => rw [hb] at h; cases h
        | true =>
          rw [hb] at h
          cases h
          have ha : a < Z.2.1 s := Nat.le_of_ble_eq_true hb
          refine Rn_pure (fun p l0 e R s0 m args below meth c H locs cells slots Q ls A dC dI dA ad hC hH hl ww => ?_) k
          obtain ⟨hd, rfl, -⟩ := zD hC hfe
          exact va_zald (cA := dA 1) (n := nn) (f := g) hC.1 hC.2.1 hH.2.1 hH.1 a 1 (by rw [zws_at ha, hcell]; rfl) rfl (hP _ rfl) hd ww
      · cases h
    · cases h
  · -- laload
    split at h
    · rename_i j a rr
      split at h
      · rename_i nn g hcell
        cases hb : Nat.blt a (Z.2.1 s) with
        | false => rw [hb] at h; cases h
        | true =>
          rw [hb] at h
          cases h
          have ha : a < Z.2.1 s := Nat.le_of_ble_eq_true hb
          refine Rn_pure (fun p l0 e R s0 m args below meth c H locs cells slots Q ls A dC dI dA ad hC hH hl ww => ?_) k
          obtain ⟨hd, rfl, -⟩ := zD hC hfe
          exact va_lald (cA := dA 2) (n := nn) (f := g) hC.1 hC.2.1 hH.2.1 hH.1 a 2 (by rw [zws_at ha, hcell]; rfl) rfl (hP _ rfl) hd ww
      · cases h
    · cases h
  · -- aaload
    split at h
    · rename_i j a rr
      split at h
      · rename_i t nn g hcell
        cases hb : (Nat.blt a (Z.2.1 s) && Nat.blt 2 t && Nat.blt t 6) with
        | false => rw [hb] at h; cases h
        | true =>
          rw [hb] at h
          cases h
          simp only [Bool.and_eq_true] at hb
          have ha : a < Z.2.1 s := Nat.le_of_ble_eq_true hb.1.1
          have ht1 : 2 < t := Nat.le_of_ble_eq_true hb.1.2
          have ht2 : t < 6 := Nat.le_of_ble_eq_true hb.2
          have htt : t = 3 ∨ t = 4 ∨ t = 5 := by omega
          refine Rn_pure (fun p l0 e R s0 m args below meth c H locs cells slots Q ls A dC dI dA ad hC hH hl ww => ?_) k
          obtain ⟨hd, rfl, -⟩ := zD hC hfe
          have hat : (zws Z dA ad s)[a]? = some (ad a, .inl (dA t, nn, .inr (.inr (.inr (.inr (fun i => (g i).map ad)))))) := by rw [zws_at ha, hcell]; rfl
          have hrf : ∀ q : Option Nat, ze ad (va_rf q) = va_rf (q.map ad) := fun q => by cases q <;> rfl
          have ww' : W p l0 e R s0 m args below meth c H locs cells slots Q (F0 m (pc + 1) ls (va_rf ((fun i => (g i).map ad) j.toNatClampNeg) :: rr.map (ze ad))) := by rw [← hrf]; exact ww
          rcases htt with rfl | rfl | rfl
          · exact va_aldq (C := "MinimalTables$Kernel") hC.1 hC.2.1 hH.2.1 hH.1 a 3 hat rfl (hP _ rfl) hd ww'
          · exact va_aldq (C := "MinimalTables$Automaton") hC.1 hC.2.1 hH.2.1 hH.1 a 4 hat rfl (hP _ rfl) hd ww'
          · exact va_aldq (C := "MinimalTables$Actions") hC.1 hC.2.1 hH.2.1 hH.1 a 5 hat rfl (hP _ rfl) hd ww'
      · cases h
    · cases h
  · -- iastore
    split at h
    · rename_i x j a rr
      split at h
      · rename_i nn g hcell
        cases hb : Nat.blt a (Z.2.1 s) with
        | false => rw [hb] at h; cases h
        | true =>
          rw [hb] at h
          simp only [cond_true] at h
          have ha : a < Z.2.1 s := Nat.le_of_ble_eq_true hb
          split at h
          · rename_i s1 hs1
            cases h
            obtain ⟨hcn, hoth, hself⟩ := hZ.2.1 _ _ _ _ _ hs1 ha
            refine Rn_gen (s' := s1) (l' := l) (st' := rr) (nx := nx) hcn (fun p l0 e R s0 m args below meth c H locs cells slots Q ls A dC dI dA ad hC hH hl ww => ?_) k
            obtain ⟨hd, hnx, -⟩ := zD hC hfe
            subst hnx
            exact va_iast (cA := dA 0) (n := nn) (f := g) (x := x) (i := j) hC.1 hC.2.1 hH.2.1 hH.1 hH.2.2.1 hH.2.2.2.1 a 0 (by rw [zws_at ha, hcell]; rfl) rfl (hP _ rfl) hd
              (fun H1 locs1 h1 h2 h3 => ww H1 locs1 ls (ZH_set (a := a) hH hcn.1 hoth (by rw [hself _ _ _ hcell]; rfl) h1 h2 h3) hl)
          · cases h
      · cases h
    · cases h
  · -- bastore
    split at h
    · rename_i x j a rr
      split at h
      · rename_i nn g hcell
        cases hb : Nat.blt a (Z.2.1 s) with
        | false => rw [hb] at h; cases h
        | true =>
          rw [hb] at h
          simp only [cond_true] at h
          have ha : a < Z.2.1 s := Nat.le_of_ble_eq_true hb
          split at h
          · rename_i s1 hs1
            cases h
            obtain ⟨hcn, hoth, hself⟩ := hZ.2.1 _ _ _ _ _ hs1 ha
            refine Rn_gen (s' := s1) (l' := l) (st' := rr) (nx := nx) hcn (fun p l0 e R s0 m args below meth c H locs cells slots Q ls A dC dI dA ad hC hH hl ww => ?_) k
            obtain ⟨hd, hnx, -⟩ := zD hC hfe
            subst hnx
            exact va_zast (cA := dA 1) (n := nn) (f := g) (x := x) (i := j) hC.1 hC.2.1 hH.2.1 hH.1 hH.2.2.1 hH.2.2.2.1 a 1 (by rw [zws_at ha, hcell]; rfl) rfl (hP _ rfl) hd
              (fun H1 locs1 h1 h2 h3 => ww H1 locs1 ls (ZH_set (a := a) hH hcn.1 hoth (by rw [hself _ _ _ hcell]; rfl) h1 h2 h3) hl)
          · cases h
      · cases h
    · cases h
  · -- lastore
    split at h
    · rename_i x j a rr
      split at h
      · rename_i nn g hcell
        cases hb : Nat.blt a (Z.2.1 s) with
        | false => rw [hb] at h; cases h
        | true =>
          rw [hb] at h
          simp only [cond_true] at h
          have ha : a < Z.2.1 s := Nat.le_of_ble_eq_true hb
          split at h
          · rename_i s1 hs1
            cases h
            obtain ⟨hcn, hoth, hself⟩ := hZ.2.2 _ _ _ _ _ hs1 ha
            refine Rn_gen (s' := s1) (l' := l) (st' := rr) (nx := nx) hcn (fun p l0 e R s0 m args below meth c H locs cells slots Q ls A dC dI dA ad hC hH hl ww => ?_) k
            obtain ⟨hd, hnx, -⟩ := zD hC hfe
            subst hnx
            exact va_last (cA := dA 2) (n := nn) (f := g) (x := x) (i := j) hC.1 hC.2.1 hH.2.1 hH.1 hH.2.2.1 hH.2.2.2.1 a 2 (by rw [zws_at ha, hcell]; rfl) rfl (hP _ rfl) hd
              (fun H1 locs1 h1 h2 h3 => ww H1 locs1 ls (ZH_set (a := a) hH hcn.1 hoth (by rw [hself _ _ _ hcell]; rfl) h1 h2 h3) hl)
          · cases h
      · cases h
    · cases h
  · -- arraylength
    split at h
    · rename_i a rr
      split at h
      · rename_i t q hcell
        cases hb : (Nat.blt a (Z.2.1 s) && Nat.blt t 6) with
        | false => rw [hb] at h; cases h
        | true =>
          rw [hb] at h
          cases h
          simp only [Bool.and_eq_true] at hb
          have ha : a < Z.2.1 s := Nat.le_of_ble_eq_true hb.1
          have ht2 : t < 6 := Nat.le_of_ble_eq_true hb.2
          have htt : t = 0 ∨ t = 1 ∨ t = 2 ∨ t = 3 ∨ t = 4 ∨ t = 5 := by omega
          refine Rn_pure (fun p l0 e R s0 m args below meth c H locs cells slots Q ls A dC dI dA ad hC hH hl ww => ?_) k
          obtain ⟨hd, rfl, -⟩ := zD hC hfe
          have hat : (zws Z dA ad s)[a]? = some (ad a, .inl (dA t, zca ad q)) := by rw [zws_at ha, hcell]; rfl
          have hq1 : Int32.ofNat (zca ad q).1 = Int32.ofNat q.1 := by unfold zca; split <;> rfl
          rcases htt with rfl | rfl | rfl | rfl | rfl | rfl
          · exact va_alen (ty := .int) hC.1 hC.2.1 hH.2.1 hH.1 a 0 hat rfl hq1 hd ww
          · exact va_alen (ty := .boolean) hC.1 hC.2.1 hH.2.1 hH.1 a 1 hat rfl hq1 hd ww
          · exact va_alen (ty := .long) hC.1 hC.2.1 hH.2.1 hH.1 a 2 hat rfl hq1 hd ww
          · exact va_alen (ty := .object "MinimalTables$Kernel") hC.1 hC.2.1 hH.2.1 hH.1 a 3 hat rfl hq1 hd ww
          · exact va_alen (ty := .object "MinimalTables$Automaton") hC.1 hC.2.1 hH.2.1 hH.1 a 4 hat rfl hq1 hd ww
          · exact va_alen (ty := .object "MinimalTables$Actions") hC.1 hC.2.1 hH.2.1 hH.1 a 5 hat rfl hq1 hd ww
      · cases h
    · cases h
  · -- ifnonnull
    split at h
    · cases h
      refine Rn_pure (fun p l0 e R s0 m args below meth c H locs cells slots Q ls A dC dI dA ad hC hH hl w => ?_) k
      obtain ⟨hd, -, ht⟩ := zD hC hfe
      exact lv_ifnonnull hC.1 hC.2.1 hd (of_decide_eq_true ht) w
    · cases h
      refine Rn_pure (fun p l0 e R s0 m args below meth c H locs cells slots Q ls A dC dI dA ad hC hH hl w => ?_) k
      obtain ⟨hd, rfl, -⟩ := zD hC hfe
      exact lv_ifnonnullN hC.1 hC.2.1 hd w
    · cases h
  · cases h
theorem zst_ok (hZ : ZOk Z) {f f' : ZF S} {P : Option Prop} (h : zst Z M f = some (P, f')) (hP : ∀ q, P = some q → q) (k : Rn Z M f' r sE) : Rn Z M f r sE := by
  obtain ⟨pc, l, st, s⟩ := f
  unfold zst at h
  dsimp only at h
  split at h
  · cases h
  · rename_i i n nx tg v hfe
    exact zex_ok hZ hfe h hP k
theorem Rn_go (hZ : ZOk Z) (n : Nat) : ∀ {f f' : ZF S} {P : Prop}, zsteps Z M n f = some (P, f') → P → Rn Z M f' r sE → Rn Z M f r sE := by
  induction n with
  | zero =>
    intro f f' P h hP k
    cases h
    exact k
  | succ n ih =>
    intro f f' P h hP k
    unfold zsteps at h
    split at h
    · cases h
    · rename_i f1 h1
      exact zst_ok hZ h1 (fun q hq => by cases hq) (ih h hP k)
    · rename_i P1 f1 h1
      split at h
      · cases h
      · rename_i Q f2 h2
        cases h
        exact zst_ok hZ h1 (fun q hq => by cases hq; exact hP.1) (ih h2 hP.2 k)
end ZStep
