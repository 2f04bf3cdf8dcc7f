/-! The law's own code: its frames with real addresses; the worlds of the class and of the reference beside each other. -/
abbrev LF : Type := Nat × List (Option Value) × List Value
/-- one plain instruction of the law; b: the script's address, L its length, xs its ints -/
def lx (b L : Nat) (xs : Nat → Int32) : LF → Option (Option Prop × LF)
  | (pc, l, st) => match zfe mL_law pc with
    | some (.aload_n k, 1, nx, _, _) => match l[k.val]? with
      | some (some (.ref x)) => some (none, nx, l, .ref x :: st)
      | _ => none
    | some (.iload k, 2, nx, _, _) => match l[k]? with
      | some (some (.int x)) => some (none, nx, l, .int x :: st)
      | _ => none
    | some (.istore k, 2, nx, _, _) => match st with
      | .int x :: r => bif Nat.blt k l.length then some (none, nx, zst1 l k (.int x), r) else none
      | _ => none
    | some (.iinc k _, 3, nx, _, v) => match l[k]? with
      | some (some (.int x)) => some (none, nx, zst1 l k (.int (x + v)), st)
      | _ => none
    | some (.iconst _, 1, nx, _, v) => some (none, nx, l, .int v :: st)
    | some (.bipush _, 2, nx, _, v) => some (none, nx, l, .int v :: st)
    | some (.ldc2_w k, 3, nx, _, _) => bif Nat.beq k 144 then some (none, nx, l, .long 4294967295 :: st) else none
    | some (.iadd, 1, nx, _, _) => match st with
      | .int y :: .int x :: r => some (none, nx, l, .int (x + y) :: r)
      | _ => none
    | some (.isub, 1, nx, _, _) => match st with
      | .int y :: .int x :: r => some (none, nx, l, .int (x - y) :: r)
      | _ => none
    | some (.iand, 1, nx, _, _) => match st with
      | .int y :: .int x :: r => some (none, nx, l, .int (x &&& y) :: r)
      | _ => none
    | some (.i2l, 1, nx, _, _) => match st with
      | .int x :: r => some (none, nx, l, .long x.toInt64 :: r)
      | _ => none
    | some (.lshl, 1, nx, _, _) => match st with
      | .int y :: .long x :: r => some (none, nx, l, .long (x <<< (y.toInt64 &&& 63)) :: r)
      | _ => none
    | some (.land, 1, nx, _, _) => match st with
      | .long y :: .long x :: r => some (none, nx, l, .long (x &&& y) :: r)
      | _ => none
    | some (.lor, 1, nx, _, _) => match st with
      | .long y :: .long x :: r => some (none, nx, l, .long (x ||| y) :: r)
      | _ => none
    | some (.lcmp, 1, nx, _, _) => match st with
      | .long y :: .long x :: r => some (none, nx, l, .int (lg_cmp x y) :: r)
      | _ => none
    | some (.goto _, 3, _, tg, _) => some (none, tg, l, st)
    | some (.arraylength, 1, nx, _, _) => match st with
      | .ref q :: r => some (some (q = b), nx, l, .int (Int32.ofNat L) :: r)
      | _ => none
    | some (.iaload, 1, nx, _, _) => match st with
      | .int j :: .ref q :: r => some (some (q = b ∧ vp_in j L), nx, l, .int (xs j.toNatClampNeg) :: r)
      | _ => none
    | _ => none
def lxn (b L : Nat) (xs : Nat → Int32) : Nat → LF → Option (Prop × LF)
  | 0, f => some (True, f)
  | n + 1, f => match lx b L xs f with
    | none => none
    | some (none, f1) => lxn b L xs n f1
    | some (some P, f1) => match lxn b L xs n f1 with
      | none => none
      | some (Q, f2) => some (P ∧ Q, f2)
def lbr : LF → Option (Prop × LF × LF)
  | (pc, l, st) => match zfe mL_law pc with
    | some (.if_icmp c _, 3, nx, tg, _) => match st with
      | .int y :: .int x :: r => some (zbx c x y, (tg, l, r), (nx, l, r))
      | _ => none
    | some (.ifCond c _, 3, nx, tg, _) => match st with
      | .int x :: r => some (zbx c x 0, (tg, l, r), (nx, l, r))
      | _ => none
    | _ => none
theorem kL_144 : Cond.constantLong R_law 144 4294967295 ∈ zT := zT_at 9141 (by decide +kernel) rfl
section Law
variable {p : Program} {l0 : Launch} {e : Env} {s : State} {m : MethodId} {below : List Frame} {meth : Method} {c : Code} {b L : Nat} {xs : Nat → Int32} {H : Heap} {locs : List Loc} {cells slots : Nat} {Q : State → Prop}
/-- the law, at a frame -/
def LW (p : Program) (l0 : Launch) (e : Env) (s : State) (m : MethodId) (b : Nat) (below : List Frame) (meth : Method) (c : Code) (H : Heap) (locs : List Loc) (cells slots : Nat) (Q : State → Prop) (f : LF) : Prop :=
  ∀ ls : Array Slot, zlv (fun k => k) ls 7 f.2.1 → W p l0 e room_1 s m #[Value.ref b] below meth c H locs cells slots Q (F0 m f.1 ls f.2.2)
theorem ze_id (v : Value) : ze (fun k => k) v = v := by cases v <;> rfl
theorem lD {pc n nx tg : Nat} {i : Instr} {v : Int32} (hfe : zfe mL_law pc = some (i, n, nx, tg, v)) : decode code pc = .ok (i, n) ∧ nx = pc + n ∧ zTk i pc tg v = true := zfe_ok bL_law hfe
theorem lts (C0 : lw_At p s m meth c b L xs) : ∀ w ∈ zT, w.before #[Value.ref b] s = true := fun w hw => C0.2.2.2.2.2.1 w (List.mem_filter.mp hw).1
set_option maxHeartbeats 4000000 in
theorem lx_ok (C0 : lw_At p s m meth c b L xs) (hS : va_S (fun q : Nat => s.heap.size ≤ q) s.heap H locs) {f f' : LF} {P : Option Prop} (h : lx b L xs f = some (P, f')) (hP : ∀ q, P = some q → q) (k : LW p l0 e s m b below meth c H locs cells slots Q f') : LW p l0 e s m b below meth c H locs cells slots Q f := by
  have hx := C0.1
  have hb := C0.2.1
  have hbl := C0.2.2.2.2.2.2.2.1
  have hbA : ¬ (fun q : Nat => s.heap.size ≤ q) b := Nat.not_le.mpr hbl
  have hX := C0.2.2.2.2.2.2.1
  have hown := C0.2.2.2.2.1
  obtain ⟨pc, l, st⟩ := f
  intro ls hl
  dsimp only at hl ⊢
  unfold lx at h
  dsimp only at h
  split at h
  · rename_i hfe
    obtain ⟨hd, rfl, -⟩ := lD hfe
    split at h
    · rename_i x hx2
      cases h
      exact lv_aload_n hx hb hd rfl (hl.2.2.2 _ _ hx2) (k ls hl)
    · cases h
  · rename_i hfe
    obtain ⟨hd, rfl, -⟩ := lD hfe
    split at h
    · rename_i x hx2
      cases h
      exact lv_iload hx hb hd (hl.2.2.2 _ _ hx2) (k ls hl)
    · cases h
  · rename_i k0 nx _ _ hfe
    obtain ⟨hd, rfl, -⟩ := lD hfe
    split at h
    · rename_i x rr
      cases hb2 : Nat.blt k0 l.length with
      | false => rw [hb2] at h; cases h
      | true =>
        rw [hb2] at h
        cases h
        exact lv_istore hx hb hd (zlv_has hl) (by rw [← hl.1]; exact Nat.le_of_ble_eq_true hb2) rfl (fun ls' h' => k ls' (zlv_st1 (v := .int x) hl h'))
    · cases h
  · rename_i k0 n0 nx tg v hfe
    obtain ⟨hd, rfl, ht⟩ := lD hfe
    split at h
    · rename_i x hx2
      cases h
      have hv : Int32.ofInt n0 = v := of_decide_eq_true ht
      obtain ⟨q, hq⟩ := List.getElem?_of_mem (zas_mem (ad := fun k => k) hx2)
      exact lv_iinc (v := x + v) hx hb hd (zlv_has hl) hq (by rw [hv]) (by rw [← hl.1]; exact (List.getElem?_eq_some_iff.mp hx2).1) rfl (fun ls' h' => k ls' (zlv_st1 (v := .int (x + v)) hl h'))
    · cases h
  · rename_i hfe
    obtain ⟨hd, rfl, ht⟩ := lD hfe
    cases h
    exact lv_iconst hx hb hd (of_decide_eq_true ht) (k ls hl)
  · rename_i hfe
    obtain ⟨hd, rfl, ht⟩ := lD hfe
    cases h
    exact lv_bipush hx hb hd (of_decide_eq_true ht) (k ls hl)
  · rename_i k0 nx _ _ hfe
    obtain ⟨hd, rfl, ht⟩ := lD hfe
    cases hb2 : Nat.beq k0 144 with
    | false => rw [hb2] at h; cases h
    | true =>
      rw [hb2] at h
      cases h
      cases Nat.eq_of_beq_eq_true hb2
      exact lv_ldc2 hx hb hown (lts C0 _ kL_144) hd (k ls hl)
  · rename_i hfe
    obtain ⟨hd, rfl, -⟩ := lD hfe
    split at h
    · cases h
      exact lv_iadd hx hb hd (k ls hl)
    · cases h
  · rename_i hfe
    obtain ⟨hd, rfl, -⟩ := lD hfe
    split at h
    · cases h
      exact lv_isub hx hb hd (k ls hl)
    · cases h
  · rename_i hfe
    obtain ⟨hd, rfl, -⟩ := lD hfe
    split at h
    · cases h
      exact lv_iand hx hb hd (k ls hl)
    · cases h
  · rename_i hfe
    obtain ⟨hd, rfl, -⟩ := lD hfe
    split at h
    · cases h
      exact lv_i2l hx hb hd rfl (k ls hl)
    · cases h
  · rename_i hfe
    obtain ⟨hd, rfl, -⟩ := lD hfe
    split at h
    · cases h
      exact lv_lshl hx hb hd rfl (k ls hl)
    · cases h
  · rename_i hfe
    obtain ⟨hd, rfl, -⟩ := lD hfe
    split at h
    · cases h
      exact lv_land hx hb hd (k ls hl)
    · cases h
  · rename_i hfe
    obtain ⟨hd, rfl, -⟩ := lD hfe
    split at h
    · cases h
      exact lv_lor hx hb hd (k ls hl)
    · cases h
  · rename_i hfe
    obtain ⟨hd, rfl, -⟩ := lD hfe
    split at h
    · cases h
      exact W.lcmp hx hb hd (k ls hl)
    · cases h
  · rename_i hfe
    obtain ⟨hd, -, ht⟩ := lD hfe
    cases h
    exact lv_goto hx hb hd (of_decide_eq_true ht) (k ls hl)
  · rename_i hfe
    obtain ⟨hd, rfl, -⟩ := lD hfe
    split at h
    · cases h
      have e := hP _ rfl
      subst e
      exact va_slen hx hb hX hbl hbA hS hd (k ls hl)
    · cases h
  · rename_i hfe
    obtain ⟨hd, rfl, -⟩ := lD hfe
    split at h
    · cases h
      obtain ⟨e, hin⟩ := hP _ rfl
      subst e
      exact va_sld hx hb hX hbl hbA hS hin hd (k ls hl)
    · cases h
  · cases h
theorem LW_n (C0 : lw_At p s m meth c b L xs) (hS : va_S (fun q : Nat => s.heap.size ≤ q) s.heap H locs) (n : Nat) : ∀ {f f' : LF} {P : Prop}, lxn b L xs n f = some (P, f') → P → LW p l0 e s m b below meth c H locs cells slots Q f' → LW p l0 e s m b below meth c H locs cells slots Q f := by
  induction n with
  | zero => intro f f' P h hP k; cases h; exact k
  | succ n ih =>
    intro f f' P h hP k
    unfold lxn at h
    split at h
    · cases h
    · rename_i f1 h1
      exact lx_ok C0 hS h1 (fun q hq => by cases hq) (ih h hP k)
    · rename_i P1 f1 h1
      split at h
      · cases h
      · rename_i Q1 f2 h2
        cases h
        exact lx_ok C0 hS h1 (fun q hq => by cases hq; exact hP.1) (ih h2 hP.2 k)
theorem LW_b (C0 : lw_At p s m meth c b L xs) {f fa fb : LF} {cc : Prop} (h : lbr f = some (cc, fa, fb)) (ht : cc → LW p l0 e s m b below meth c H locs cells slots Q fa) (hf : ¬ cc → LW p l0 e s m b below meth c H locs cells slots Q fb) : LW p l0 e s m b below meth c H locs cells slots Q f := by
  have hx := C0.1
  have hb := C0.2.1
  obtain ⟨pc, l, st⟩ := f
  intro ls hl
  dsimp only at hl ⊢
  unfold lbr at h
  dsimp only at h
  split at h
  · rename_i c0 off nx tg v hfe
    obtain ⟨hd, rfl, hk⟩ := lD hfe
    have hg : (pc : Int) + off = (tg : Int) := of_decide_eq_true hk
    split at h
    · cases h
      cases c0 with
      | eq => exact lv_icmp_eq hx hb hd hg (fun q => ht q ls hl) (fun q => hf q ls hl)
      | ne => exact lv_icmp_ne hx hb hd hg (fun q => ht q ls hl) (fun q => hf (fun z => z q) ls hl)
      | lt => exact lv_icmp_lt hx hb hd hg (fun q => ht q ls hl) (fun q => hf q ls hl)
      | ge => exact lv_icmp_ge hx hb hd hg (fun q => ht q ls hl) (fun q => hf q ls hl)
      | gt => exact lv_icmp_gt hx hb hd hg (fun q => ht q ls hl) (fun q => hf q ls hl)
      | le => exact lv_icmp_le hx hb hd hg (fun q => ht q ls hl) (fun q => hf q ls hl)
    · cases h
  · rename_i c0 off nx tg v hfe
    obtain ⟨hd, rfl, hk⟩ := lD hfe
    have hg : (pc : Int) + off = (tg : Int) := of_decide_eq_true hk
    split at h
    · cases h
      cases c0 with
      | eq => exact lv_if_eq hx hb hd hg (fun q => ht q ls hl) (fun q => hf q ls hl)
      | ne => exact lv_if_ne hx hb hd hg (fun q => ht q ls hl) (fun q => hf (fun z => z q) ls hl)
      | lt => exact lv_if_lt hx hb hd hg (fun q => ht q ls hl) (fun q => hf q ls hl)
      | ge => exact lv_if_ge hx hb hd hg (fun q => ht q ls hl) (fun q => hf q ls hl)
      | gt => exact lv_if_gt hx hb hd hg (fun q => ht q ls hl) (fun q => hf q ls hl)
      | le => exact lv_if_le hx hb hd hg (fun q => ht q ls hl) (fun q => hf q ls hl)
    · cases h
  · cases h
end Law
/-- two worlds apart -/
def wap (w1 w2 : va_W) : Prop := ∀ p ∈ w1, ∀ q ∈ w2, p.1 ≠ q.1
theorem va_at_lt {D : va_G} {cl : List vw_C} {q : Nat × va_E} {H : Heap} (h : va_at D cl q H) : q.1 < H.size := by
  obtain ⟨a, x⟩ := q
  cases x with
  | inl y => exact (Array.getElem?_eq_some_iff.mp h).1
  | inr o =>
    obtain ⟨r, -, cell, h1, -⟩ := h
    exact (Array.getElem?_eq_some_iff.mp h1).1
theorem va_P_at {D : va_G} {cl : List vw_C} {ws : va_W} {H : Heap} (h : va_P D cl ws H) {q : Nat × va_E} (hq : q ∈ ws) : va_at D cl q H := by
  obtain ⟨k, hk⟩ := List.getElem?_of_mem hq
  exact h k q hk
theorem wap_out {D : va_G} {cl : List vw_C} {w1 w2 : va_W} {H : Heap} (hP : va_P D cl w2 H) (ha : wap w1 w2) {q : Nat × va_E} (hq : q ∈ w2) : ¬ va_A w1 H.size q.1 := by
  rintro (⟨k, x, hk⟩ | h)
  · exact ha _ (List.mem_of_getElem? hk) q hq rfl
  · exact absurd (va_at_lt (va_P_at hP hq)) (Nat.not_lt.mpr h)
theorem wap_keep {D : va_G} {cl : List vw_C} {w1 w2 : va_W} {H H1 : Heap} (hP : va_P D cl w2 H) (ha : wap w1 w2) (hk : ∀ q : Nat, q < H.size → ¬ va_A w1 H.size q → H1[q]? = H[q]?) : va_P D cl w2 H1 := by
  intro k q hq
  have hm := List.mem_of_getElem? hq
  exact va_at.kept (hP k q hq) (hk q.1 (va_at_lt (va_P_at hP hm)) (wap_out hP ha hm))
theorem wap_new {D : va_G} {cl : List vw_C} {w1 w1' w2 : va_W} {H : Heap} (hP : va_P D cl w2 H) (ha : wap w1 w2) (hD : va_D (va_A w1 H.size) w1') : wap w1' w2 := by
  intro p hp q hq e
  obtain ⟨k, hk⟩ := List.getElem?_of_mem hp
  have h1 := hD.2 k p hk
  rw [e] at h1
  exact wap_out hP ha hq h1
theorem wap_symm {w1 w2 : va_W} (h : wap w1 w2) : wap w2 w1 := fun p hp q hq e => h q hq p hp e.symm
