/-! A small machine over pure states, and its step function; its steps are steps of the JVM (zst_ok below).
S: the pure states of a world; ids number its cells; a value's references are ids. -/
abbrev zc : Type := (Nat × vp_A) ⊕ (Nat × List Value)
abbrev MD : Type := Nat × MethodName × ByteArray × Nat × Option FieldType × (Nat × Nat × Nat) × (Nat → Option (Instr × Nat × Nat × Nat × Int32))
abbrev ZF (S : Type) : Type := Nat × List (Option Value) × List Value × S
/-- a world: cell of an id, how many ids, how many slots, writes to a field, to an array of ints, of longs -/
abbrev ZW (S : Type) : Type := (S → Nat → zc) × (S → Nat) × (S → Nat) × (S → Nat → Nat → Value → Option S) × (S → Nat → Nat → Int32 → Option S) × (S → Nat → Nat → Int64 → Option S)
def zfe (M : MD) (pc : Nat) : Option (Instr × Nat × Nat × Nat × Int32) := bif Nat.blt pc M.2.2.2.2.2.1.2.2 then M.2.2.2.2.2.2 pc else none
def zTk (i : Instr) (pc tg : Nat) (v : Int32) : Bool := match i with
  | .if_icmp _ off => decide ((pc : Int) + off = (tg : Int))
  | .ifCond _ off => decide ((pc : Int) + off = (tg : Int))
  | .goto off => decide ((pc : Int) + off = (tg : Int))
  | .ifnonnull off => decide ((pc : Int) + off = (tg : Int))
  | .iconst n => decide (Int32.ofInt n = v)
  | .bipush n => decide ((Int8.ofInt n).toInt32 = v)
  | .sipush n => decide ((Int16.ofInt n).toInt32 = v)
  | .iinc _ n => decide (Int32.ofInt n = v)
  | _ => true
def zMb (M : MD) : Bool := (List.range M.2.2.2.2.2.1.2.2).all fun pc => match M.2.2.2.2.2.2 pc with
  | none => true
  | some (i, n, nx, tg, v) => decide (decode M.2.2.1 pc = .ok (i, n)) && Nat.beq nx (pc + n) && zTk i pc tg v
theorem zfe_ok {M : MD} (hM : zMb M = true) {pc n nx tg : Nat} {i : Instr} {v : Int32} (h : zfe M pc = some (i, n, nx, tg, v)) : decode M.2.2.1 pc = .ok (i, n) ∧ nx = pc + n ∧ zTk i pc tg v = true := by
  unfold zfe at h
  cases hb : Nat.blt pc M.2.2.2.2.2.1.2.2 with
  | false => rw [hb] at h; cases h
  | true =>
    rw [hb] at h
    have h1 : pc < M.2.2.2.2.2.1.2.2 := Nat.le_of_ble_eq_true hb
    have h2 := List.all_eq_true.mp hM pc (List.mem_range.mpr h1)
    have h3 : M.2.2.2.2.2.2 pc = some (i, n, nx, tg, v) := h
    rw [h3] at h2
    simp only [Bool.and_eq_true, decide_eq_true_eq] at h2
    exact ⟨h2.1.1, Nat.eq_of_beq_eq_true h2.1.2, h2.2⟩
def ze (ad : Nat → Nat) (v : Value) : Value := match v with
  | .ref k => .ref (ad k)
  | v => v
theorem ze_cat (ad : Nat → Nat) (v : Value) : (ze ad v).category = v.category := by cases v <;> rfl
def zca (ad : Nat → Nat) (a : vp_A) : vp_A := match a with
  | (n, .inr (.inr (.inr (.inr g)))) => (n, .inr (.inr (.inr (.inr (fun i => (g i).map ad)))))
  | a => a
def zcc (dA : Nat → ClassId) (ad : Nat → Nat) (x : zc) : va_E := match x with
  | .inl a => .inl (dA a.1, zca ad a.2)
  | .inr o => .inr (o.1, o.2.map (ze ad))
/-- the kinds of arrays: ints, booleans, longs, references -/
def ztys (dA : Nat → ClassId) : List (ClassId × FieldType) := [(dA 0, .int), (dA 1, .boolean), (dA 2, .long), (dA 3, .object "MinimalTables$Kernel"), (dA 4, .object "MinimalTables$Automaton"), (dA 5, .object "MinimalTables$Actions")]
def zws {S : Type} (Z : ZW S) (dA : Nat → ClassId) (ad : Nat → Nat) (s : S) : va_W := (List.range (Z.2.1 s)).map fun k => (ad k, zcc dA ad (Z.1 s k))
theorem zws_at {S : Type} {Z : ZW S} {dA : Nat → ClassId} {ad : Nat → Nat} {s : S} {k : Nat} (h : k < Z.2.1 s) : (zws Z dA ad s)[k]? = some (ad k, zcc dA ad (Z.1 s k)) := by
  simp [zws, h]
/-- locals -/
def zlv (ad : Nat → Nat) (ls : Array Slot) (nL : Nat) (l : List (Option Value)) : Prop := l.length = nL ∧ ls.size = nL ∧ lv_wf ls ∧ ∀ (i : Nat) (v : Value), l[i]? = some (some v) → ls[i]? = some (.val (ze ad v))
def zas (ad : Nat → Nat) (l : List (Option Value)) : List (Nat × Value) := (List.range l.length).filterMap fun i => match l[i]? with
  | some (some v) => some (i, ze ad v)
  | _ => none
theorem zas_mem {ad : Nat → Nat} {l : List (Option Value)} {i : Nat} {v : Value} (h : l[i]? = some (some v)) : (i, ze ad v) ∈ zas ad l := by
  refine List.mem_filterMap.mpr ⟨i, List.mem_range.mpr (List.getElem?_eq_some_iff.mp h).1, ?_⟩
  rw [h]
theorem zas_of {ad : Nat → Nat} {l : List (Option Value)} {q : Nat × Value} (h : q ∈ zas ad l) : ∃ v, l[q.1]? = some (some v) ∧ q.2 = ze ad v := by
  obtain ⟨i, -, hi⟩ := List.mem_filterMap.mp h
  split at hi
  · rename_i v hv
    cases hi
    exact ⟨v, hv, rfl⟩
  · cases hi
theorem zlv_has {ad : Nat → Nat} {ls : Array Slot} {nL : Nat} {l : List (Option Value)} (h : zlv ad ls nL l) : lv_has ls nL (zas ad l) := by
  refine ⟨h.2.1, h.2.2.1, fun q hq => ?_⟩
  obtain ⟨v, h1, h2⟩ := zas_of hq
  rw [h2]
  exact h.2.2.2 _ _ h1
/-- a store makes a long that stands one place before it void -/
def zk (l : List (Option Value)) (i : Nat) : List (Option Value) := match i with
  | 0 => l
  | j + 1 => match l[j]? with
    | some (some w) => bif Nat.beq w.category 2 then l.set j none else l
    | _ => l
def zst1 (l : List (Option Value)) (i : Nat) (v : Value) : List (Option Value) := (zk l i).set i (some v)
def zst2 (l : List (Option Value)) (i : Nat) (v : Value) : List (Option Value) := ((zk l i).set i (some v)).set (i + 1) none
theorem zk_len (l : List (Option Value)) (i : Nat) : (zk l i).length = l.length := by
  cases i with
  | zero => rfl
  | succ j =>
    simp only [zk]
    split
    · rename_i w _
      cases Nat.beq w.category 2 <;> simp
    · rfl
theorem zk_at {l : List (Option Value)} {i j : Nat} {w : Value} (h : (zk l i)[j]? = some (some w)) : l[j]? = some (some w) ∧ ¬ (j + 1 = i ∧ w.category = 2) := by
  cases i with
  | zero => exact ⟨h, fun q => absurd q.1 (Nat.succ_ne_zero j)⟩
  | succ k =>
    simp only [zk] at h
    split at h
    · rename_i u hu
      cases hb : Nat.beq u.category 2 with
      | true =>
        rw [hb] at h
        simp only [cond_true] at h
        by_cases hj : j = k
        · subst hj
          rw [List.getElem?_set] at h
          simp at h
        · rw [List.getElem?_set_ne (fun q => hj q.symm)] at h
          exact ⟨h, fun q => hj (Nat.succ.inj q.1)⟩
      | false =>
        rw [hb] at h
        simp only [cond_false] at h
        refine ⟨h, fun q => ?_⟩
        have hj : j = k := Nat.succ.inj q.1
        subst hj
        rw [hu] at h
        cases h
        rw [q.2] at hb
        cases hb
    · rename_i hn
      refine ⟨h, fun q => ?_⟩
      have hj : j = k := Nat.succ.inj q.1
      subst hj
      exact hn w h
theorem zlv_st1 {ad : Nat → Nat} {ls ls' : Array Slot} {nL i : Nat} {l : List (Option Value)} {v : Value} (h : zlv ad ls nL l) (h' : lv_has ls' nL ((i, ze ad v) :: (zas ad l).filter (fun q => !(q.1 == i) && !(q.1 + 1 == i && q.2.category == 2)))) : zlv ad ls' nL (zst1 l i v) := by
  refine ⟨by simp [zst1, zk_len, h.1], h'.1, h'.2.1, fun j w hj => ?_⟩
  unfold zst1 at hj
  by_cases e : i = j
  · subst e
    rw [List.getElem?_set] at hj
    split at hj
    · split at hj
      · cases hj
        exact h'.2.2 _ List.mem_cons_self
      · cases hj
    · rename_i q; exact absurd rfl q
  · rw [List.getElem?_set_ne e] at hj
    obtain ⟨h1, h2⟩ := zk_at hj
    refine h'.2.2 (j, ze ad w) (List.mem_cons_of_mem _ (List.mem_filter.mpr ⟨zas_mem h1, ?_⟩))
    simp only [Bool.and_eq_true, Bool.not_eq_true', beq_eq_false_iff_ne, ne_eq, Bool.and_eq_false_iff, ze_cat]
    refine ⟨fun q => e q.symm, ?_⟩
    by_cases q : j + 1 = i
    · exact Or.inr fun z => h2 ⟨q, z⟩
    · exact Or.inl q
theorem zlv_st2 {ad : Nat → Nat} {ls ls' : Array Slot} {nL i : Nat} {l : List (Option Value)} {v : Value} (h : zlv ad ls nL l) (h' : lv_has ls' nL ((i, ze ad v) :: (zas ad l).filter (fun q => !(q.1 == i) && (!(q.1 == i + 1) && !(q.1 + 1 == i && q.2.category == 2))))) : zlv ad ls' nL (zst2 l i v) := by
  refine ⟨by simp [zst2, zk_len, h.1], h'.1, h'.2.1, fun j w hj => ?_⟩
  unfold zst2 at hj
  by_cases e2 : i + 1 = j
  · subst e2
    rw [List.getElem?_set] at hj
    simp at hj
  · rw [List.getElem?_set_ne e2] at hj
    by_cases e : i = j
    · subst e
      rw [List.getElem?_set] at hj
      split at hj
      · split at hj
        · cases hj
          exact h'.2.2 _ List.mem_cons_self
        · cases hj
      · rename_i q; exact absurd rfl q
    · rw [List.getElem?_set_ne e] at hj
      obtain ⟨h1, h2⟩ := zk_at hj
      refine h'.2.2 (j, ze ad w) (List.mem_cons_of_mem _ (List.mem_filter.mpr ⟨zas_mem h1, ?_⟩))
      simp only [Bool.and_eq_true, Bool.not_eq_true', beq_eq_false_iff_ne, ne_eq, Bool.and_eq_false_iff, ze_cat]
      refine ⟨fun q => e q.symm, fun q => e2 q.symm, ?_⟩
      by_cases q : j + 1 = i
      · exact Or.inr fun z => h2 ⟨q, z⟩
      · exact Or.inl q
/-- fewer locals known -/
def zle (l' l : List (Option Value)) : Prop := match l', l with
  | [], [] => True
  | none :: a, _ :: b => zle a b
  | some v :: a, some w :: b => v = w ∧ zle a b
  | _, _ => False
theorem zle_len : ∀ {l' l : List (Option Value)}, zle l' l → l'.length = l.length
  | [], [], _ => rfl
  | none :: a, _ :: b, h => by simp only [List.length_cons]; rw [zle_len (l' := a) (l := b) h]
  | some v :: a, some w :: b, h => by simp only [List.length_cons]; rw [zle_len (l' := a) (l := b) h.2]
  | some v :: a, none :: b, h => h.elim
  | some v :: a, [], h => h.elim
  | none :: a, [], h => h.elim
  | [], _ :: _, h => h.elim
theorem zle_at : ∀ {l' l : List (Option Value)}, zle l' l → ∀ {i : Nat} {v : Value}, l'[i]? = some (some v) → l[i]? = some (some v)
  | [], [], _, i, v, hv => by simp at hv
  | none :: a, _ :: b, h, i, v, hv => by
    cases i with
    | zero => simp at hv
    | succ i => simp only [List.getElem?_cons_succ] at hv ⊢; exact zle_at (l' := a) (l := b) h hv
  | some v :: a, some w :: b, h, i, u, hv => by
    cases i with
    | zero => simp only [List.getElem?_cons_zero] at hv ⊢; rw [← h.1]; exact hv
    | succ i => simp only [List.getElem?_cons_succ] at hv ⊢; exact zle_at (l' := a) (l := b) h.2 hv
  | some v :: a, none :: b, h, _, _, _ => h.elim
  | some v :: a, [], h, _, _, _ => h.elim
  | none :: a, [], h, _, _, _ => h.elim
  | [], _ :: _, h, _, _, _ => h.elim
theorem zlv_le {ad : Nat → Nat} {ls : Array Slot} {nL : Nat} {l l' : List (Option Value)} (h : zlv ad ls nL l) (hl : zle l' l) : zlv ad ls nL l' := ⟨(zle_len hl).trans h.1, h.2.1, h.2.2.1, fun i v hi => h.2.2.2 i v (zle_at hl hi)⟩
def zT : List Cond := lw_tbl.filter goodWord
theorem zT_place {w : Cond} (p : Nat) (h : lw_tbl[p]? = some w) (hg : goodWord w = true) : w ∈ zT := List.mem_filter.mpr ⟨List.mem_of_getElem? h, hg⟩
theorem zT_good {w : Cond} (h : w ∈ zT) : (w.onTables && w.keeps) = true ∨ ∃ ty, w = .arrayClass ty := good_of_word (List.mem_filter.mp h).2
/-- fields by class number -/
def ztyF (ci k : Nat) : FieldType := (([tyX0, tyX1, tyX2, tyX3, tyX4, tyX5, tyX6, tyX7, tyX8, tyX9, tyX10, tyX11, tyX12] : List (Nat → FieldType)).getD ci (fun _ => .int)) k
def zfinF (ci k : Nat) : Bool := match (vwCl)[ci]? with
  | some (_, T, _) => (T k).2.2.2
  | none => true
/-- may a value be put into a field: what must hold of it -/
def zfit (t : FieldType) (v : Value) : Option (Option Prop) := match t, v with
  | .int, .int _ => some none
  | .long, .long _ => some none
  | .boolean, .int x => some (some (x = 0 ∨ x = 1))
  | _, _ => none
/-- one instruction that is neither a branch nor a call nor a return nor makes a cell: what it asks, and the next frame -/
def zex {S : Type} (Z : ZW S) (o : Nat) (i : Instr) (n nx tg : Nat) (v : Int32) (l : List (Option Value)) (st : List Value) (s : S) : Option (Option Prop × ZF S) :=
  match i, n with
  | .iload_n k, 1 => match l[k.val]? with
    | some (some (.int x)) => some (none, nx, l, .int x :: st, s)
    | _ => none
  | .iload k, 2 => match l[k]? with
    | some (some (.int x)) => some (none, nx, l, .int x :: st, s)
    | _ => none
  | .aload_n k, 1 => match l[k.val]? with
    | some (some (.ref x)) => some (none, nx, l, .ref x :: st, s)
    | _ => none
  | .aload k, 2 => match l[k]? with
    | some (some (.ref x)) => some (none, nx, l, .ref x :: st, s)
    | _ => none
  | .lload_n k, 1 => match l[k.val]? with
    | some (some (.long x)) => some (none, nx, l, .long x :: st, s)
    | _ => none
  | .lload k, 2 => match l[k]? with
    | some (some (.long x)) => some (none, nx, l, .long x :: st, s)
    | _ => none
  | .istore_n k, 1 => match st with
    | .int x :: r => bif Nat.blt k.val l.length then some (none, nx, zst1 l k.val (.int x), r, s) else none
    | _ => none
  | .istore k, 2 => match st with
    | .int x :: r => bif Nat.blt k l.length then some (none, nx, zst1 l k (.int x), r, s) else none
    | _ => none
  | .astore_n k, 1 => match st with
    | .ref x :: r => bif Nat.blt k.val l.length then some (none, nx, zst1 l k.val (.ref x), r, s) else none
    | _ => none
  | .astore k, 2 => match st with
    | .ref x :: r => bif Nat.blt k l.length then some (none, nx, zst1 l k (.ref x), r, s) else none
    | _ => none
  | .lstore_n k, 1 => match st with
    | .long x :: r => bif Nat.blt (k.val + 1) l.length then some (none, nx, zst2 l k.val (.long x), r, s) else none
    | _ => none
  | .lstore k, 2 => match st with
    | .long x :: r => bif Nat.blt (k + 1) l.length then some (none, nx, zst2 l k (.long x), r, s) else none
    | _ => none
  | .iinc k _, 3 => match l[k]? with
    | some (some (.int x)) => some (none, nx, zst1 l k (.int (x + v)), st, s)
    | _ => none
  | .iconst _, 1 => some (none, nx, l, .int v :: st, s)
  | .bipush _, 2 => some (none, nx, l, .int v :: st, s)
  | .sipush _, 3 => some (none, nx, l, .int v :: st, s)
  | .lconst k, 1 => some (none, nx, l, .long (Int64.ofNat k.val) :: st, s)
  | .ldc k, 2 => match zCT o k with
    | some q => some (none, nx, l, .int q.1 :: st, s)
    | none => none
  | .ldc_w k, 3 => match zCT o k with
    | some q => some (none, nx, l, .int q.1 :: st, s)
    | none => none
  | .ldc2_w k, 3 => match zCL o k with
    | some q => some (none, nx, l, .long q.1 :: st, s)
    | none => none
  | .iadd, 1 => match st with
    | .int y :: .int x :: r => some (none, nx, l, .int (x + y) :: r, s)
    | _ => none
  | .isub, 1 => match st with
    | .int y :: .int x :: r => some (none, nx, l, .int (x - y) :: r, s)
    | _ => none
  | .imul, 1 => match st with
    | .int y :: .int x :: r => some (none, nx, l, .int (x * y) :: r, s)
    | _ => none
  | .iand, 1 => match st with
    | .int y :: .int x :: r => some (none, nx, l, .int (x &&& y) :: r, s)
    | _ => none
  | .ior, 1 => match st with
    | .int y :: .int x :: r => some (none, nx, l, .int (x ||| y) :: r, s)
    | _ => none
  | .ixor, 1 => match st with
    | .int y :: .int x :: r => some (none, nx, l, .int (x ^^^ y) :: r, s)
    | _ => none
  | .ishl, 1 => match st with
    | .int y :: .int x :: r => some (none, nx, l, .int (x <<< (y &&& 31)) :: r, s)
    | _ => none
  | .ishr, 1 => match st with
    | .int y :: .int x :: r => some (none, nx, l, .int (x >>> (y &&& 31)) :: r, s)
    | _ => none
  | .iushr, 1 => match st with
    | .int y :: .int x :: r => some (none, nx, l, .int ((x.toUInt32 >>> (y.toUInt32 &&& Int32.toUInt32 31)).toInt32) :: r, s)
    | _ => none
  | .idiv, 1 => match st with
    | .int y :: .int x :: r => some (some (¬ y = 0), nx, l, .int (x / y) :: r, s)
    | _ => none
  | .irem, 1 => match st with
    | .int y :: .int x :: r => some (some (¬ y = 0), nx, l, .int (x - x / y * y) :: r, s)
    | _ => none
  | .ladd, 1 => match st with
    | .long y :: .long x :: r => some (none, nx, l, .long (x + y) :: r, s)
    | _ => none
  | .lmul, 1 => match st with
    | .long y :: .long x :: r => some (none, nx, l, .long (x * y) :: r, s)
    | _ => none
  | .lrem, 1 => match st with
    | .long y :: .long x :: r => some (some (¬ y = 0), nx, l, .long (x - x / y * y) :: r, s)
    | _ => none
  | .lushr, 1 => match st with
    | .int y :: .long x :: r => some (none, nx, l, .long ((x.toUInt64 >>> (y.toInt64.toUInt64 &&& Int64.toUInt64 63)).toInt64) :: r, s)
    | _ => none
  | .i2l, 1 => match st with
    | .int x :: r => some (none, nx, l, .long x.toInt64 :: r, s)
    | _ => none
  | .l2i, 1 => match st with
    | .long x :: r => some (none, nx, l, .int x.toInt32 :: r, s)
    | _ => none
  | .dup, 1 => match st with
    | a :: r => bif Nat.beq a.category 1 then some (none, nx, l, a :: a :: r, s) else none
    | _ => none
  | .pop, 1 => match st with
    | a :: r => bif Nat.beq a.category 1 then some (none, nx, l, r, s) else none
    | _ => none
  | .dup2, 1 => match st with
    | a :: b :: r => bif Nat.beq a.category 1 && Nat.beq b.category 1 then some (none, nx, l, a :: b :: a :: b :: r, s) else none
    | _ => none
  | .goto _, 3 => some (none, tg, l, st, s)
  | .getfield k, 3 => match zFR o k, st with
    | some (ci, j, _), .ref a :: r => match Z.1 s a with
      | .inr (cj, fs) => bif Nat.beq ci cj && Nat.blt a (Z.2.1 s) then (match fs[j]? with
        | some w => some (none, nx, l, w :: r, s)
        | none => none) else none
      | _ => none
    | _, _ => none
  | .putfield k, 3 => match zFR o k, st with
    | some (ci, j, _), w :: .ref a :: r => match Z.1 s a with
      | .inr (cj, fs) => bif Nat.beq ci cj && Nat.blt a (Z.2.1 s) && Nat.blt j fs.length && !(zfinF ci j) then (match zfit (ztyF ci j) w, Z.2.2.2.1 s a j w with
        | some q, some s' => some (q, nx, l, r, s')
        | _, _ => none) else none
      | _ => none
    | _, _ => none
  | .iaload, 1 => match st with
    | .int j :: .ref a :: r => match Z.1 s a with
      | .inl (0, nn, .inl g) => bif Nat.blt a (Z.2.1 s) then some (some (vp_in j nn), nx, l, .int (g j.toNatClampNeg) :: r, s) else none
      | _ => none
    | _ => none
  | .baload, 1 => match st with
    | .int j :: .ref a :: r => match Z.1 s a with
      | .inl (1, nn, .inl g) => bif Nat.blt a (Z.2.1 s) then some (some (vp_in j nn), nx, l, .int (g j.toNatClampNeg) :: r, s) else none
      | _ => none
    | _ => none
  | .laload, 1 => match st with
    | .int j :: .ref a :: r => match Z.1 s a with
      | .inl (2, nn, .inr (.inl g)) => bif Nat.blt a (Z.2.1 s) then some (some (vp_in j nn), nx, l, .long (g j.toNatClampNeg) :: r, s) else none
      | _ => none
    | _ => none
  | .aaload, 1 => match st with
    | .int j :: .ref a :: r => match Z.1 s a with
      | .inl (t, nn, .inr (.inr (.inr (.inr g)))) => bif Nat.blt a (Z.2.1 s) && Nat.blt 2 t && Nat.blt t 6 then some (some (vp_in j nn), nx, l, va_rf (g j.toNatClampNeg) :: r, s) else none
      | _ => none
    | _ => none
  | .iastore, 1 => match st with
    | .int x :: .int j :: .ref a :: r => match Z.1 s a with
      | .inl (0, nn, .inl _) => bif Nat.blt a (Z.2.1 s) then (match Z.2.2.2.2.1 s a j.toNatClampNeg x with
        | some s' => some (some (vp_in j nn), nx, l, r, s')
        | none => none) else none
      | _ => none
    | _ => none
  | .bastore, 1 => match st with
    | .int x :: .int j :: .ref a :: r => match Z.1 s a with
      | .inl (1, nn, .inl _) => bif Nat.blt a (Z.2.1 s) then (match Z.2.2.2.2.1 s a j.toNatClampNeg (vp_nar .boolean x) with
        | some s' => some (some (vp_in j nn), nx, l, r, s')
        | none => none) else none
      | _ => none
    | _ => none
  | .lastore, 1 => match st with
    | .long x :: .int j :: .ref a :: r => match Z.1 s a with
      | .inl (2, nn, .inr (.inl _)) => bif Nat.blt a (Z.2.1 s) then (match Z.2.2.2.2.2 s a j.toNatClampNeg x with
        | some s' => some (some (vp_in j nn), nx, l, r, s')
        | none => none) else none
      | _ => none
    | _ => none
  | .arraylength, 1 => match st with
    | .ref a :: r => match Z.1 s a with
      | .inl (t, q) => bif Nat.blt a (Z.2.1 s) && Nat.blt t 6 then some (none, nx, l, .int (Int32.ofNat q.1) :: r, s) else none
      | _ => none
    | _ => none
  | .ifnonnull _, 3 => match st with
    | .ref _ :: r => some (none, tg, l, r, s)
    | .null :: r => some (none, nx, l, r, s)
    | _ => none
  | _, _ => none
def zst {S : Type} (Z : ZW S) (M : MD) (f : ZF S) : Option (Option Prop × ZF S) := match zfe M f.1 with
  | none => none
  | some (i, n, nx, tg, v) => zex Z M.1 i n nx tg v f.2.1 f.2.2.1 f.2.2.2
/-- n instructions: what they ask, one behind the other -/
def zsteps {S : Type} (Z : ZW S) (M : MD) : Nat → ZF S → Option (Prop × ZF S)
  | 0, f => some (True, f)
  | n + 1, f => match zst Z M f with
    | none => none
    | some (none, f1) => zsteps Z M n f1
    | some (some P, f1) => match zsteps Z M n f1 with
      | none => none
      | some (Q, f2) => some (P ∧ Q, f2)
/-- a branch: its condition, where it goes if it holds, where else -/
def zbx (c : Jvm.ClassFile.Cond) (x y : Int32) : Prop := match c with
  | .eq => x = y
  | .ne => ¬ x = y
  | .lt => x < y
  | .ge => y ≤ x
  | .gt => y < x
  | .le => x ≤ y
def zbr {S : Type} (M : MD) (f : ZF S) : Option (Prop × ZF S × ZF S) := match zfe M f.1 with
  | some (.if_icmp c _, 3, nx, tg, _) => match f.2.2.1 with
    | .int y :: .int x :: r => some (zbx c x y, (tg, f.2.1, r, f.2.2.2), (nx, f.2.1, r, f.2.2.2))
    | _ => none
  | some (.ifCond c _, 3, nx, tg, _) => match f.2.2.1 with
    | .int x :: r => some (zbx c x 0, (tg, f.2.1, r, f.2.2.2), (nx, f.2.1, r, f.2.2.2))
    | _ => none
  | _ => none
