/-! Rn: from this frame the method comes to its end, with the answer r, the world at s'. -/
section ZRun
variable {S : Type}
def ZC (M : MD) (p : Program) (s : State) (m : MethodId) (args : Array Value) (meth : Method) (c : Code) : Prop :=
  p.tables.exec = Jvm.exec ∧ c.code = M.2.2.1 ∧ c.maxLocals = M.2.2.2.1 ∧ meth.sig.returnType = M.2.2.2.2.1 ∧ (∀ w ∈ zT, w.before args s = true) ∧ s.vm.findClass M.2.1.cls = some m.cls ∧ meth.locks = false ∧ ZMo M ∧ meth.name = M.2.1.name ∧ zNf s
def ZH (Z : ZW S) (dC : Nat → ClassId) (dI : Nat → Nat → Nat) (dA : Nat → ClassId) (ad : Nat → Nat) (A : Nat → Prop) (s0 : State) (H : Heap) (locs : List Loc) (s : S) : Prop :=
  va_P (dC, dI) vwCl (zws Z dA ad s) H ∧ va_K (dC, dI) vwCl (ztys dA) s0 ∧ va_D A (zws Z dA ad s) ∧ va_S A s0.heap H locs ∧ (∀ q, s0.heap.size ≤ q → A q) ∧ ∀ k, Z.2.1 s ≤ k → ad k = 0
def zQ (Z : ZW S) (dC : Nat → ClassId) (dI : Nat → Nat → Nat) (dA : Nat → ClassId) (ad0 : Nat → Nat) (nn : Nat) (A : Nat → Prop) (r : Option Value) (s' : S) : Array Value → State → Outcome → State → Prop := fun _ st oc t =>
  (∃ ad' : Nat → Nat, (∀ k, k < nn → ad' k = ad0 k) ∧ (∀ k, Z.2.1 s' ≤ k → ad' k = 0) ∧ oc = .returned (r.map (ze ad')) ∧ va_P (dC, dI) vwCl (zws Z dA ad' s') t.heap ∧ va_K (dC, dI) vwCl (ztys dA) t ∧ va_D A (zws Z dA ad' s')) ∧ va_F A st t
def Rn (Z : ZW S) (M : MD) (f : ZF S) (r : Option Value) (s' : S) : Prop :=
  (Z.2.1 f.2.2.2 ≤ Z.2.1 s' ∧ Z.2.2.1 f.2.2.2 ≤ Z.2.2.1 s') ∧
  ∀ (p : Program) (l : Launch) (e : Env) (R : Room) (s : State) (m : MethodId) (args : Array Value) (below : List Frame) (meth : Method) (c : Code) (H : Heap) (locs : List Loc) (ls : Array Slot) (A : Nat → Prop) (dC : Nat → ClassId) (dI : Nat → Nat → Nat) (dA : Nat → ClassId) (ad ad0 : Nat → Nat) (nn k0 n0 : Nat),
    ZC M p s m args meth c → (M.2.2.2.2.2.1.1 ≤ R.frames ∧ M.2.2.2.2.2.1.2.1 ≤ R.locals ∧ Z.2.1 s' - k0 ≤ R.cells ∧ Z.2.2.1 s' - n0 ≤ R.slots) →
    ZH Z dC dI dA ad A s H locs f.2.2.2 → zlv ad ls M.2.2.2.1 f.2.1 → (nn ≤ Z.2.1 f.2.2.2 ∧ ∀ k, k < nn → ad k = ad0 k) → (k0 ≤ Z.2.1 f.2.2.2 ∧ n0 ≤ Z.2.2.1 f.2.2.2) →
    W p l e R s m args below meth c H locs (Z.2.1 f.2.2.2 - k0) (Z.2.2.1 f.2.2.2 - n0) (MQ below (zQ Z dC dI dA ad0 nn A r s') args s (Z.2.1 s' - k0) (Z.2.2.1 s' - n0) A) (F0 m f.1 ls (f.2.2.1.map (ze ad)))
variable {Z : ZW S} {M : MD} {pc nx n tg : Nat} {i : Instr} {v : Int32} {l l' : List (Option Value)} {st st' : List Value} {s s' sE : S} {r : Option Value}
theorem zD {p : Program} {s0 : State} {m : MethodId} {args : Array Value} {meth : Method} {c : Code} (hC : ZC M p s0 m args meth c) (hfe : zfe M pc = some (i, n, nx, tg, v)) : decode M.2.2.1 pc = .ok (i, n) ∧ nx = pc + n ∧ zTk i pc tg v = true := zfe_ok hC.2.2.2.2.2.2.2.1.1 hfe
/-- one step: what the row of the instruction gives -/
theorem Rn_gen (hc : Z.2.1 s' = Z.2.1 s ∧ Z.2.2.1 s' = Z.2.2.1 s)
    (hx : ∀ (p : Program) (l0 : Launch) (e : Env) (R : Room) (s0 : State) (m : MethodId) (args : Array Value) (below : List Frame) (meth : Method) (c : Code) (H : Heap) (locs : List Loc) (cells slots : Nat) (Q : State → Prop) (ls : Array Slot) (A : Nat → Prop) (dC : Nat → ClassId) (dI : Nat → Nat → Nat) (dA : Nat → ClassId) (ad : Nat → Nat),
      ZC M p s0 m args meth c → ZH Z dC dI dA ad A s0 H locs s → zlv ad ls M.2.2.2.1 l →
      (∀ (H' : Heap) (locs' : List Loc) (ls' : Array Slot), ZH Z dC dI dA ad A s0 H' locs' s' → zlv ad ls' M.2.2.2.1 l' → W p l0 e R s0 m args below meth c H' locs' cells slots Q (F0 m nx ls' (st'.map (ze ad)))) →
      W p l0 e R s0 m args below meth c H locs cells slots Q (F0 m pc ls (st.map (ze ad))))
    (k : Rn Z M (nx, l', st', s') r sE) : Rn Z M (pc, l, st, s) r sE := by
  obtain ⟨k1, k2⟩ := k
  dsimp only at k1 k2
  rw [hc.1, hc.2] at k1 k2
  refine ⟨k1, ?_⟩
  intro p l0 e R s0 m args below meth c H locs ls A dC dI dA ad ad0 nn k0 n0 hC hR hH hl ha hk
  dsimp only at hH hl ha hk ⊢
  exact hx p l0 e R s0 m args below meth c H locs _ _ _ ls A dC dI dA ad hC hH hl (fun H' locs' ls' h1 h2 => k2 p l0 e R s0 m args below meth c H' locs' ls' A dC dI dA ad ad0 nn k0 n0 hC hR h1 h2 ha hk)
/-- the locals and the heap stay -/
theorem Rn_pure (hx : ∀ (p : Program) (l0 : Launch) (e : Env) (R : Room) (s0 : State) (m : MethodId) (args : Array Value) (below : List Frame) (meth : Method) (c : Code) (H : Heap) (locs : List Loc) (cells slots : Nat) (Q : State → Prop) (ls : Array Slot) (A : Nat → Prop) (dC : Nat → ClassId) (dI : Nat → Nat → Nat) (dA : Nat → ClassId) (ad : Nat → Nat),
      ZC M p s0 m args meth c → ZH Z dC dI dA ad A s0 H locs s → zlv ad ls M.2.2.2.1 l →
      W p l0 e R s0 m args below meth c H locs cells slots Q (F0 m nx ls (st'.map (ze ad))) →
      W p l0 e R s0 m args below meth c H locs cells slots Q (F0 m pc ls (st.map (ze ad))))
    (k : Rn Z M (nx, l, st', s) r sE) : Rn Z M (pc, l, st, s) r sE :=
  Rn_gen ⟨rfl, rfl⟩ (fun p l0 e R s0 m args below meth c H locs cells slots Q ls A dC dI dA ad hC hH hl w => hx p l0 e R s0 m args below meth c H locs cells slots Q ls A dC dI dA ad hC hH hl (w H locs ls hH hl)) k
/-- only locals change -/
theorem Rn_loc (hx : ∀ (p : Program) (l0 : Launch) (e : Env) (R : Room) (s0 : State) (m : MethodId) (args : Array Value) (below : List Frame) (meth : Method) (c : Code) (H : Heap) (locs : List Loc) (cells slots : Nat) (Q : State → Prop) (ls : Array Slot) (ad : Nat → Nat),
      ZC M p s0 m args meth c → zlv ad ls M.2.2.2.1 l →
      (∀ ls' : Array Slot, zlv ad ls' M.2.2.2.1 l' → W p l0 e R s0 m args below meth c H locs cells slots Q (F0 m nx ls' (st'.map (ze ad)))) →
      W p l0 e R s0 m args below meth c H locs cells slots Q (F0 m pc ls (st.map (ze ad))))
    (k : Rn Z M (nx, l', st', s) r sE) : Rn Z M (pc, l, st, s) r sE :=
  Rn_gen ⟨rfl, rfl⟩ (fun p l0 e R s0 m args below meth c H locs cells slots Q ls A dC dI dA ad hC hH hl w => hx p l0 e R s0 m args below meth c H locs cells slots Q ls ad hC hl (fun ls' h => w H locs ls' hH h)) k
/-- a world's writes are what they say -/
def ZOk (Z : ZW S) : Prop :=
  (∀ (s : S) (a k : Nat) (v : Value) (s' : S), Z.2.2.2.1 s a k v = some s' → a < Z.2.1 s → (Z.2.1 s' = Z.2.1 s ∧ Z.2.2.1 s' = Z.2.2.1 s) ∧ (∀ b, b ≠ a → Z.1 s' b = Z.1 s b) ∧ ∀ ci fs, Z.1 s a = .inr (ci, fs) → k < fs.length → Z.1 s' a = .inr (ci, fs.set k v)) ∧
  (∀ (s : S) (a k : Nat) (x : Int32) (s' : S), Z.2.2.2.2.1 s a k x = some s' → a < Z.2.1 s → (Z.2.1 s' = Z.2.1 s ∧ Z.2.2.1 s' = Z.2.2.1 s) ∧ (∀ b, b ≠ a → Z.1 s' b = Z.1 s b) ∧ ∀ t nn g, Z.1 s a = .inl (t, nn, .inl g) → Z.1 s' a = .inl (t, nn, .inl (upd g k x))) ∧
  (∀ (s : S) (a k : Nat) (x : Int64) (s' : S), Z.2.2.2.2.2 s a k x = some s' → a < Z.2.1 s → (Z.2.1 s' = Z.2.1 s ∧ Z.2.2.1 s' = Z.2.2.1 s) ∧ (∀ b, b ≠ a → Z.1 s' b = Z.1 s b) ∧ ∀ t nn g, Z.1 s a = .inl (t, nn, .inr (.inl g)) → Z.1 s' a = .inl (t, nn, .inr (.inl (vp_updL g k x))))
theorem zws_set {dA : Nat → ClassId} {ad : Nat → Nat} {a : Nat} (hc : Z.2.1 s' = Z.2.1 s) (ho : ∀ b, b ≠ a → Z.1 s' b = Z.1 s b) : zws Z dA ad s' = (zws Z dA ad s).set a (ad a, zcc dA ad (Z.1 s' a)) := by
  apply List.ext_getElem?
  intro k
  by_cases hk : k = a
  · subst hk
    rw [List.getElem?_set]
    simp only [if_true, zws, hc, List.length_map, List.length_range]
    split
    · rename_i h; simp [h]
    · rename_i h; simp [Nat.le_of_not_lt h]
  · rw [List.getElem?_set_ne (fun q => hk q.symm)]
    simp only [zws, hc, List.getElem?_map]
    cases hq : (List.range (Z.2.1 s))[k]? with
    | none => rfl
    | some j =>
      have : j = k := by
        have := List.getElem?_eq_some_iff.mp hq
        obtain ⟨h1, h2⟩ := this
        simpa using h2.symm
      subst this
      simp only [Option.map_some, ho j hk]
/-- the locals: weaker -/
theorem Rn_le (hl : zle l' l) (k : Rn Z M (pc, l', st, s) r sE) : Rn Z M (pc, l, st, s) r sE := by
  obtain ⟨k1, k2⟩ := k
  refine ⟨k1, ?_⟩
  intro p l0 e R s0 m args below meth c H locs ls A dC dI dA ad ad0 nn k0 n0 hC hR hH hlv ha hk
  exact k2 p l0 e R s0 m args below meth c H locs ls A dC dI dA ad ad0 nn k0 n0 hC hR hH (zlv_le hlv hl) ha hk
end ZRun
