section ZRules
variable {S : Type} {Z : ZW S} {M M' : MD} {pc nx n tg : Nat} {i : Instr} {v : Int32} {l l' : List (Option Value)} {st st' : List Value} {s s' sE s1 : S} {r r1 : Option Value}
/-- calls: the callee first -/
theorem Rn_V (hM : ZMV M' n) {idx b : Nat} {as stk : List Value} (ev : Ev Z M' (.ref b :: as) s r1 s1) (hfe : zfe M pc = some (.invokevirtual idx, 3, nx, tg, v)) (hlk : Cond.methodLink M.2.1.cls idx M'.2.1 ∈ zT)
    (hst : stk = as.reverse ++ .ref b :: st) (hn : as.length = n) (hcr : zcr M M' st = true) (hrc : zrc Z M' s b = true) (hg : Z.2.1 s1 = Z.2.1 s)
    (k : Rn Z M (nx, l, r1.toList ++ st, s1) r sE) : Rn Z M (pc, l, stk, s) r sE := Rn_callV hfe hlk hM.2.2 ev hst hn hcr hrc (Or.inl hg) k
theorem Rn_S (hM : ZMT M' n) {idx : Nat} {as stk : List Value} (ev : Ev Z M' as s r1 s1) (hfe : zfe M pc = some (.invokestatic idx, 3, nx, tg, v)) (hlk : Cond.methodLink M.2.1.cls idx M'.2.1 ∈ zT)
    (hst : stk = as.reverse ++ st) (hn : as.length = n) (hcr : zcr M M' st = true) (hg : Z.2.1 s1 = Z.2.1 s)
    (k : Rn Z M (nx, l, r1.toList ++ st, s1) r sE) : Rn Z M (pc, l, stk, s) r sE := Rn_callS hfe hlk hM.2.2 ev hst hn hcr (Or.inl hg) k
/-- the same steps, by patterns (their answers come out plain) -/
def zs1 {S : Type} (Z : ZW S) (M : MD) : ZF S → Option (Option Prop × ZF S)
  | (pc, l, st, s) => match zfe M pc with
    | none => none
    | some (i, n, nx, tg, v) => zex Z M.1 i n nx tg v l st s
def zsn {S : Type} (Z : ZW S) (M : MD) : Nat → ZF S → Option (Prop × ZF S)
  | 0, f => some (True, f)
  | n + 1, f => match zs1 Z M f with
    | none => none
    | some (none, f1) => zsn Z M n f1
    | some (some P, f1) => match zsn Z M n f1 with
      | none => none
      | some (Q, f2) => some (P ∧ Q, f2)
theorem zs1_eq (f : ZF S) : zs1 Z M f = zst Z M f := by obtain ⟨pc, l, st, s⟩ := f; rfl
theorem zsn_eq (n : Nat) : ∀ f : ZF S, zsn Z M n f = zsteps Z M n f := by
  induction n with
  | zero => intro f; rfl
  | succ n ih =>
    intro f
    unfold zsn zsteps
    rw [zs1_eq]
    cases zst Z M f with
    | none => rfl
    | some q =>
      obtain ⟨P, f1⟩ := q
      cases P with
      | none => exact ih f1
      | some P => dsimp only; rw [ih f1]; cases zsteps Z M n f1 <;> rfl
/-- n instructions -/
theorem Rn_n (hZ : ZOk Z) (n : Nat) {f f' : ZF S} {P : Prop} (h : zsn Z M n f = some (P, f')) (hP : P) (k : Rn Z M f' r sE) : Rn Z M f r sE := Rn_go hZ n (by rw [← zsn_eq]; exact h) hP k
def zb1 {S : Type} (M : MD) : ZF S → Option (Prop × ZF S × ZF S)
  | (pc, l, st, s) => match zfe M pc with
    | some (.if_icmp c _, 3, nx, tg, _) => match st with
      | .int y :: .int x :: r => some (zbx c x y, (tg, l, r, s), (nx, l, r, s))
      | _ => none
    | some (.ifCond c _, 3, nx, tg, _) => match st with
      | .int x :: r => some (zbx c x 0, (tg, l, r, s), (nx, l, r, s))
      | _ => none
    | _ => none
theorem zb1_eq (f : ZF S) : zb1 M f = zbr M f := by obtain ⟨pc, l, st, s⟩ := f; rfl
/-- a branch -/
theorem Rn_b {f fa fb : ZF S} {c : Prop} (h : zb1 M f = some (c, fa, fb)) (ht : c → Rn Z M fa r sE) (hf : ¬ c → Rn Z M fb r sE) : Rn Z M f r sE := Rn_br (by rw [← zb1_eq]; exact h) ht hf
/-- n instructions, then a branch -/
theorem Rn_nb (hZ : ZOk Z) (n : Nat) {f f' fa fb : ZF S} {P c : Prop} (h : zsn Z M n f = some (P, f')) (hb : zb1 M f' = some (c, fa, fb)) (hP : P) (ht : c → Rn Z M fa r sE) (hf : ¬ c → Rn Z M fb r sE) : Rn Z M f r sE := Rn_n hZ n h hP (Rn_b hb ht hf)
end ZRules
