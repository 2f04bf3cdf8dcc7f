/-! Reading, as a value: counters (depth, steps, read, done), rows (states, below, start, high; rules, sizes, aheads, starts, heights). -/
abbrev ZRS : Type := (Nat → Nat) × (Nat → Nat → Int32)
def imx (x y : Int32) : Int32 := if x < y then y else x
def zps (a : Nat → Int32) (d : Nat) : Nat → Int32
  | 0 => 0
  | c + 1 => zps a d c + a (d - (c + 1))
def zpm (a : Nat → Int32) (d : Nat) : Nat → Int32
  | 0 => 0
  | c + 1 => imx (zpm a d c) (a (d - (c + 1)))
def zpf (a : Nat → Int32) (d : Nat) (x : Int32) : Nat → Int32
  | 0 => x
  | c + 1 => a (d - (c + 1))
def zrw (X : ZRS) (i : Nat) : Nat := (X.2 0 i).toNatClampNeg
/-- a state comes behind -/
def zph (X : ZRS) (s : Nat) (b f h : Int32) : ZRS := (updN X.1 0 (X.1 0 + 1), updA (updA (updA (updA X.2 0 (X.1 0) (nI s)) 1 (X.1 0) b) 2 (X.1 0) f) 3 (X.1 0) h)
/-- a rule's letters go, the rule is noted -/
def zpo (G : ZGT) (X : ZRS) (r : Nat) : ZRS := (updN (updN X.1 0 (X.1 0 - zgn G r)) 3 (X.1 3 + 1), updA (updA (updA (updA (updA X.2 4 (X.1 3) (nI r)) 5 (X.1 3) (zps (X.2 1) (X.1 0) (zgn G r))) 6 (X.1 3) (nI (X.1 2) - zps (X.2 1) (X.1 0) (zgn G r))) 7 (X.1 3) (zpf (X.2 2) (X.1 0) (nI (X.1 2)) (zgn G r))) 8 (X.1 3) (zpm (X.2 3) (X.1 0) (zgn G r) + 1))
/-- where it goes by a name -/
noncomputable def zgoo (G : ZGT) (N : ZNM) (p : Int32) (md t k nm : Nat) : Option Nat := if md = 2 then zaxs G N p k t 6 (N.2.2 k (8 + nm)) else N.2.2 k (8 + nm)
noncomputable def zre (G : ZGT) (N : ZNM) (p : Int32) (md t r : Nat) (X : ZRS) : Nat × ZRS :=
  if X.1 0 - zgn G r = 100 then (2, zpo G X r) else
  match zgoo G N p md t (zrw X (X.1 0 - zgn G r - 1)) (zgl G r) with
  | none => (2, zpo G X r)
  | some g => (3, zph (zpo G X r) g (zps (X.2 1) (X.1 0) (zgn G r)) (zpf (X.2 2) (X.1 0) (nI (X.1 2)) (zgn G r)) (zpm (X.2 3) (X.1 0) (zgn G r) + 1))
/-- one action: 0 errs, 1 well, 2 lost, 3 reduces, 4 shifts -/
noncomputable def zao (G : ZGT) (N : ZNM) (p : Int32) (md t : Nat) (X : ZRS) : Nat × ZRS :=
  let a := ztl G (zcl G (zE0 G) (zF0 G) (N.2.1 (zrw X (X.1 0 - 1)))) (N.2.2 (zrw X (X.1 0 - 1))) p t (decide (md = 1))
  if a = -1 then (0, X) else if X.1 1 = 300 then (2, X) else
  if a = 999 then (1, (updN X.1 1 (X.1 1 + 1), X.2)) else
  match zix a (zgR G) with
  | some r => zre G N p md t r (updN X.1 1 (X.1 1 + 1), X.2)
  | none => if X.1 0 = 100 then (2, (updN X.1 1 (X.1 1 + 1), X.2)) else (4, zph (updN X.1 1 (X.1 1 + 1), X.2) (a - 1000).toNatClampNeg 1 (nI (X.1 2)) 0)
/-- a row of states, each the next one's goal -/
def ZRW (N : ZNM) (X : ZRS) : Prop := (1 ≤ X.1 0 ∧ X.1 0 ≤ 100) ∧ zrw X 0 = 0 ∧ (∀ i, i < X.1 0 → X.2 0 i = nI (zrw X i) ∧ zrw X i < N.1) ∧ (∀ i, i + 1 < X.1 0 → ∃ b, b < 14 ∧ N.2.2 (zrw X i) b = some (zrw X (i + 1))) ∧ X.1 3 ≤ X.1 1 ∧ X.1 1 ≤ 300
section ZLR
variable {G : ZGT} {N : ZNM} {p : Int32} {X : ZRS}
theorem zdfs_pos {n : Nat → Nat} : ∀ R r, (zdfs n R).1 = some r → 0 < n r
  | 0, r, h => by cases h
  | R + 1, r, h => by
    rw [zdfs] at h
    by_cases y : (zdfs n R).2 < n R
    · rw [if_pos y] at h
      cases h
      omega
    · rw [if_neg y] at h
      exact zdfs_pos R r h
theorem zcnt_pos {q : Nat → Bool} : ∀ n, 0 < zcnt q n → ∃ i, i < n ∧ q i = true
  | 0, h => by cases h
  | n + 1, h => by
    rw [zcnt] at h
    by_cases y : q n = true
    · exact ⟨n, by omega, y⟩
    · rw [if_neg y] at h
      obtain ⟨i, a, b⟩ := zcnt_pos n h
      exact ⟨i, by omega, b⟩
theorem zac_C (hG : GW G) {C : Nat → Int32} {g : Nat → Option Nat} {t r : Nat} (hg : ∀ s, zsh G g t = some s → s < 200) (hr : r < zgR G) (h : zac G C g p t = nI r) : C (6 * r + zgn G r) ≠ 0 := by
  have hR := hG.1.2.1
  unfold zac at h
  by_cases y : zov G C t = true
  · rw [if_pos y] at h
    have := (nI_eq (a := 999) (b := r) (by omega) (by omega)).mp h
    omega
  rw [if_neg y] at h
  by_cases z : zrd G C g p t = true
  · rw [if_pos z] at h
    cases hl : zlo G C t with
    | none => rw [hl] at h; exact absurd h.symm (nI_m1 (by omega))
    | some q =>
      rw [hl] at h
      obtain ⟨q1, q2, -⟩ := zfst_s hl
      have e : q = r := (nI_eq (by omega) (by omega)).mp h
      subst e
      intro hz
      unfold zcrd at q2
      rw [hz, b_0] at q2
      cases q2
  rw [if_neg z] at h
  cases hs : zsh G g t with
  | none => rw [hs] at h; exact absurd h.symm (nI_m1 (by omega))
  | some s =>
    rw [hs] at h
    have := hg s hs
    have h : (1000 : Int32) + nI s = nI r := h
    rw [show (1000 : Int32) = nI 1000 from rfl, nI_add] at h
    have := (nI_eq (by omega) (by omega)).mp h
    omega
theorem ztl_C (hG : GW G) {C : Nat → Int32} {g : Nat → Option Nat} {t r : Nat} {d : Bool} (hg : ∀ t s, zsh G g t = some s → s < 200) (hr : r < zgR G) (h : ztl G C g p t d = nI r) : C (6 * r + zgn G r) ≠ 0 := by
  have hR := hG.1.2.1
  unfold ztl at h
  split at h
  · split at h
    · exact zac_C hG (hg t) hr h
    · exact absurd h.symm (nI_m1 (by omega))
  · cases hz : zdf G (zac G C g p) with
    | none => rw [hz] at h; exact absurd h.symm (nI_m1 (by omega))
    | some q =>
      rw [hz] at h
      have hq := zdfs_lt _ _ hz
      have e : q = r := (nI_eq (by omega) (by omega)).mp h
      subst e
      have hp : 0 < zus G (zac G C g p) q := zdfs_pos _ _ hz
      obtain ⟨i, -, hi⟩ := zcnt_pos _ hp
      exact zac_C hG (hg i) hr (of_decide_eq_true hi)
/-- a rule at its beginning in a closure: its name stands behind a dot there -/
theorem zcl_name (hG : GW G) {E : Int32} {F k : Nat → Int32} (h0 : zk0 G k) {r : Nat} (hr : r < zgR G) (h : zcl G E F k (6 * r) ≠ 0) : ∃ q d, q ≤ zgR G ∧ d < zgn G q ∧ zgt G q d = 8 + zgl G r ∧ zcl G E F k (6 * q + d) ≠ 0 := by
  refine Classical.byContradiction (fun y => h ?_)
  have hls := zcl_ls G E F k
  have hc : zcC G E F k (fun i => if i % 6 = 0 ∧ i / 6 < zgR G ∧ zgl G (i / 6) = zgl G r then 0 else zcl G E F k i) := by
    refine ⟨fun i hi => ?_, fun q hq d hd h8 hne x hx hxi hxl => ?_⟩
    · dsimp only
      split
      · rename_i z
        have e : i = 6 * (i / 6) := by omega
        rw [e, h0 _ z.2.1]
        exact bsub_0
      · exact hls.1.1 i hi
    · dsimp only at hne ⊢
      have hne2 : zcl G E F k (6 * q + d) ≠ 0 := by
        intro w
        apply hne
        split
        · rfl
        · exact w
      have hcl := hls.1.2 q hq d hd h8 hne2 x hx hxi hxl
      have hnot : ¬ (6 * x % 6 = 0 ∧ 6 * x / 6 < zgR G ∧ zgl G (6 * x / 6) = zgl G r) := fun w => by
        refine y ⟨q, d, hq, hd, ?_, hne2⟩
        rw [show 6 * x / 6 = x by omega] at w
        rw [← w.2.2, hxl]
        omega
      rw [if_neg hnot]
      have he : (if (6 * q + d) % 6 = 0 ∧ (6 * q + d) / 6 < zgR G ∧ zgl G ((6 * q + d) / 6) = zgl G r then (0 : Int32) else zcl G E F k (6 * q + d)) = zcl G E F k (6 * q + d) := by
        split
        · rename_i w
          exfalso
          exact hne (if_pos w)
        · rfl
      rw [he]
      exact hcl
  have hR := hG.1.2.1
  have := hls.2 _ hc (6 * r) (by omega)
  rw [if_pos ⟨by omega, by omega, by rw [show 6 * r / 6 = r by omega]⟩] at this
  exact bsub_an this bsub_0
/-- an item in the state on top was at its beginning so far back -/
theorem zrw_item (hG : GW G) (hF : ZNF G N) (hW : ZRW N X) {r : Nat} (hr : r < zgR G) : ∀ d i, i < X.1 0 → d ≤ zgn G r → zcl G (zE0 G) (zF0 G) (N.2.1 (zrw X i)) (6 * r + d) ≠ 0 → d ≤ i ∧ zcl G (zE0 G) (zF0 G) (N.2.1 (zrw X (i - d))) (6 * r) ≠ 0 := by
  have hR := hG.1.2.1
  have h5 := (hG.2.2.1 r (by omega)).1
  obtain ⟨-, w0, w1, w2, -⟩ := hW
  intro d
  induction d with
  | zero => intro i hi _ h; exact ⟨Nat.zero_le _, h⟩
  | succ d ih =>
    intro i hi hd h
    have hs := (w1 i hi).2
    rw [zcl_K hG (O := fun _ => 0) (hF.2.1 _ hs).1 (by omega) (Or.inl (by omega))] at h
    cases i with
    | zero =>
      exfalso
      rw [w0] at h
      refine h ((hF.2.2.2.1 _ (by omega)).mpr ?_)
      unfold zk00
      exact upd_ne (by omega)
    | succ i =>
      obtain ⟨b, hb, hg⟩ := w2 i hi
      rcases hF.2.2.1 _ (w1 i (by omega)).2 b hb with ⟨e, -⟩ | ⟨t, e, ht, hz⟩
      · rw [e] at hg; cases hg
      · rw [e] at hg
        have hg := Option.some.inj hg
        subst hg
        have hn : zNX G (zcl G (zE0 G) (zF0 G) (N.2.1 (zrw X i))) b (6 * r + (d + 1)) ≠ 0 := fun y => h ((hz _ (by omega)).mpr y)
        unfold zNX at hn
        have hc : zcl G (zE0 G) (zF0 G) (N.2.1 (zrw X i)) (6 * r + (d + 1) - 1) ≠ 0 := fun y => by
          apply hn
          split
          · exact y
          · rfl
        obtain ⟨a1, a2⟩ := ih i (by omega) (by omega) hc
        exact ⟨by omega, by rw [show i + 1 - (d + 1) = i - d by omega]; exact a2⟩
/-- what is to be reduced lies in the row, and its name goes on -/
theorem zLR (hG : GW G) (hF : ZNF G N) (hW : ZRW N X) {t r : Nat} {d : Bool} (hr : r < zgR G) (h : ztl G (zcl G (zE0 G) (zF0 G) (N.2.1 (zrw X (X.1 0 - 1)))) (N.2.2 (zrw X (X.1 0 - 1))) p t d = nI r) : zgn G r < X.1 0 ∧ zrw X (X.1 0 - zgn G r - 1) < N.1 ∧ ∃ g, g < N.1 ∧ N.2.2 (zrw X (X.1 0 - zgn G r - 1)) (8 + zgl G r) = some g := by
  have hd := hW.1
  have hs := (hW.2.2.1 (X.1 0 - 1) (by omega)).2
  have hc := ztl_C hG (fun t => hF.sh hG hs (t := t)) hr h
  obtain ⟨a1, a2⟩ := zrw_item hG hF hW hr (zgn G r) (X.1 0 - 1) (by omega) (Nat.le_refl _) hc
  rw [show X.1 0 - 1 - zgn G r = X.1 0 - zgn G r - 1 by omega] at a2
  have hq := (hW.2.2.1 (X.1 0 - zgn G r - 1) (by omega)).2
  refine ⟨by omega, hq, ?_⟩
  have hl := hG.2.1 r hr
  have hN := hG.1.2.2.2.1
  obtain ⟨x, e, x1, x2, x3, x4⟩ := zcl_name hG (hF.2.1 _ hq).1 hr a2
  rcases hF.2.2.1 _ hq (8 + zgl G r) (by omega) with ⟨-, hz⟩ | ⟨g, hg, hgn, -⟩
  · exfalso
    have h5 := (hG.2.2.1 x x1).1
    have hR := hG.1.2.1
    have := hz (6 * x + e + 1) (by omega)
    unfold zNX at this
    rw [if_pos ⟨by omega, by rw [show (6 * x + e + 1 - 1) / 6 = x by omega]; exact x1, by rw [show (6 * x + e + 1 - 1) / 6 = x by omega, show (6 * x + e + 1 - 1) % 6 = e by omega]; exact x2, by rw [show (6 * x + e + 1 - 1) / 6 = x by omega, show (6 * x + e + 1 - 1) % 6 = e by omega]; exact x3⟩] at this
    exact x4 this
  · exact ⟨g, hgn, hg⟩
/-- bridges go by a name of a state's own -/
theorem zaxs_or (hG : GW G) (hF : ZNF G N) {k t : Nat} (hk : k < N.1) : ∀ n s, ∃ s', zaxs G N p k t n (some s) = some s' ∧ (s' = s ∨ ∃ b, b < 14 ∧ N.2.2 k b = some s') := by
  intro n
  induction n with
  | zero => intro s; exact ⟨s, rfl, Or.inl rfl⟩
  | succ n ih =>
    intro s
    rw [zaxs]
    cases hz : zur G (ztl G (zcl G (zE0 G) (zF0 G) (N.2.1 s)) (N.2.2 s) p t false) with
    | none => exact ⟨s, rfl, Or.inl rfl⟩
    | some r =>
      dsimp only
      have hr := (zfst_s hz).1
      have hl := hG.2.1 r hr
      have hN := hG.1.2.2.2.1
      cases hg : N.2.2 k (8 + zgl G r) with
      | none => exact ⟨s, rfl, Or.inl rfl⟩
      | some s1 =>
        obtain ⟨s', a, b⟩ := ih s1
        refine ⟨s', a, Or.inr ?_⟩
        rcases b with b | b
        · exact ⟨8 + zgl G r, by omega, by rw [b]; exact hg⟩
        · exact b
theorem zgoo_ok (hG : GW G) (hF : ZNF G N) {md t k nm g : Nat} (hk : k < N.1) (hn : nm < 6) (h : N.2.2 k (8 + nm) = some g) : ∃ s b, zgoo G N p md t k nm = some s ∧ s < N.1 ∧ b < 14 ∧ N.2.2 k b = some s := by
  have hgl : ∀ b s, b < 14 → N.2.2 k b = some s → s < N.1 := fun b s hb hs => by
    rcases hF.2.2.1 k hk b hb with ⟨e, -⟩ | ⟨t', e, ht', -⟩
    · rw [e] at hs; cases hs
    · rw [e] at hs; cases hs; exact ht'
  unfold zgoo
  split
  · rw [h]
    obtain ⟨s', a, b⟩ := zaxs_or (p := p) hG hF (t := t) hk 6 g
    rcases b with b | ⟨b, b1, b2⟩
    · exact ⟨s', 8 + nm, a, hgl (8 + nm) _ (by omega) (by rw [b]; exact h), by omega, by rw [b]; exact h⟩
    · exact ⟨s', b, a, hgl _ _ b1 b2, b1, b2⟩
  · exact ⟨g, 8 + nm, h, hgl _ _ (by omega) h, by omega, h⟩
end ZLR
