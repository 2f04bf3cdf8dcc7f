/-! An automaton as it arises, as a value: how many states, their kernels, where they go, the queue. -/
abbrev ZAS : Type := Nat × (Nat → Nat → Int32) × (Nat → Nat → Option Nat) × List Nat
/-- does a state take a kernel: 0 as it is, 1 weakly, 2 by its core -/
def zdt (kd : Nat) (k N : Nat → Int32) : Prop := if kd = 0 then ∀ i, i < 102 → k i = N i else if kd = 1 then zco k N ∧ zwk k N else zco k N
/-- the first below n -/
def zfst (p : Nat → Bool) : Nat → Option Nat
  | 0 => none
  | n + 1 => match zfst p n with
    | some a => some a
    | none => if p n = true then some n else none
theorem zfst_s {p : Nat → Bool} {n a : Nat} (h : zfst p n = some a) : a < n ∧ p a = true ∧ ∀ b, b < a → p b = false := by
  induction n with
  | zero => cases h
  | succ n ih =>
    rw [zfst] at h
    cases hz : zfst p n with
    | some c =>
      rw [hz] at h
      cases h
      obtain ⟨h1, h2, h3⟩ := ih hz
      exact ⟨by omega, h2, h3⟩
    | none =>
      rw [hz] at h
      dsimp only at h
      by_cases z : p n = true
      · rw [if_pos z] at h
        have e := Option.some.inj h
        refine ⟨by omega, by rw [← e]; exact z, fun b hb => ?_⟩
        clear ih
        have key : ∀ m, zfst p m = none → ∀ b, b < m → p b = false := by
          intro m
          induction m with
          | zero => intro _ b hb; omega
          | succ m ihm =>
            intro hm b hb
            rw [zfst] at hm
            cases hy : zfst p m with
            | some c => rw [hy] at hm; cases hm
            | none =>
              rw [hy] at hm
              dsimp only at hm
              by_cases y : b = m
              · subst y
                cases hpb : p b with
                | false => rfl
                | true => rw [if_pos hpb] at hm; cases hm
              · exact ihm hy b (by omega)
        exact key n hz b (by omega)
      · rw [if_neg z] at h; cases h
theorem zfst_n {p : Nat → Bool} {n : Nat} : zfst p n = none ↔ ∀ b, b < n → p b = false := by
  induction n with
  | zero => exact ⟨fun _ b hb => by omega, fun _ => rfl⟩
  | succ n ih =>
    rw [zfst]
    cases hz : zfst p n with
    | some c =>
      refine ⟨fun h => (by cases h), fun h => ?_⟩
      obtain ⟨h1, h2, -⟩ := zfst_s hz
      rw [h c (by omega)] at h2
      cases h2
    | none =>
      dsimp only
      rw [hz] at ih
      have ih := ih.mp rfl
      cases hp : p n with
      | true => exact ⟨fun h => (by rw [if_pos rfl] at h; cases h), fun h => (by rw [h n (by omega)] at hp; cases hp)⟩
      | false =>
        refine ⟨fun _ b hb => ?_, fun _ => by rw [if_neg (by decide)]⟩
        by_cases y : b = n
        · subst y; exact hp
        · exact ih b (by omega)
theorem zfst_i {p : Nat → Bool} {n a : Nat} (h1 : a < n) (h2 : p a = true) (h3 : ∀ b, b < a → p b = false) : zfst p n = some a := by
  cases hz : zfst p n with
  | none => rw [zfst_n.mp hz a h1] at h2; cases h2
  | some c =>
    obtain ⟨c1, c2, c3⟩ := zfst_s hz
    rcases Nat.lt_trichotomy a c with z | z | z
    · rw [c3 a z] at h2; cases h2
    · rw [z]
    · rw [h3 c z] at c2; cases c2
/-- the state that takes it; was: where it went so far -/
noncomputable def ztk (kd : Nat) (K : Nat → Nat → Int32) (m : Nat) (N : Nat → Int32) (was : Option Nat) : Option Nat :=
  if zcB (kd = 1 ∧ ∃ w, was = some w ∧ zdt kd (K w) N) = true then was else zfst (fun s => zcB (zdt kd (K s) N)) m
def zgU (go : Nat → Nat → Option Nat) (s b t : Nat) : Nat → Nat → Option Nat := fun s' b' => if s' = s ∧ b' = b then some t else go s' b'
def zKU (K : Nat → Nat → Int32) (t : Nat) (k : Nat → Int32) : Nat → Nat → Int32 := fun s => if s = t then k else K s
/-- by one letter, over the closure C of the state s -/
noncomputable def zby (G : ZGT) (kd s : Nat) (C : Nat → Int32) (b : Nat) (A : ZAS) : Option ZAS :=
  if zcB (∀ i, i < 102 → zNX G C b i = 0) = true then some A else
  match ztk kd A.2.1 A.1 (zNX G C b) (A.2.2.1 s b) with
  | some t => some (A.1, zKU A.2.1 t (fun i => A.2.1 t i ||| zNX G C b i), zgU A.2.2.1 s b t, if zcB ((∃ i, i < 102 ∧ A.2.1 t i ||| zNX G C b i ≠ A.2.1 t i) ∧ t ∉ A.2.2.2) = true then A.2.2.2 ++ [t] else A.2.2.2)
  | none => if A.1 = 200 then none else some (A.1 + 1, zKU A.2.1 A.1 (zNX G C b), zgU (fun s' b' => if s' = A.1 then none else A.2.2.1 s' b') s b A.1, A.2.2.2 ++ [A.1])
noncomputable def zbys (G : ZGT) (kd s : Nat) (C : Nat → Int32) (A : ZAS) : Nat → Option ZAS
  | 0 => some A
  | b + 1 => match zbys G kd s C A b with
    | none => none
    | some A' => zby G kd s C b A'
/-- the closure of a kernel -/
noncomputable def zcl (G : ZGT) (E : Int32) (F k : Nat → Int32) : Nat → Int32 := @Classical.epsilon (Nat → Int32) ⟨fun _ => 0⟩ (fun C => zlC G E F k C)
theorem zcl_ok {G : ZGT} {E : Int32} {F k C : Nat → Int32} (h : zlC G E F k C) : zlC G E F k (zcl G E F k) := @Classical.epsilon_spec_aux (Nat → Int32) ⟨fun _ => 0⟩ (fun C => zlC G E F k C) ⟨C, h⟩
theorem zcl_eq {G : ZGT} {E : Int32} {F k C : Nat → Int32} (h : zlC G E F k C) {i : Nat} (hi : i < 102) : zcl G E F k i = C i := zlC_un (zcl_ok h) h hi
/-- the first of the queue is gone through -/
noncomputable def zexp (G : ZGT) (E : Int32) (F : Nat → Int32) (kd : Nat) (A : ZAS) : Option ZAS := match A.2.2.2 with
  | [] => some A
  | s :: q => zbys G kd s (zcl G E F (A.2.1 s)) (A.1, A.2.1, A.2.2.1, q) 14
noncomputable def zitr (G : ZGT) (E : Int32) (F : Nat → Int32) (kd : Nat) (A : ZAS) : Nat → Option ZAS
  | 0 => some A
  | n + 1 => match zitr G E F kd A n with
    | none => none
    | some A' => zexp G E F kd A'
section ZItr
variable {G : ZGT} {E : Int32} {F : Nat → Int32} {kd : Nat} {A A1 A2 : ZAS}
theorem zitr_end {n : Nat} (h : zitr G E F kd A n = some A1) (hq : A1.2.2.2 = []) : ∀ d, zitr G E F kd A (n + d) = some A1
  | 0 => h
  | d + 1 => by
    show (match zitr G E F kd A (n + d) with | none => none | some A' => zexp G E F kd A') = _
    rw [zitr_end h hq d]
    dsimp only
    unfold zexp
    rw [hq]
theorem zitr_no {n : Nat} (h : zitr G E F kd A n = none) : ∀ d, zitr G E F kd A (n + d) = none
  | 0 => h
  | d + 1 => by
    show (match zitr G E F kd A (n + d) with | none => none | some A' => zexp G E F kd A') = _
    rw [zitr_no h d]
theorem zitr_un {n m : Nat} (h : zitr G E F kd A n = some A1) (hq : A1.2.2.2 = []) (h' : zitr G E F kd A m = some A2) (hq' : A2.2.2.2 = []) : A1 = A2 := by
  have h1 := zitr_end h hq m
  have h2 := zitr_end h' hq' n
  rw [Nat.add_comm m n, h1] at h2
  exact Option.some.inj h2
theorem zitr_ny {n m : Nat} (h : zitr G E F kd A n = some A1) (hq : A1.2.2.2 = []) (h' : zitr G E F kd A m = none) : False := by
  have h1 := zitr_end h hq m
  have h2 := zitr_no h' n
  rw [Nat.add_comm m n, h1] at h2
  cases h2
end ZItr
/-- what is left to do, at most -/
def sct (K : Nat → Nat → Int32) : Nat → Nat
  | 0 => 0
  | m + 1 => sct K m + (3264 - ctn (K m) 102)
def muA (A : ZAS) : Nat := (200 - A.1) * 3265 + sct A.2.1 A.1 + A.2.2.2.length
theorem sct_le (K : Nat → Nat → Int32) : ∀ m, sct K m ≤ 3264 * m
  | 0 => Nat.le_refl _
  | m + 1 => by have := sct_le K m; rw [sct]; omega
theorem sct_cg {K K' : Nat → Nat → Int32} : ∀ m, (∀ s, s < m → ctn (K s) 102 = ctn (K' s) 102) → sct K m = sct K' m
  | 0, _ => rfl
  | m + 1, h => by rw [sct, sct, sct_cg m (fun s hs => h s (by omega)), h m (by omega)]
theorem sct_up {K : Nat → Nat → Int32} {t : Nat} {k : Nat → Int32} : ∀ m, t < m → sct (zKU K t k) m + (3264 - ctn (K t) 102) = sct K m + (3264 - ctn k 102)
  | 0, h => by omega
  | m + 1, h => by
    rw [sct, sct]
    by_cases z : t = m
    · subst z
      rw [sct_cg (K := zKU K t k) (K' := K) t (fun s hs => by unfold zKU; rw [if_neg (by omega)]), show zKU K t k t = k from if_pos rfl]
      omega
    · have ih := sct_up (K := K) (t := t) (k := k) m (by omega)
      rw [show zKU K t k m = K m from if_neg (fun y => z y.symm)]
      omega
/-- what holds of it all along -/
def ZAI (G : ZGT) (A : ZAS) : Prop :=
  (1 ≤ A.1 ∧ A.1 ≤ 200) ∧ (∀ s, s ∈ A.2.2.2 → s < A.1) ∧ A.2.2.2.Nodup ∧ (∀ s, s < A.1 → ∀ b t, A.2.2.1 s b = some t → t < A.1) ∧
  ∀ s, s < A.1 → zk0 G (A.2.1 s) ∧ (∀ i, i < 102 → 6 * (zgR G + 1) ≤ i → A.2.1 s i = 0) ∧ ∃ i, i < 102 ∧ A.2.1 s i ≠ 0
theorem zNX_hi {G : ZGT} (hG : GW G) {C : Nat → Int32} {b i : Nat} (hi : 6 * (zgR G + 1) ≤ i) : zNX G C b i = 0 := by
  unfold zNX
  refine if_neg (fun z => ?_)
  obtain ⟨h1, h2, h3, -⟩ := z
  have e : (i - 1) / 6 = zgR G := by omega
  rw [e, hG.2.2.2.1] at h3
  omega
theorem ztk_lt {kd : Nat} {K : Nat → Nat → Int32} {m : Nat} {N : Nat → Int32} {was : Option Nat} {t : Nat} (h : ztk kd K m N was = some t) (hw : ∀ w, was = some w → w < m) : t < m ∧ zdt kd (K t) N := by
  unfold ztk at h
  by_cases z : kd = 1 ∧ ∃ w, was = some w ∧ zdt kd (K w) N
  · rw [zcB_t z, if_pos rfl] at h
    obtain ⟨-, w, hw1, hw2⟩ := z
    rw [hw1] at h
    cases h
    exact ⟨hw t hw1, hw2⟩
  · rw [zcB_f z, if_neg (by decide)] at h
    obtain ⟨h1, h2, -⟩ := zfst_s h
    exact ⟨h1, zcB_iff.mp h2⟩
theorem zdt_co {kd : Nat} {k N : Nat → Int32} (h : zdt kd k N) : zco k N := by
  unfold zdt at h
  by_cases z : kd = 0
  · rw [if_pos z] at h
    intro i hi
    rw [h i hi]
  · rw [if_neg z] at h
    by_cases y : kd = 1
    · rw [if_pos y] at h; exact h.1
    · rw [if_neg y] at h; exact h
theorem or_z {x y : Int32} (h : x = 0 ↔ y = 0) : (x ||| y = 0) ↔ x = 0 := by
  refine ⟨fun z => bsub_an (by rw [← z]; exact bsub_l) bsub_0, fun z => by rw [z, h.mp z]; decide⟩
theorem zby_AI {G : ZGT} (hG : GW G) {kd s b : Nat} {C : Nat → Int32} {A A' : ZAS} (h : ZAI G A) (hs : s < A.1) (e : zby G kd s C b A = some A') : ZAI G A' ∧ A.1 ≤ A'.1 ∧ muA A' ≤ muA A := by
  obtain ⟨m, K, go, q⟩ := A
  obtain ⟨⟨h1, h2⟩, h3, h4, h5, h6⟩ := h
  dsimp only at h1 h2 h3 h4 h5 h6 hs
  unfold zby at e
  dsimp only at e
  by_cases z : ∀ i, i < 102 → zNX G C b i = 0
  · rw [zcB_t z, if_pos rfl] at e
    cases e
    exact ⟨⟨⟨h1, h2⟩, h3, h4, h5, h6⟩, Nat.le_refl _, Nat.le_refl _⟩
  rw [zcB_f z, if_neg (by decide)] at e
  have hNe : ∃ i, i < 102 ∧ zNX G C b i ≠ 0 := Classical.byContradiction fun y => z (fun i hi => Classical.byContradiction fun w => y ⟨i, hi, w⟩)
  cases ht : ztk kd K m (zNX G C b) (go s b) with
  | some t =>
    rw [ht] at e
    dsimp only at e
    obtain ⟨t1, t2⟩ := ztk_lt ht (fun w hw => h5 s hs b w hw)
    have hco := zdt_co t2
    have hsc := sct_up (K := K) (t := t) (k := fun i => K t i ||| zNX G C b i) m t1
    have hct := ctn_le (K t) 102
    have hcu : ctn (K t) 102 ≤ ctn (fun i => K t i ||| zNX G C b i) 102 := ctn_up 102 (fun i _ => bsub_l)
    have hct2 := ctn_le (fun i => K t i ||| zNX G C b i) 102
    have hcommon : ∀ q', (∀ s, s ∈ q' → s < m) → q'.Nodup → ZAI G (m, zKU K t (fun i => K t i ||| zNX G C b i), zgU go s b t, q') := by
      intro q' hq1 hq2
      refine ⟨⟨h1, h2⟩, hq1, hq2, fun s' hs' b' t' hg => ?_, fun s' hs' => ?_⟩
      · unfold zgU at hg
        dsimp only at hg
        by_cases y : s' = s ∧ b' = b
        · rw [if_pos y] at hg; cases hg; exact t1
        · rw [if_neg y] at hg; exact h5 s' hs' b' t' hg
      · dsimp only
        unfold zKU
        by_cases y : s' = t
        · rw [if_pos y]
          obtain ⟨a1, a2, i, hi, a3⟩ := h6 t t1
          refine ⟨fun r hr => ?_, fun i hi hh => ?_, i, hi, fun w => a3 ((or_z (hco i hi)).mp w)⟩
          · show K t (6 * r) ||| zNX G C b (6 * r) = 0
            rw [a1 r hr, zNX_k0 hG r hr]; decide
          · show K t i ||| zNX G C b i = 0
            rw [a2 i hi hh, zNX_hi hG hh]; decide
        · rw [if_neg y]; exact h6 s' hs'
    by_cases w : (∃ i, i < 102 ∧ K t i ||| zNX G C b i ≠ K t i) ∧ t ∉ q
    · rw [zcB_t w, if_pos rfl] at e
      cases e
      have hlt : ctn (K t) 102 < ctn (fun i => K t i ||| zNX G C b i) 102 := ctn_lt 102 (fun i _ => bsub_l) (by obtain ⟨i, hi, hne⟩ := w.1; exact ⟨i, hi, fun y => hne y.symm⟩)
      refine ⟨hcommon _ (fun x hx => ?_) ?_, Nat.le_refl _, ?_⟩
      · rcases List.mem_append.mp hx with hx | hx
        · exact h3 x hx
        · rw [List.mem_singleton.mp hx]; exact t1
      · rw [List.nodup_append]
        exact ⟨h4, by simp, fun a ha c hc => by rw [List.mem_singleton.mp hc]; exact fun y => w.2 (by rw [← y]; exact ha)⟩
      · unfold muA
        dsimp only
        rw [List.length_append, List.length_singleton]
        omega
    · rw [zcB_f w, if_neg (by decide)] at e
      cases e
      refine ⟨hcommon q h3 h4, Nat.le_refl _, ?_⟩
      unfold muA
      dsimp only
      omega
  | none =>
    rw [ht] at e
    dsimp only at e
    by_cases w : m = 200
    · rw [if_pos w] at e; cases e
    · rw [if_neg w] at e
      cases e
      refine ⟨⟨⟨by dsimp only; omega, by dsimp only; omega⟩, fun x hx => ?_, ?_, fun s' hs' b' t' hg => ?_, fun s' hs' => ?_⟩, by dsimp only; omega, ?_⟩
      · dsimp only at hx ⊢
        rcases List.mem_append.mp hx with hx | hx
        · have := h3 x hx; omega
        · rw [List.mem_singleton.mp hx]; omega
      · dsimp only
        rw [List.nodup_append]
        exact ⟨h4, by simp, fun a ha c hc => by rw [List.mem_singleton.mp hc]; have := h3 a ha; omega⟩
      · dsimp only at hs' hg ⊢
        unfold zgU at hg
        by_cases y : s' = s ∧ b' = b
        · rw [if_pos y] at hg; cases hg; omega
        · rw [if_neg y] at hg
          have hg : (if s' = m then none else go s' b') = some t' := hg
          by_cases y2 : s' = m
          · rw [if_pos y2] at hg; cases hg
          · rw [if_neg y2] at hg
            have := h5 s' (by omega) b' t' hg
            omega
      · dsimp only at hs' ⊢
        unfold zKU
        by_cases y : s' = m
        · rw [if_pos y]
          exact ⟨zNX_k0 hG, fun i hi hh => zNX_hi hG hh, hNe⟩
        · rw [if_neg y]; exact h6 s' (by omega)
      · unfold muA
        dsimp only
        rw [List.length_append, List.length_singleton, sct, sct_cg (K := zKU K m (zNX G C b)) (K' := K) m (fun s hs => by unfold zKU; rw [if_neg (by omega)])]
        have hm1 : (200 - (m + 1)) * 3265 + 3265 = (200 - m) * 3265 := by
          rw [← Nat.succ_mul]
          congr 1
          omega
        omega
