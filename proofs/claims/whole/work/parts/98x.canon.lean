/-! The sets, closures and the automaton of a grammar, by the grammar alone; which bits looks can have. -/
noncomputable def zE0 (G : ZGT) : Int32 := @Classical.epsilon Int32 ⟨0⟩ (zlE G)
noncomputable def zF0 (G : ZGT) : Nat → Int32 := @Classical.epsilon (Nat → Int32) ⟨fun _ => 0⟩ (zlF G (zE0 G))
noncomputable def zW0 (G : ZGT) : Nat → Int32 := @Classical.epsilon (Nat → Int32) ⟨fun _ => 0⟩ (zlW G (zE0 G) (zF0 G))
section ZCan
variable {G : ZGT} {E : Int32} {F F' W k C O : Nat → Int32}
theorem zE0_ok (h : zlE G E) : zlE G (zE0 G) := @Classical.epsilon_spec_aux Int32 ⟨0⟩ (zlE G) ⟨E, h⟩
theorem zE0_eq (h : zlE G E) : E = zE0 G := zlE_un h (zE0_ok h)
theorem zF0_ok (h : zlF G (zE0 G) F) : zlF G (zE0 G) (zF0 G) := @Classical.epsilon_spec_aux (Nat → Int32) ⟨fun _ => 0⟩ (zlF G (zE0 G)) ⟨F, h⟩
theorem zF0_eq (h : zlF G (zE0 G) F) : ∀ n, n < 6 → F n = zF0 G n := fun _ hn => zlF_un h (zF0_ok h) hn
theorem zLB_F (hG : GW G) {r i : Nat} (hr : r ≤ zgR G) (h : ∀ n, n < 6 → F n = F' n) (x : Int32) : zLB G E F r i x = zLB G E F' r i x := by
  unfold zLB
  rw [zFF_cg hG hr h]
theorem zcW_F (hG : GW G) (h : ∀ n, n < 6 → F n = F' n) (z : zcW G E F W) : zcW G E F' W := ⟨z.1, fun r hr hi i hi2 h8 => by rw [← zLB_F hG (by omega) h]; exact z.2 r hr hi i hi2 h8⟩
theorem zlW_F (hG : GW G) (h : ∀ n, n < 6 → F n = F' n) (z : zlW G E F W) : zlW G E F' W := ⟨zcW_F hG h z.1, fun W' hW => z.2 W' (zcW_F hG (fun n hn => (h n hn).symm) hW)⟩
theorem zW0_eq (hG : GW G) (h : zlF G (zE0 G) F) (hw : zlW G (zE0 G) F W) : ∀ n, n < 6 → W n = zW0 G n := fun n hn => by
  have hw2 := zlW_F hG (zF0_eq h) hw
  exact zlW_un hw2 (@Classical.epsilon_spec_aux (Nat → Int32) ⟨fun _ => 0⟩ (zlW G (zE0 G) (zF0 G)) ⟨W, hw2⟩) hn
theorem zcC_F (hG : GW G) (h : ∀ n, n < 6 → F n = F' n) (z : zcC G E F k C) : zcC G E F' k C := ⟨z.1, fun r hr d hd h8 hC q hq hi hl => by rw [← zLB_F hG hr h]; exact z.2 r hr d hd h8 hC q hq hi hl⟩
theorem zlC_F (hG : GW G) (h : ∀ n, n < 6 → F n = F' n) (z : zlC G E F k C) : zlC G E F' k C := ⟨zcC_F hG h z.1, fun C' hC => z.2 C' (zcC_F hG (fun n hn => (h n hn).symm) hC)⟩
theorem zcO_F (hG : GW G) (h : ∀ n, n < 6 → F n = F' n) (z : zcO G E F k O) : zcO G E F' k O := ⟨fun r hr d hd h8 hk => by rw [← zLB_F hG hr h]; exact z.1 r hr d hd h8 hk, fun r hr hi hO hn h8 => by rw [← zLB_F hG (by omega) h]; exact z.2 r hr hi hO hn h8⟩
theorem zlO_F (hG : GW G) (h : ∀ n, n < 6 → F n = F' n) (z : zlO G E F k O) : zlO G E F' k O := ⟨zcO_F hG h z.1, fun O' hO => z.2 O' (zcO_F hG (fun n hn => (h n hn).symm) hO)⟩
theorem zcl_F (hG : GW G) (h : ∀ n, n < 6 → F n = F' n) : zcl G E F = zcl G E F' := by
  funext k
  unfold zcl
  have : (fun C => zlC G E F k C) = fun C => zlC G E F' k C := funext fun C => propext ⟨zlC_F hG h, zlC_F hG (fun n hn => (h n hn).symm)⟩
  rw [this]
theorem zitr_F (hG : GW G) (h : ∀ n, n < 6 → F n = F' n) {kd : Nat} {A : ZAS} : ∀ j, zitr G E F kd A j = zitr G E F' kd A j
  | 0 => rfl
  | j + 1 => by
    rw [zitr, zitr, zitr_F hG h j]
    cases zitr G E F' kd A j with
    | none => rfl
    | some A' =>
      dsimp only
      unfold zexp
      rw [zcl_F hG h]
/-- bits below n -/
def zmk : Nat → Int32
  | 0 => 0
  | n + 1 => zmk n ||| b1 n
theorem zmk_bt : ∀ n, n ≤ 32 → ∀ t, bt (zmk n) t = decide (t < n)
  | 0, _, t => by rw [zmk, b_0]; rfl
  | n + 1, h, t => by
    rw [zmk, b_or, zmk_bt n (by omega), b1_bt (by omega)]
    rcases Nat.lt_trichotomy t n with y | y | y
    · rw [decide_eq_true y, decide_eq_true (show t < n + 1 by omega)]; rfl
    · rw [decide_eq_true y, decide_eq_true (show t < n + 1 by omega), Bool.or_true]
    · rw [decide_eq_false (show ¬ t < n by omega), decide_eq_false (show ¬ t = n by omega), decide_eq_false (show ¬ t < n + 1 by omega)]; rfl
theorem zmk_sub {n : Nat} (hn : n ≤ 32) {x : Int32} : bsub x (zmk n) ↔ ∀ t, bt x t = true → t < n := by
  refine ⟨fun h t ht => ?_, fun h t ht => ?_⟩
  · have := h t ht
    rw [zmk_bt n hn] at this
    exact of_decide_eq_true this
  · rw [zmk_bt n hn]
    exact decide_eq_true (h t ht)
theorem zff_mk (hf : ∀ n, n < 6 → bsub (F n) (zmk (zgT G))) (hT : zgT G ≤ 8) {r : Nat} : ∀ {d i : Nat}, (∀ k, i ≤ k → k < i + d → zgt G r k < zgT G ∨ (8 ≤ zgt G r k ∧ zgt G r k < 14)) → bsub (zff G E F r d i) (zmk (zgT G))
  | 0, _, _ => bsub_0
  | d + 1, i, hl => by
    unfold zff
    refine bsub_or ?_ ?_
    · unfold zfl
      have := hl i (Nat.le_refl _) (by omega)
      by_cases y : zgt G r i < 8
      · rw [if_pos y]
        refine (zmk_sub (by omega)).mpr (fun t ht => ?_)
        rw [b1_bt (by omega)] at ht
        have := of_decide_eq_true ht
        omega
      · rw [if_neg y]; exact hf _ (by omega)
    · split
      · exact zff_mk hf hT (fun k h1 h2 => hl k (by omega) (by omega))
      · exact bsub_0
theorem GW.tl2 (hG : GW G) {r i : Nat} (hr : r ≤ zgR G) : ∀ k, i ≤ k → k < i + (zgn G r - i) → zgt G r k < zgT G ∨ (8 ≤ zgt G r k ∧ zgt G r k < 14) := fun k h1 h2 => by
  have h3 := hG.1.2.2.2.1
  have := (hG.2.2.1 r hr).2 k (by omega)
  omega
theorem zlF_mk (hG : GW G) (h : zlF G E F) : ∀ n, n < 6 → bsub (F n) (zmk (zgT G)) := h.2 (fun _ => zmk (zgT G)) (fun r hr _ => zff_mk (fun _ _ => bsub_rf) hG.1.2.2.2.2 (hG.tl2 (by omega)))
theorem zmk_up {m n : Nat} (h : m ≤ n) (hn : n ≤ 32) : bsub (zmk m) (zmk n) := (zmk_sub hn).mpr (fun t ht => by rw [zmk_bt m (by omega)] at ht; have := of_decide_eq_true ht; omega)
theorem zLB_mk (hG : GW G) (hF : ∀ n, n < 6 → bsub (F n) (zmk (zgT G))) {r i : Nat} (hr : r ≤ zgR G) {x : Int32} (hx : bsub x (zmk (zgT G + 1))) : bsub (zLB G E F r i x) (zmk (zgT G + 1)) := by
  unfold zLB
  have hT := hG.1.2.2.2.2
  refine bsub_or (bsub_tr (zff_mk hF hT (hG.tl2 hr)) (zmk_up (by omega) (by omega))) ?_
  split
  · exact hx
  · exact bsub_0
/-- the looks of a kernel, of a closure: signs and end alone; of the outer rule the end alone -/
def zlk (G : ZGT) (k : Nat → Int32) : Prop := (∀ i, i < 102 → bsub (k i) (zmk (zgT G + 1))) ∧ ∀ i, i < 102 → 6 * zgR G ≤ i → bsub (k i) (b1 (zgT G))
theorem zlk_C (hG : GW G) (hF : ∀ n, n < 6 → bsub (F n) (zmk (zgT G))) (hk : zlk G k) (h : zlC G E F k C) : zlk G C := by
  have hc : zcC G E F k (fun i => if 6 * zgR G ≤ i then k i else zmk (zgT G + 1)) := by
    have hall : ∀ i, i < 102 → bsub (if 6 * zgR G ≤ i then k i else zmk (zgT G + 1)) (zmk (zgT G + 1)) := fun i hi => by
      split
      · exact hk.1 i hi
      · exact bsub_rf
    refine ⟨fun i hi => ?_, fun r hr d hd h8 hne q hq hi hl => ?_⟩
    · dsimp only
      split
      · exact bsub_rf
      · exact hk.1 i hi
    · dsimp only at hne ⊢
      rw [if_neg (show ¬ 6 * zgR G ≤ 6 * q by omega)]
      have h5 := (hG.2.2.1 r hr).1
      have h16 := hG.1.2.1
      exact zLB_mk hG hF hr (hall _ (by omega))
  have hs := h.2 _ hc
  refine ⟨fun i hi => ?_, fun i hi h6 => ?_⟩
  · refine bsub_tr (hs i hi) ?_
    split
    · exact hk.1 i hi
    · exact bsub_rf
  · have := hs i hi
    rw [if_pos h6] at this
    exact bsub_tr this (hk.2 i hi h6)
theorem zlk_N (hG : GW G) {b : Nat} (h : zlk G C) : zlk G (zNX G C b) := by
  have hR := hG.1.2.1
  refine ⟨fun i hi => ?_, fun i hi h6 => ?_⟩
  · unfold zNX
    split
    · exact h.1 _ (by omega)
    · exact bsub_0
  · unfold zNX
    split
    · rename_i y
      by_cases z : i = 6 * zgR G
      · exfalso
        have h5 := (hG.2.2.1 ((i - 1) / 6) y.2.1).1
        have := y.2.2.1
        omega
      · exact h.2 _ (by omega) (by omega)
    · exact bsub_0
/-- of all states -/
def zLK (G : ZGT) (A : ZAS) : Prop := ∀ s, s < A.1 → zlk G (A.2.1 s)
theorem zby_LK (hG : GW G) {kd s b : Nat} {A A' : ZAS} (h : zLK G A) (hC : zlk G C) (e : zby G kd s C b A = some A') (hs : s < A.1) (hA : ZAI G A) : zLK G A' := by
  obtain ⟨m, K, go, q⟩ := A
  unfold zby at e
  dsimp only at e
  have hN := zlk_N hG (b := b) hC
  by_cases z : zcB (∀ i, i < 102 → zNX G C b i = 0) = true
  · rw [if_pos z] at e
    have e := Option.some.inj e
    rw [← e]; exact h
  rw [if_neg z] at e
  cases hk : ztk kd K m (zNX G C b) (go s b) with
  | some t0 =>
    rw [hk] at e
    dsimp only at e
    have e := Option.some.inj e
    obtain ⟨t1, -⟩ := ztk_lt hk (fun w hw => hA.2.2.2.1 s hs b w hw)
    rw [← e]
    intro x hx
    show zlk G (if x = t0 then (fun i => K t0 i ||| zNX G C b i) else K x)
    split
    · exact ⟨fun i hi => bsub_or ((h t0 t1).1 i hi) (hN.1 i hi), fun i hi h6 => bsub_or ((h t0 t1).2 i hi h6) (hN.2 i hi h6)⟩
    · exact h x hx
  | none =>
    rw [hk] at e
    dsimp only at e
    by_cases y : m = 200
    · rw [if_pos y] at e; cases e
    rw [if_neg y] at e
    have e := Option.some.inj e
    rw [← e]
    intro x hx
    have hx : x < m + 1 := hx
    show zlk G (if x = m then zNX G C b else K x)
    split
    · exact hN
    · exact h x (show x < m by omega)
theorem zbys_LK (hG : GW G) {kd s : Nat} {A : ZAS} (h : zLK G A) (hC : zlk G C) (hA : ZAI G A) (hs : s < A.1) : ∀ (b : Nat) (A' : ZAS), zbys G kd s C A b = some A' → zLK G A'
  | 0, A', e => by
    have e := Option.some.inj e
    rw [← e]; exact h
  | b + 1, A', e => by
    rw [zbys] at e
    cases hz : zbys G kd s C A b with
    | none => rw [hz] at e; cases e
    | some A1 =>
      rw [hz] at e
      dsimp only at e
      obtain ⟨i1, i2, -, -⟩ := zbys_kp hG hA hs b A1 hz
      exact zby_LK hG (zbys_LK hG h hC hA hs b A1 hz) hC e (by omega) i1
theorem zA0_LK (hG : GW G) : zLK G (zA0 G) := by
  intro s _
  show zlk G (zk00 G)
  have hT := hG.1.2.2.2.2
  have hb : ∀ i, bsub (zk00 G i) (b1 (zgT G)) := fun i => by
    unfold zk00
    by_cases y : i = 6 * zgR G
    · rw [y, upd_at]; exact bsub_rf
    · rw [upd_ne y]; exact bsub_0
  refine ⟨fun i _ => bsub_tr (hb i) ((zmk_sub (by omega)).mpr (fun t ht => ?_)), fun i _ _ => hb i⟩
  rw [b1_bt (by omega)] at ht
  have := of_decide_eq_true ht
  omega
/-- all that holds along the building -/
def ZAll (G : ZGT) (E : Int32) (F : Nat → Int32) (A : ZAS) : Prop := ZAI G A ∧ zCG G E F A ∧ ZQI G E F A ∧ zLK G A ∧ zco (A.2.1 0) (zk00 G)
theorem zA0_all (hG : GW G) : ZAll G E F (zA0 G) := ⟨zA0_I hG, zA0_CG, zA0_QI, zA0_LK hG, zco_rf⟩
theorem zexp_all (hG : GW G) (hF : ∀ n, n < 6 → bsub (F n) (zmk (zgT G))) {kd : Nat} {A A' : ZAS} (h : ZAll G E F A) (e : zexp G E F kd A = some A') : ZAll G E F A' ∧ (A.2.2.2 ≠ [] → muA A' + 1 ≤ muA A) := by
  obtain ⟨m, K, go, q⟩ := A
  obtain ⟨h1, h2, h3, h4, h5⟩ := h
  cases q with
  | nil =>
    have e : some (m, K, go, []) = some A' := e
    have e := Option.some.inj e
    rw [← e]
    exact ⟨⟨h1, h2, h3, h4, h5⟩, fun y => absurd rfl y⟩
  | cons s q =>
    have hs : s < m := h1.2.1 s (List.mem_cons_self ..)
    have hA2 : ZAI G (m, K, go, q) := ⟨h1.1, fun x hx => h1.2.1 x (List.mem_cons_of_mem _ hx), (List.nodup_cons.mp h1.2.2.1).2, h1.2.2.2⟩
    obtain ⟨g1, g2⟩ := zexp_CG hG h1 h2 e
    have e' : zbys G kd s (zcl G E F (K s)) (m, K, go, q) 14 = some A' := e
    obtain ⟨-, -, i3, -⟩ := zbys_kp hG hA2 hs 14 A' e'
    have hm1 : 0 < m := h1.1.1
    exact ⟨⟨g1, g2, zexp_QI hG h1 h3 e, zbys_LK hG (A := (m, K, go, q)) (fun x hx => h4 x hx) (zlk_C hG hF (h4 s hs) (zcl_ls G E F (K s))) hA2 hs 14 A' e', zco_tr (i3 0 hm1) h5⟩, fun _ => zexp_mu hG h1 e⟩
theorem zitr_all (hG : GW G) (hF : ∀ n, n < 6 → bsub (F n) (zmk (zgT G))) {kd : Nat} : ∀ j A, zitr G E F kd (zA0 G) j = some A → ZAll G E F A
  | 0, A, e => by
    have e := Option.some.inj e
    rw [← e]; exact zA0_all hG
  | j + 1, A, e => by
    rw [zitr] at e
    cases hz : zitr G E F kd (zA0 G) j with
    | none => rw [hz] at e; cases e
    | some A1 =>
      rw [hz] at e
      exact (zexp_all hG hF (zitr_all hG hF j A1 hz) e).1
end ZCan
/-- the automaton of a grammar; none: it has too many states -/
def ZAt (G : ZGT) (kd : Nat) : Option ZAS → Prop
  | some A => (∃ j, zitr G (zE0 G) (zF0 G) kd (zA0 G) j = some A) ∧ A.2.2.2 = []
  | none => ∃ j, zitr G (zE0 G) (zF0 G) kd (zA0 G) j = none
theorem ZAt_un {G : ZGT} {kd : Nat} {o o' : Option ZAS} (h : ZAt G kd o) (h' : ZAt G kd o') : o = o' := by
  cases o with
  | none =>
    obtain ⟨j, hj⟩ := h
    cases o' with
    | none => rfl
    | some A' => obtain ⟨⟨i, hi⟩, hq⟩ := h'; exact (zitr_ny hi hq hj).elim
  | some A =>
    obtain ⟨⟨j, hj⟩, hq⟩ := h
    cases o' with
    | none => obtain ⟨i, hi⟩ := h'; exact (zitr_ny hj hq hi).elim
    | some A' => obtain ⟨⟨i, hi⟩, hq'⟩ := h'; rw [zitr_un hj hq hi hq']
theorem ZAt_all {G : ZGT} {kd : Nat} {A : ZAS} (hG : GW G) (hF : zlF G (zE0 G) (zF0 G)) (h : ZAt G kd (some A)) : ZAll G (zE0 G) (zF0 G) A := by
  obtain ⟨⟨j, hj⟩, -⟩ := h
  exact zitr_all hG (zlF_mk hG hF) j A hj
