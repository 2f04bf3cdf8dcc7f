/-! Every kernel has a least closure; goals fit the cores, letter by letter. -/
theorem bsub_and {x y z : Int32} (h : bsub x y) (k : bsub x z) : bsub x (y &&& z) := fun i q => by rw [b_and, h i q, k i q]; rfl
theorem bsub_al {x y : Int32} : bsub (x &&& y) x := fun i q => by rw [b_and, Bool.and_eq_true] at q; exact q.1
theorem bsub_ar {x y : Int32} : bsub (x &&& y) y := fun i q => by rw [b_and, Bool.and_eq_true] at q; exact q.2
theorem zcC_and {G : ZGT} {E : Int32} {F k C C' : Nat → Int32} (h : zcC G E F k C) (h' : zcC G E F k C') : zcC G E F k (fun i => C i &&& C' i) := by
  refine ⟨fun i hi => bsub_and (h.1 i hi) (h'.1 i hi), fun r hr d hd h8 hne q hq h1 h2 => ?_⟩
  exact bsub_and (bsub_tr (zLB_up bsub_al) (h.2 r hr d hd h8 (bsub_ne bsub_al hne) q hq h1 h2)) (bsub_tr (zLB_up bsub_ar) (h'.2 r hr d hd h8 (bsub_ne bsub_ar hne) q hq h1 h2))
theorem zlC_ex (G : ZGT) (E : Int32) (F k : Nat → Int32) : ∃ C, zlC G E F k C := by
  have key : ∀ n C, ctn C 102 ≤ n → zcC G E F k C → ∃ C, zlC G E F k C := by
    intro n
    induction n with
    | zero =>
      intro C hn hC
      refine ⟨C, hC, fun C' hC' i hi => ?_⟩
      refine Classical.byContradiction (fun y => ?_)
      have := ctn_lt (C := fun i => C i &&& C' i) (C' := C) 102 (fun i _ => bsub_al) ⟨i, hi, fun e => y (by have e : C i &&& C' i = C i := e; rw [← e]; exact bsub_ar)⟩
      omega
    | succ n ih =>
      intro C hn hC
      by_cases z : ∀ C', zcC G E F k C' → ∀ i, i < 102 → bsub (C i) (C' i)
      · exact ⟨C, hC, z⟩
      have ⟨C', hz⟩ := Classical.not_forall.mp z
      have ⟨hC', hz⟩ := Classical.not_forall.mp hz
      have ⟨i, hz⟩ := Classical.not_forall.mp hz
      have ⟨hi, y⟩ := Classical.not_forall.mp hz
      have := ctn_lt (C := fun i => C i &&& C' i) (C' := C) 102 (fun i _ => bsub_al) ⟨i, hi, fun e => y (by have e : C i &&& C' i = C i := e; rw [← e]; exact bsub_ar)⟩
      exact ih _ (by omega) (zcC_and hC hC')
  exact key _ (fun _ => -1) (Nat.le_refl _) ⟨fun _ _ => bsub_m1, fun _ _ _ _ _ _ _ _ _ _ => bsub_m1⟩
theorem zcl_ls (G : ZGT) (E : Int32) (F k : Nat → Int32) : zlC G E F k (zcl G E F k) := by
  obtain ⟨C, h⟩ := zlC_ex G E F k
  exact zcl_ok h
/-- the core behind a letter depends on the core alone -/
theorem zNX_cl {G : ZGT} (hG : GW G) {E : Int32} {F k k' : Nat → Int32} {b : Nat} (h : zco k k') : zco (zNX G (zcl G E F k) b) (zNX G (zcl G E F k') b) := zNX_co (zlC_co hG (zcl_ls G E F k) (zcl_ls G E F k') h)
/-- one letter of the slot s, gone by a kernel k of its core -/
theorem zby_CG {G : ZGT} (hG : GW G) {E : Int32} {F k : Nat → Int32} {kd s b : Nat} {A A' : ZAS} (hA : ZAI G A) (hs : s < A.1) (hk : zco (A.2.1 s) k) (h : zCG G E F A) (e : zby G kd s (zcl G E F k) b A = some A') : zCG G E F A' := by
  obtain ⟨m, K, go, q⟩ := A
  obtain ⟨⟨h1, h2⟩, h3, h4, h5, h6⟩ := hA
  unfold zCG at h
  dsimp only at h1 h2 h3 h4 h5 h6 hs hk h
  unfold zby at e
  dsimp only at e
  by_cases z : zcB (∀ i, i < 102 → zNX G (zcl G E F k) b i = 0) = true
  · rw [if_pos z] at e
    have e := Option.some.inj e
    rw [← e]
    exact h
  rw [if_neg z] at e
  cases ht : ztk kd K m (zNX G (zcl G E F k) b) (go s b) with
  | some t =>
    rw [ht] at e
    dsimp only at e
    have e := Option.some.inj e
    obtain ⟨t1, t2⟩ := ztk_lt ht (fun w hw => h5 s hs b w hw)
    have kco := zKU_co (zdt_co t2)
    rw [← e]
    intro s' hs' b' hb' w hw
    have hw : (if s' = s ∧ b' = b then some t else go s' b') = some w := hw
    refine zco_tr (kco w) (zco_tr ?_ (zNX_cl hG (zco_sy (kco s'))))
    by_cases y : s' = s ∧ b' = b
    · rw [if_pos y] at hw
      have hw := Option.some.inj hw
      rw [← hw, y.1, y.2]
      exact zco_tr (zdt_co t2) (zNX_cl hG (zco_sy hk))
    · rw [if_neg y] at hw
      exact h s' hs' b' hb' w hw
  | none =>
    rw [ht] at e
    dsimp only at e
    by_cases y : m = 200
    · rw [if_pos y] at e; cases e
    rw [if_neg y] at e
    have e := Option.some.inj e
    rw [← e]
    intro s' hs' b' hb' w hw
    have hs' : s' < m + 1 := hs'
    have hw : (if s' = s ∧ b' = b then some m else if s' = m then none else go s' b') = some w := hw
    have eK : ∀ x, x < m → zKU K m (zNX G (zcl G E F k) b) x = K x := fun x hx => if_neg (by omega)
    show zco (zKU K m (zNX G (zcl G E F k) b) w) (zNX G (zcl G E F (zKU K m (zNX G (zcl G E F k) b) s')) b')
    by_cases y : s' = s ∧ b' = b
    · rw [if_pos y] at hw
      have hw := Option.some.inj hw
      rw [← hw, y.1, y.2, eK s hs, show zKU K m (zNX G (zcl G E F k) b) m = zNX G (zcl G E F k) b from if_pos rfl]
      exact zNX_cl hG (zco_sy hk)
    · rw [if_neg y] at hw
      by_cases x : s' = m
      · rw [if_pos x] at hw; cases hw
      · rw [if_neg x] at hw
        have hw2 := h5 s' (by omega) b' w hw
        rw [eK s' (by omega), eK w hw2]
        exact h s' (by omega) b' hb' w hw
