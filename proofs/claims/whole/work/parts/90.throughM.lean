/-! The reference: a state is gone through. -/
theorem zbys_no {G : ZGT} {kd s : Nat} {C : Nat → Int32} {A : ZAS} {n : Nat} (h : zbys G kd s C A n = none) : ∀ d, zbys G kd s C A (n + d) = none
  | 0 => h
  | d + 1 => by
    show (match zbys G kd s C A (n + d) with | none => none | some A' => zby G kd s C (n + d) A') = _
    rw [zbys_no h d]
theorem zbys_s {G : ZGT} {kd s : Nat} {C : Nat → Int32} {A A' : ZAS} {n : Nat} (h : zbys G kd s C A n = some A') : zbys G kd s C A (n + 1) = zby G kd s C n A' := by
  show (match zbys G kd s C A n with | none => none | some A' => zby G kd s C n A') = _
  rw [h]
theorem zdt_cg {kd : Nat} {k k' N N' : Nat → Int32} (h1 : ∀ i, i < 102 → k i = k' i) (h2 : ∀ i, i < 102 → N i = N' i) : zdt kd k N → zdt kd k' N' := by
  intro h
  have c2 : zco k N → zco k' N' := fun z i hi => by rw [← h1 i hi, ← h2 i hi]; exact z i hi
  have c3 : zwk k N → zwk k' N' := fun z i hi j hj a b => by
    rw [← h2 i hi] at a
    rw [← h2 j (by omega)] at b
    have := z i hi j hj a b
    unfold zwp at this ⊢
    rw [← h1 i hi, ← h1 j (by omega), ← h2 i hi, ← h2 j (by omega)]
    exact this
  unfold zdt at h ⊢
  by_cases z : kd = 0
  · rw [if_pos z] at h ⊢; exact fun i hi => by rw [← h1 i hi, ← h2 i hi]; exact h i hi
  · rw [if_neg z] at h ⊢
    by_cases y : kd = 1
    · rw [if_pos y] at h ⊢; exact ⟨c2 h.1, c3 h.2⟩
    · rw [if_neg y] at h ⊢; exact c2 h
theorem zcB_cg {p q : Prop} (h : p ↔ q) : zcB p = zcB q := by
  by_cases z : p
  · rw [zcB_t z, zcB_t (h.mp z)]
  · rw [zcB_f z, zcB_f (fun y => z (h.mpr y))]
theorem ztk_cg {kd m : Nat} {K : Nat → Nat → Int32} {N N' : Nat → Int32} {was : Option Nat} (h : ∀ i, i < 102 → N i = N' i) : ztk kd K m N was = ztk kd K m N' was := by
  have e : ∀ s, zcB (zdt kd (K s) N) = zcB (zdt kd (K s) N') := fun s => zcB_cg ⟨zdt_cg (fun _ _ => rfl) h, zdt_cg (fun _ _ => rfl) (fun i hi => (h i hi).symm)⟩
  have e2 : (fun s => zcB (zdt kd (K s) N)) = fun s => zcB (zdt kd (K s) N') := funext e
  unfold ztk
  rw [e2, zcB_cg (p := kd = 1 ∧ ∃ w, was = some w ∧ zdt kd (K w) N) (q := kd = 1 ∧ ∃ w, was = some w ∧ zdt kd (K w) N') ⟨fun z => by obtain ⟨a, w, b, c⟩ := z; exact ⟨a, w, b, zdt_cg (fun _ _ => rfl) h c⟩, fun z => by obtain ⟨a, w, b, c⟩ := z; exact ⟨a, w, b, zdt_cg (fun _ _ => rfl) (fun i hi => (h i hi).symm) c⟩⟩]
/-- the kernels may be told otherwise beyond the items -/
theorem RMa.cg {kd : Nat} {m : Nat} {K K' : Nat → Nat → Int32} {go go' : Nat → Nat → Option Nat} {q q' : List Nat} {v : SM} (h : RMa kd (m, K, go, q) v) (h1 : ∀ s, s < m → ∀ i, i < 102 → K s i = K' s i) (h2 : ∀ s, s < m → ∀ b, b < 14 → go s b = go' s b) (h3 : q = q') : RMa kd (m, K', go', q') v := by
  obtain ⟨a, b, c, d⟩ := h
  refine ⟨a, fun s hs i hi => ?_, fun s hs b' hb => ?_, by rw [← h3]; exact d⟩
  · dsimp only at hs ⊢; rw [← h1 s hs i hi]; exact b s hs i hi
  · dsimp only at hs ⊢; rw [← h2 s hs b' hb]; exact c s hs b' hb
theorem fI_inj {a b : Option Nat} (ha : ∀ k, a = some k → k < 2 ^ 31) (hb : ∀ k, b = some k → k < 2 ^ 31) : fI a = fI b ↔ a = b := by
  cases a with
  | none =>
    cases b with
    | none => exact ⟨fun _ => rfl, fun _ => rfl⟩
    | some k => exact ⟨fun h => absurd h.symm (nI_m1 (hb k rfl)), fun h => by cases h⟩
  | some j =>
    cases b with
    | none => exact ⟨fun h => absurd h (nI_m1 (ha j rfl)), fun h => by cases h⟩
    | some k =>
      refine ⟨fun h => ?_, fun h => by cases h; rfl⟩
      rw [(nI_eq (ha j rfl) (hb k rfl)).mp h]
/-- the outcome of going through a state -/
def gtQ (G : ZGT) (kd : Nat) (o : Option ZAS) (u : SM) (x : Option Value) (v : SM) : Prop := frM [48] [38, 39, 40, 44, 45, 46, 47] u v ∧ oKd kd u v ∧ match o with
  | none => x = some (.int 0)
  | some A => x = some (.int 1) ∧ RMa kd A v
set_option maxHeartbeats 2000000 in
theorem m_goThrough {G : ZGT} {u : SM} (h : ZGM G u) {kd s : Nat} {A : ZAS} (hk : kd < 3) (hA : RMa kd A u) (hI : ZAI G A) (hs : s < A.1) : EvQ ZR mX12_goThrough [.ref 0, .int (nI kd), .int (nI s)] u (gtQ G kd (zbys G kd s (zcl G (u.1 25) (u.2.1 26) (A.2.1 s)) A 14) u) := by
  obtain ⟨E, hE⟩ : ∃ E, E = u.1 25 := ⟨_, rfl⟩
  obtain ⟨F, hF⟩ : ∃ F, F = u.2.1 26 := ⟨_, rfl⟩
  rw [← hE, ← hF]
  have hm200 : A.1 ≤ 200 := hI.1.2
  have hs200 : s < 200 := by omega
  have hrow := mrow_lt hk hs200
  refine EQ_V vX12_goThrough rfl ?_
  refine RQ_n ZR_ok 3 rfl trivial ?_
  refine RQ_V vX12_layClosure (m_layClosure h hk hs200) rfl k12_380 rfl rfl rfl rfl (fun _ _ _ => rfl) (fun r1 u1 h1 => ?_)
  obtain ⟨rfl, a1, a2, a3⟩ := h1
  rw [← hE, ← hF] at a1
  obtain ⟨C, hC⟩ : ∃ C, C = zcl G E F (A.2.1 s) := ⟨_, rfl⟩
  rw [← hC]
  -- the closure is that of the kernel
  have hkk : ∀ i, i < 102 → u.2.1 38 (mrow kd s + i) = A.2.1 s i := fun i hi => hA.2.1 s hs i hi
  have a1' : zlC G E F (A.2.1 s) (mC (mrow kd s) u1) := by
    have hc : ∀ k k' : Nat → Int32, (∀ i, i < 102 → k i = k' i) → ∀ C, zcC G E F k C → zcC G E F k' C := fun k k' e C z => ⟨fun i hi => by rw [← e i hi]; exact z.1 i hi, z.2⟩
    exact ⟨hc _ _ hkk _ a1.1, fun C' hC' => a1.2 C' (hc _ _ (fun i hi => (hkk i hi).symm) C' hC')⟩
  have hCm : ∀ i, i < 102 → mC (mrow kd s) u1 i = C i := fun i hi => by rw [hC]; exact (zcl_eq a1' hi).symm
  have o1 : oKd kd u u1 := ⟨fun j hj => ⟨by rw [a3.2.1 38 (by decide)], a2 j (by unfold mrow; omega)⟩, fun j _ => by rw [a3.2.1 40 (by decide)], fun j _ => by rw [a3.2.1 44 (by decide)]⟩
  have hA1 : RMa kd A u1 := by
    refine ⟨by rw [a3.2.1 44 (by decide)]; exact hA.1, fun s' hs' i hi => ?_, fun s' hs' b hb => by rw [a3.2.1 40 (by decide)]; exact hA.2.2.1 s' hs' b hb, ?_⟩
    · show u1.2.1 38 (mrow kd s' + i) = _
      rw [a3.2.1 38 (by decide)]; exact hA.2.1 s' hs' i hi
    · exact ⟨by rw [a3.1 48 (by decide)]; exact hA.2.2.2.1, fun j hj => by rw [a3.2.1 46 (by decide)]; exact hA.2.2.2.2.1 j hj, fun x hx => by rw [a3.2.1 47 (by decide)]; exact hA.2.2.2.2.2 x hx⟩
  refine RQ_n ZR_ok 2 rfl trivial ?_
  refine loopU 14 (fun b (_ : ZAS) => [some (.ref 0), some (.int (nI kd)), some (.int (nI s)), some (.int (nI b)), none]) (fun b A' w => zbys G kd s C A b = some A' ∧ RMa kd A' w ∧ ZAI G A' ∧ s < A'.1 ∧ frM [48] [38, 39, 40, 44, 45, 46, 47] u w ∧ oKd kd u w ∧ ∀ i, i < 102 → mC (mrow kd s) w i = C i) ?_ 0 A u1 (by omega) ⟨rfl, hA1, hI, hs, a3.up (by decide) (by decide), o1, hCm⟩
  intro b A' w hb hJ ih
  obtain ⟨g1, g2, g3, g4, g5, g6, g7⟩ := hJ
  have hw : ZGM G w := h.fr g5 (by decide)
  refine RQ_n ZR_ok 2 rfl trivial ?_
  refine RQ_b rfl (fun z => ?_) (fun z => ?_)
  · have z := (zq_le (a := 14) (b := b) rfl rfl (by omega) (by omega)).mp z
    have : b = 14 := by omega
    subst this
    refine RQ_n ZR_ok 1 rfl trivial ?_
    refine RQ_to (Rn_zret rfl rfl (Or.inr rfl)) ⟨g5, g6, ?_⟩
    rw [g1]
    exact ⟨rfl, g2⟩
  have z := (not_congr (zq_le (a := 14) (b := b) rfl rfl (by omega) (by omega))).mp z
  have hb14 : b < 14 := by omega
  have hsn := zbys_s g1
  refine RQ_n ZR_ok 4 rfl trivial ?_
  refine RQ_V vX12_layNext (m_layNext hw hk hs200 hb14) rfl k12_383 rfl rfl rfl rfl (fun _ _ _ => rfl) (fun r1 w1 h1 => ?_)
  obtain ⟨rfl, n1, n2⟩ := h1
  have hNe : ∀ i, i < 102 → zNX G (mC (mrow kd s) w) b i = zNX G C b i := fun i hi => zNX_cg g7 hi
  have n1' : ∀ i, i < 102 → w1.2.1 45 i = zNX G C b i := fun i hi => by rw [n1 i hi]; exact hNe i hi
  have hw1 : ZGM G w1 := hw.fr n2 (by decide)
  have f1 : frM [48] [38, 39, 40, 44, 45, 46, 47] u w1 := g5.tr (n2.up (by decide) (by decide))
  have o2 : oKd kd u w1 := g6.tr (oKd.fr n2 (by decide) (by decide) (by decide) (by decide))
  have hC1 : ∀ i, i < 102 → mC (mrow kd s) w1 i = C i := fun i hi => by
    show w1.2.1 39 (mrow kd s + i) = _
    rw [n2.2.1 39 (by decide)]; exact g7 i hi
  have hA2 : RMa kd A' w1 := by
    refine ⟨by rw [n2.2.1 44 (by decide)]; exact g2.1, fun s' hs' i hi => ?_, fun s' hs' b hb => by rw [n2.2.1 40 (by decide)]; exact g2.2.2.1 s' hs' b hb, ?_⟩
    · show w1.2.1 38 (mrow kd s' + i) = _
      rw [n2.2.1 38 (by decide)]; exact g2.2.1 s' hs' i hi
    · exact ⟨by rw [n2.1 48 (by decide)]; exact g2.2.2.2.1, fun j hj => by rw [n2.2.1 46 (by decide)]; exact g2.2.2.2.2.1 j hj, fun x hx => by rw [n2.2.1 47 (by decide)]; exact g2.2.2.2.2.2 x hx⟩
  refine RQ_b rfl (fun z2 => ?_) (fun z2 => ?_)
  · have z2 := bI_zcB_0.mp z2
    have hz : ∀ i, i < 102 → zNX G C b i = 0 := fun i hi => Classical.byContradiction fun y => z2 ⟨i, hi, by rw [hNe i hi]; exact y⟩
    have e1 : zby G kd s C b A' = some A' := by unfold zby; rw [zcB_t hz, if_pos rfl]
    refine RQ_n ZR_ok 2 rfl trivial ?_
    exact ih hb14 A' _ _ ⟨rfl, rfl, rfl, nIs b, trivial⟩ ⟨by rw [hsn, e1], hA2, g3, g4, f1, o2, hC1⟩
  have z2 := zcB_iff.mp (bI_t z2)
  have hz : ¬ ∀ i, i < 102 → zNX G C b i = 0 := fun y => by
    obtain ⟨i, hi, hne⟩ := z2
    exact hne (by rw [hNe i hi]; exact y i hi)
  obtain ⟨m, K, go, q⟩ := A'
  obtain ⟨⟨i1, i2⟩, i3, i4, i5, i6⟩ := g3
  dsimp only at i1 i2 i3 i4 i5 i6 g4
  have eby : zby G kd s C b (m, K, go, q) = match ztk kd K m (zNX G C b) (go s b) with
      | some t => some (m, zKU K t (fun i => K t i ||| zNX G C b i), zgU go s b t, if zcB ((∃ i, i < 102 ∧ K t i ||| zNX G C b i ≠ K t i) ∧ t ∉ q) = true then q ++ [t] else q)
      | none => if m = 200 then none else some (m + 1, zKU K m (zNX G C b), zgU (fun s' b' => if s' = m then none else go s' b') s b m, q ++ [m]) := by
    unfold zby
    rw [zcB_f hz, if_neg (by decide)]
    rfl
  have hzh : zhi G (w1.2.1 45) := fun i hi hh => by rw [n1' i hi]; exact zNX_hi h.1 hh
  refine RQ_n ZR_ok 6 rfl trivial ?_
  have hgb := m_goesBy w1 hk hs200 hb14
  rw [hA2.2.2.1 s g4 b hb14] at hgb
  refine RQ_v vX12_goesBy hgb rfl k12_386 rfl rfl rfl rfl rfl ?_
  have htk := m_takerOf hw1 (K := K) (m := m) hk i2 hA2.1 hA2.2.1 (fun s' hs' i hi hh => (i6 s' hs').2.1 i hi hh) hzh (was := go s b) (fun w hw => i5 s g4 b w hw)
  rw [ztk_cg n1'] at htk
  refine RQ_v vX12_takerOf htk rfl k12_389 rfl rfl rfl rfl rfl ?_
  refine RQ_n ZR_ok 3 rfl trivial ?_
  have e14 : (14 : Int32) * (200 * nI kd + nI s) + nI b = nI (14 * (200 * kd + s) + b) := by rw [show (14 : Int32) = nI 14 from rfl, show (200 : Int32) = nI 200 from rfl, nI_mul, nI_add, nI_mul, nI_add]
  -- the state is known: it goes there
  have fin : ∀ (t m' : Nat) (K' : Nat → Nat → Int32) (go' : Nat → Nat → Option Nat) (q' : List Nat) (w2 : SM), t < m' → m' ≤ 200 → s < m' → zby G kd s C b (m, K, go, q) = some (m', K', zgU go' s b t, q') → RMa kd (m', K', go', q') w2 → frM [48] [38, 40, 44, 46, 47] w1 w2 → oKd kd w1 w2 → RnQ ZR mX12_goThrough (65, [some (.ref 0), some (.int (nI kd)), some (.int (nI s)), some (.int (nI b)), some (.int (nI t))], [], w2) (gtQ G kd (zbys G kd s C A 14) u) := by
    intro t m' K' go' q' w2 ht hm' hsm e hR f2 o3
    refine RQ_n ZR_ok 2 rfl trivial ?_
    refine RQ_b rfl (fun _ => ?_) (fun y => absurd (Classical.not_not.mp y) (nI_m1 (by omega)))
    refine RQ_n ZR_ok 11 rfl trivial ?_
    rw [e14]
    refine RQ_n ZR_ok 4 rfl ⟨nI_in (by omega) (by omega), trivial⟩ ?_
    rw [nI_clamp (show 14 * (200 * kd + s) + b < 2 ^ 31 by omega)]
    obtain ⟨w3, hw3⟩ : ∃ w3 : SM, w3 = (w2.1, updA w2.2.1 40 (14 * (200 * kd + s) + b) (nI t), w2.2.2) := ⟨_, rfl⟩
    rw [← hw3]
    have f3 : frM [] [40] w2 w3 := by rw [hw3]; exact frM.a 40 (by decide)
    have h40 : w3.2.1 40 = upd (w2.2.1 40) (14 * (200 * kd + s) + b) (nI t) := by rw [hw3]; rfl
    have hAI := zby_AI h.1 (A := (m, K, go, q)) ⟨⟨i1, i2⟩, i3, i4, i5, i6⟩ g4 e
    refine ih hb14 (m', K', zgU go' s b t, q') _ _ ⟨rfl, rfl, rfl, nIs b, trivial⟩ ⟨by rw [hsn, e], ⟨?_, fun s' hs' i hi => ?_, fun s' hs' b' hb' => ?_, ?_⟩, hAI.1, hsm, (f1.tr (f2.up (by decide) (by decide))).tr (f3.up (by decide) (by decide)), (o2.tr o3).tr ⟨fun j hj => ⟨by rw [f3.2.1 38 (by decide)], by rw [f3.2.1 39 (by decide)]⟩, fun j hj => by rw [h40, upd_ne (by omega)], fun j _ => by rw [f3.2.1 44 (by decide)]⟩, fun i hi => ?_⟩
    · rw [f3.2.1 44 (by decide)]; exact hR.1
    · show w3.2.1 38 (mrow kd s' + i) = _
      rw [f3.2.1 38 (by decide)]; exact hR.2.1 s' hs' i hi
    · rw [h40]
      show _ = fI (if s' = s ∧ b' = b then some t else go' s' b')
      by_cases y : s' = s ∧ b' = b
      · obtain ⟨rfl, rfl⟩ := y; rw [upd_at, if_pos ⟨rfl, rfl⟩]; rfl
      · rw [if_neg y, upd_ne (by omega)]; exact hR.2.2.1 s' hs' b' hb'
    · exact ⟨by rw [f3.1 48 (by decide)]; exact hR.2.2.2.1, fun j hj => by rw [f3.2.1 46 (by decide)]; exact hR.2.2.2.2.1 j hj, fun x hx => by rw [f3.2.1 47 (by decide)]; exact hR.2.2.2.2.2 x hx⟩
    · show w3.2.1 39 (mrow kd s + i) = _
      rw [f3.2.1 39 (by decide), f2.2.1 39 (by decide)]; exact hC1 i hi
  cases htt : ztk kd K m (zNX G C b) (go s b) with
  | none =>
    rw [htt] at eby
    dsimp only at eby
    refine RQ_b rfl (fun y => absurd rfl y) (fun _ => ?_)
    refine RQ_n ZR_ok 2 rfl trivial ?_
    by_cases h200 : m = 200
    · rw [if_pos h200] at eby
      subst h200
      refine RQ_v vX12_newState (m_newState_no hk hA2.1) rfl k12_392 rfl rfl rfl rfl rfl ?_
      refine RQ_n ZR_ok 2 rfl trivial ?_
      refine RQ_n ZR_ok 2 rfl trivial ?_
      refine RQ_b rfl (fun y => absurd rfl y) (fun _ => ?_)
      refine RQ_n ZR_ok 1 rfl trivial ?_
      refine RQ_to (Rn_zret rfl rfl (Or.inl rfl)) ⟨f1, o2, ?_⟩
      have hno : zbys G kd s C A (b + 1) = none := by rw [hsn, eby]
      have := zbys_no hno (13 - b)
      rw [show b + 1 + (13 - b) = 14 by omega] at this
      rw [this]
    · rw [if_neg h200] at eby
      refine RQ_V vX12_newState (m_newState hk hA2 (by show m < 200; omega) i3 i4) rfl k12_392 rfl rfl rfl rfl (fun _ _ _ => rfl) (fun r1 w2 h2 => ?_)
      obtain ⟨rfl, c1, c2, c3⟩ := h2
      refine RQ_n ZR_ok 2 rfl trivial ?_
      refine fin m (m + 1) _ _ _ w2 (by omega) (by omega) (by omega) eby (c1.cg (fun s' hs' i hi => ?_) (fun _ _ _ _ => rfl) rfl) c2 c3
      unfold zKU
      by_cases y : s' = m
      · rw [if_pos y, if_pos y]; exact n1' i hi
      · rw [if_neg y, if_neg y]
  | some t =>
    rw [htt] at eby
    dsimp only at eby
    obtain ⟨t1, t2⟩ := ztk_lt htt (fun w hw => i5 s g4 b w hw)
    refine RQ_b rfl (fun _ => ?_) (fun y => absurd (Classical.not_not.mp y) (nI_m1 (by omega)))
    refine RQ_n ZR_ok 1 rfl trivial ?_
    refine RQ_b rfl (fun y => ?_) (fun y => ?_)
    · have y := (zq_eq (a := kd) (b := 0) rfl rfl (by omega) (by omega)).mp y
      have heq : ∀ i, i < 102 → K t i = zNX G C b i := by
        unfold zdt at t2
        rw [if_pos y] at t2
        exact t2
      have hno : ¬ ((∃ i, i < 102 ∧ K t i ||| zNX G C b i ≠ K t i) ∧ t ∉ q) := fun w => by
        obtain ⟨i, hi, hne⟩ := w.1
        rw [← heq i hi] at hne
        exact hne (bsub_eq bsub_rf)
      rw [zcB_f hno, if_neg (by decide)] at eby
      refine fin t m _ _ _ w1 t1 i2 g4 eby (hA2.cg (fun s' hs' i hi => ?_) (fun _ _ _ _ => rfl) rfl) frM.rf oKd.rf
      unfold zKU
      by_cases y2 : s' = t
      · subst y2; rw [if_pos rfl, ← heq i hi]; exact (bsub_eq bsub_rf).symm
      · rw [if_neg y2]
    · refine RQ_n ZR_ok 3 rfl trivial ?_
      refine RQ_V vX12_addLooks (m_addLooks hk hA2 i2 t1 i3 i4) rfl k12_395 rfl rfl rfl rfl (fun _ _ _ => rfl) (fun r1 w2 h2 => ?_)
      obtain ⟨rfl, c1, c2, c3⟩ := h2
      refine fin t m _ _ _ w2 t1 i2 g4 eby (c1.cg (fun s' hs' i hi => ?_) (fun _ _ _ _ => rfl) ?_) (c2.up (by decide) (by decide)) c3
      · unfold zKU
        by_cases y2 : s' = t
        · rw [if_pos y2, if_pos y2]
          show K t i ||| w1.2.1 45 i = K t i ||| zNX G C b i
          rw [n1' i hi]
        · rw [if_neg y2, if_neg y2]
      · dsimp only
        rw [zcB_cg (p := (∃ i, i < 102 ∧ K t i ||| w1.2.1 45 i ≠ K t i) ∧ t ∉ q) (q := (∃ i, i < 102 ∧ K t i ||| zNX G C b i ≠ K t i) ∧ t ∉ q)]
        exact ⟨fun w => ⟨by obtain ⟨i, hi, hne⟩ := w.1; exact ⟨i, hi, by rw [← n1' i hi]; exact hne⟩, w.2⟩, fun w => ⟨by obtain ⟨i, hi, hne⟩ := w.1; exact ⟨i, hi, by rw [n1' i hi]; exact hne⟩, w.2⟩⟩
