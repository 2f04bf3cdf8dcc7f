/-! The reference: numberAnew. -/
def RNb (A : ZAS) (e : Nat) (v : SM) : Prop := (∀ j, j < zc0 A e → v.2.1 50 j = nI ((znl A.2.2.1 e).getD j 0) ∧ v.2.1 49 ((znl A.2.2.1 e).getD j 0) = nI j) ∧ ∀ t, t < 200 → t ∉ znl A.2.2.1 e → v.2.1 49 t = -1
theorem RNb_id {A : ZAS} {e : Nat} {v : SM} (h : RNb A e v) (hs : znl A.2.2.1 (e + 1) = znl A.2.2.1 e) : RNb A (e + 1) v := by
  have hc : zc0 A (e + 1) = zc0 A e := by unfold zc0; rw [hs]
  unfold RNb
  rw [hc, hs]
  exact h
theorem RNb_up {A : ZAS} {e t : Nat} {u v : SM} (h : RNb A e u) (ht : t ∉ znl A.2.2.1 e) (hs : znl A.2.2.1 (e + 1) = znl A.2.2.1 e ++ [t]) (a2 : v.2.1 49 = upd (u.2.1 49) t (nI (zc0 A e))) (a3 : v.2.1 50 = upd (u.2.1 50) (zc0 A e) (nI t)) : RNb A (e + 1) v := by
  obtain ⟨h2, h3⟩ := h
  have hc : zc0 A (e + 1) = zc0 A e + 1 := by unfold zc0; rw [hs, List.length_append]; rfl
  have hcL : zc0 A e = (znl A.2.2.1 e).length := rfl
  unfold RNb
  rw [hc, hs]
  refine ⟨fun j hj => ?_, fun x hx hn => ?_⟩
  · by_cases y : j = zc0 A e
    · subst y
      rw [getD_app, if_neg (by omega), if_pos hcL, a3, a2, upd_at, upd_at]
      exact ⟨rfl, rfl⟩
    · obtain ⟨b1, b2⟩ := h2 j (by omega)
      rw [getD_pre (by omega), a3, a2, upd_ne (by omega), upd_ne (fun w => ht (by rw [← w]; exact mem_getD (by omega)))]
      exact ⟨b1, b2⟩
  · have hne : x ≠ t := fun w => hn (List.mem_append.mpr (Or.inr (by rw [w]; exact List.mem_singleton.mpr rfl)))
    rw [a2, upd_ne hne]
    exact h3 x hx (fun w => hn (List.mem_append.mpr (Or.inl w)))
/-- the reference holds the numbered automaton -/
def RMn (kd : Nat) (N : ZNM) (v : SM) : Prop := v.2.1 44 kd = nI N.1 ∧ (∀ s, s < N.1 → ∀ i, i < 102 → mK kd v s i = N.2.1 s i) ∧ ∀ s, s < N.1 → ∀ b, b < 14 → v.2.1 40 (14 * (200 * kd + s) + b) = fI (N.2.2 s b)
def nbQ (kd : Nat) (A : ZAS) (u : SM) (x : Option Value) (v : SM) : Prop := x = none ∧ RMn kd (zN A) v ∧ frM [] [38, 40, 44, 49, 50, 51, 52] u v ∧ oKd kd u v
-- METHOD X12_numberAnew
set_option maxHeartbeats 2000000 in
/-- from the copies on -/
theorem m_numberAnew3 {u u1 : SM} {kd : Nat} {A : ZAS} {x3 x4 x5 : Option Value} (hk : kd < 3) (h200 : (zL A).length ≤ 200) (f : frM [] [49, 50, 51, 52] u u1) (c1 : ∀ k, k < (zL A).length → ∀ i, i < 102 → u1.2.1 51 (102 * k + i) = (zN A).2.1 k i) (c2 : ∀ k, k < (zL A).length → ∀ b, b < 14 → u1.2.1 52 (14 * k + b) = fI ((zN A).2.2 k b)) : RnQ ZR mX12_numberAnew (237, [some (.ref 0), some (.int (nI kd)), some (.int (nI (zL A).length)), x3, x4, x5], [], u1) (nbQ kd A u) := by
  obtain ⟨n, hn⟩ : ∃ n, n = (zL A).length := ⟨_, rfl⟩
  have hN1 : (zN A).1 = n := hn.symm
  rw [← hn] at h200 c1 c2 ⊢
  refine RQ_le (l' := [some (.ref 0), some (.int (nI kd)), some (.int (nI n)), none, none, none]) ⟨rfl, rfl, rfl, trivial⟩ ?_
  refine RQ_n ZR_ok 2 rfl trivial ?_
  refine loopU (102 * n) (fun i (_ : Unit) => [some (.ref 0), some (.int (nI kd)), some (.int (nI n)), some (.int (nI i)), none, none]) (fun i _ w => frM [] [38] u1 w ∧ (∀ j, j < i → w.2.1 38 (20400 * kd + j) = u1.2.1 51 j) ∧ ∀ j, (j < 20400 * kd ∨ 20400 * kd + i ≤ j) → w.2.1 38 j = u1.2.1 38 j) ?_ 0 () u1 (by omega) ⟨frM.rf, fun j hj => by omega, fun _ _ => rfl⟩
  intro i _ w hi hJ ih
  obtain ⟨g1, g2, g3⟩ := hJ
  refine RQ_n ZR_ok 4 rfl trivial ?_
  rw [show nI n * 102 = nI (102 * n) by rw [show (102 : Int32) = nI 102 from rfl, nI_mul, Nat.mul_comm]]
  refine RQ_b rfl (fun z => ?_) (fun z => ?_)
  · have z := (zq_le (a := 102 * n) (b := i) rfl rfl (by omega) (by omega)).mp z
    have : i = 102 * n := by omega
    subst this
    refine RQ_le (l' := [some (.ref 0), some (.int (nI kd)), some (.int (nI n)), none, none, none]) ⟨rfl, rfl, rfl, trivial⟩ ?_
    refine RQ_n ZR_ok 2 rfl trivial ?_
    refine loopU (14 * n) (fun i (_ : Unit) => [some (.ref 0), some (.int (nI kd)), some (.int (nI n)), some (.int (nI i)), none, none]) (fun i _ v => frM [] [40] w v ∧ (∀ j, j < i → v.2.1 40 (2800 * kd + j) = u1.2.1 52 j) ∧ ∀ j, (j < 2800 * kd ∨ 2800 * kd + i ≤ j) → v.2.1 40 j = u1.2.1 40 j) ?_ 0 () w (by omega) ⟨frM.rf, fun j hj => by omega, fun _ _ => by rw [g1.2.1 40 (by decide)]⟩
    intro b _ v hb hJ ih2
    obtain ⟨e1, e2, e3⟩ := hJ
    refine RQ_n ZR_ok 4 rfl trivial ?_
    rw [show nI n * 14 = nI (14 * n) by rw [show (14 : Int32) = nI 14 from rfl, nI_mul, Nat.mul_comm]]
    refine RQ_b rfl (fun z => ?_) (fun z => ?_)
    · have z := (zq_le (a := 14 * n) (b := b) rfl rfl (by omega) (by omega)).mp z
      have : b = 14 * n := by omega
      subst this
      refine RQ_n ZR_ok 4 rfl trivial ?_
      refine RQ_n ZR_ok 1 rfl ⟨nI_in (by omega) (by omega), trivial⟩ ?_
      rw [nI_clamp (show kd < 2 ^ 31 by omega)]
      obtain ⟨v1, hv1⟩ : ∃ w : SM, w = (v.1, updA v.2.1 44 kd (nI n), v.2.2) := ⟨_, rfl⟩
      rw [← hv1]
      have f3 : frM [] [44] v v1 := by rw [hv1]; exact frM.a 44 (by decide)
      have h44 : v1.2.1 44 = upd (v.2.1 44) kd (nI n) := by rw [hv1]; rfl
      have h38 : v1.2.1 38 = w.2.1 38 := by rw [f3.2.1 38 (by decide), e1.2.1 38 (by decide)]
      have h40 : v1.2.1 40 = v.2.1 40 := f3.2.1 40 (by decide)
      have h39 : v1.2.1 39 = u.2.1 39 := by rw [f3.2.1 39 (by decide), e1.2.1 39 (by decide), g1.2.1 39 (by decide), f.2.1 39 (by decide)]
      have h44b : v.2.1 44 = u.2.1 44 := by rw [e1.2.1 44 (by decide), g1.2.1 44 (by decide), f.2.1 44 (by decide)]
      refine RQ_to (Rn_vret rfl rfl) ⟨rfl, ⟨by rw [h44, upd_at, hN1], fun s hs i hi => ?_, fun s hs b hb => ?_⟩, ?_, fun j hj => ⟨?_, by rw [h39]⟩, fun j hj => ?_, fun j hj => ?_⟩
      · have hs : s < n := by rw [← hN1]; exact hs
        show v1.2.1 38 (mrow kd s + i) = _
        rw [h38, show mrow kd s + i = 20400 * kd + (102 * s + i) by unfold mrow; omega, g2 _ (by omega)]
        exact c1 s hs i hi
      · have hs : s < n := by rw [← hN1]; exact hs
        rw [h40, show 14 * (200 * kd + s) + b = 2800 * kd + (14 * s + b) by omega, e2 _ (by omega)]
        exact c2 s hs b hb
      · exact (((f.up (by decide) (by decide)).tr (g1.up (by decide) (by decide))).tr (e1.up (by decide) (by decide))).tr (f3.up (by decide) (by decide))
      · rw [h38, g3 j (by omega), f.2.1 38 (by decide)]
      · rw [h40, e3 j (by omega), f.2.1 40 (by decide)]
      · rw [h44, upd_ne hj, h44b]
    · have z := (not_congr (zq_le (a := 14 * n) (b := b) rfl rfl (by omega) (by omega))).mp z
      refine RQ_n ZR_ok 9 rfl trivial ?_
      refine RQ_n ZR_ok 2 rfl ⟨nI_in (by omega) (by omega), trivial⟩ ?_
      rw [nI_clamp (show b < 2 ^ 31 by omega), show (2800 : Int32) * nI kd + nI b = nI (2800 * kd + b) by rw [show (2800 : Int32) = nI 2800 from rfl, nI_mul, nI_add]]
      refine RQ_n ZR_ok 1 rfl ⟨nI_in (by omega) (by omega), trivial⟩ ?_
      rw [nI_clamp (show 2800 * kd + b < 2 ^ 31 by omega), show v.2.1 52 b = u1.2.1 52 b by rw [e1.2.1 52 (by decide), g1.2.1 52 (by decide)]]
      obtain ⟨v1, hv1⟩ : ∃ w : SM, w = (v.1, updA v.2.1 40 (2800 * kd + b) (u1.2.1 52 b), v.2.2) := ⟨_, rfl⟩
      rw [← hv1]
      have f3 : frM [] [40] v v1 := by rw [hv1]; exact frM.a 40 (by decide)
      have h40 : v1.2.1 40 = upd (v.2.1 40) (2800 * kd + b) (u1.2.1 52 b) := by rw [hv1]; rfl
      refine RQ_n ZR_ok 2 rfl trivial ?_
      refine ih2 (by omega) () _ _ ⟨rfl, rfl, rfl, nIs b, trivial⟩ ⟨e1.tr f3, fun j hj => ?_, fun j hj => ?_⟩
      · rw [h40]
        by_cases y : j = b
        · rw [y, upd_at]
        · rw [upd_ne (by omega)]; exact e2 j (by omega)
      · rw [h40, upd_ne (by omega)]; exact e3 j (by omega)
  · have z := (not_congr (zq_le (a := 102 * n) (b := i) rfl rfl (by omega) (by omega))).mp z
    refine RQ_n ZR_ok 4 rfl trivial ?_
    refine RQ_s vX12_rowOf (e_rowOf w kd 0) rfl k12_352 rfl rfl rfl rfl ?_
    refine RQ_n ZR_ok 4 rfl trivial ?_
    refine RQ_n ZR_ok 2 rfl ⟨nI_in (by omega) (by omega), trivial⟩ ?_
    rw [nI_clamp (show i < 2 ^ 31 by omega), show nI (mrow kd 0) + nI i = nI (20400 * kd + i) by rw [nI_add]; unfold mrow; congr 1; omega]
    refine RQ_n ZR_ok 1 rfl ⟨nI_in (by omega) (by omega), trivial⟩ ?_
    rw [nI_clamp (show 20400 * kd + i < 2 ^ 31 by omega), show w.2.1 51 i = u1.2.1 51 i by rw [g1.2.1 51 (by decide)]]
    obtain ⟨v1, hv1⟩ : ∃ w1 : SM, w1 = (w.1, updA w.2.1 38 (20400 * kd + i) (u1.2.1 51 i), w.2.2) := ⟨_, rfl⟩
    rw [← hv1]
    have f3 : frM [] [38] w v1 := by rw [hv1]; exact frM.a 38 (by decide)
    have h40 : v1.2.1 38 = upd (w.2.1 38) (20400 * kd + i) (u1.2.1 51 i) := by rw [hv1]; rfl
    refine RQ_n ZR_ok 2 rfl trivial ?_
    refine ih (by omega) () _ _ ⟨rfl, rfl, rfl, nIs i, trivial⟩ ⟨g1.tr f3, fun j hj => ?_, fun j hj => ?_⟩
    · rw [h40]
      by_cases y : j = i
      · rw [y, upd_at]
      · rw [upd_ne (by omega)]; exact g2 j (by omega)
    · rw [h40, upd_ne (by omega)]; exact g3 j (by omega)
set_option maxHeartbeats 2000000 in
/-- from the numbers on -/
theorem m_numberAnew2 {G : ZGT} {u u1 : SM} {kd : Nat} {A : ZAS} {x3 x4 x5 : Option Value} (hk : kd < 3) (hA : RMa kd A u) (hI : ZAI G A) (f : frM [] [49, 50, 51, 52] u u1) (hB : RNb A (14 * (zL A).length) u1) : RnQ ZR mX12_numberAnew (118, [some (.ref 0), some (.int (nI kd)), some (.int (nI (zL A).length)), x3, x4, x5], [], u1) (nbQ kd A u) := by
  have h200 : (zL A).length ≤ 200 := zLl hI
  have hm200 : A.1 ≤ 200 := hI.1.2
  rw [RNb, zc0, zL_end hI] at hB
  obtain ⟨n, hn⟩ : ∃ n, n = (zL A).length := ⟨_, rfl⟩
  have hsl : ∀ k, k < n → (zL A).getD k 0 < A.1 := fun k hk => (zLo hI).2.1 _ (mem_getD (by omega))
  rw [← hn] at h200 hB ⊢
  have hA38 : ∀ w : SM, frM [] [49, 50, 51, 52] u w → RMa kd A w := fun w fw => by
    refine ⟨by rw [fw.2.1 44 (by decide)]; exact hA.1, fun s hs i hi => ?_, fun s hs b hb => by rw [fw.2.1 40 (by decide)]; exact hA.2.2.1 s hs b hb, ?_⟩
    · show w.2.1 38 _ = _
      rw [fw.2.1 38 (by decide)]; exact hA.2.1 s hs i hi
    · exact ⟨by rw [fw.1 48 (by decide)]; exact hA.2.2.2.1, fun j hj => by rw [fw.2.1 46 (by decide)]; exact hA.2.2.2.2.1 j hj, fun x hx => by rw [fw.2.1 47 (by decide)]; exact hA.2.2.2.2.2 x hx⟩
  refine RQ_le (l' := [some (.ref 0), some (.int (nI kd)), some (.int (nI n)), none, none, none]) ⟨rfl, rfl, rfl, trivial⟩ ?_
  refine RQ_n ZR_ok 2 rfl trivial ?_
  refine loopU n (fun k (_ : Unit) => [some (.ref 0), some (.int (nI kd)), some (.int (nI n)), some (.int (nI k)), none, none]) (fun k _ w => frM [] [49, 50, 51, 52] u w ∧ w.2.1 49 = u1.2.1 49 ∧ w.2.1 50 = u1.2.1 50 ∧ (∀ k', k' < k → ∀ i, i < 102 → w.2.1 51 (102 * k' + i) = (zN A).2.1 k' i) ∧ ∀ k', k' < k → ∀ b, b < 14 → w.2.1 52 (14 * k' + b) = fI ((zN A).2.2 k' b)) ?_ 0 () u1 (by omega) ⟨f, rfl, rfl, fun k' hk' => by omega, fun k' hk' => by omega⟩
  intro k _ w hkn hJ ih
  obtain ⟨g1, g2, g3, g4, g5⟩ := hJ
  refine RQ_n ZR_ok 2 rfl trivial ?_
  refine RQ_b rfl (fun z => ?_) (fun z => ?_)
  · have z := (zq_le (a := n) (b := k) rfl rfl (by omega) (by omega)).mp z
    have : k = n := by omega
    subst this
    rw [hn] at g4 g5 h200 ⊢
    exact m_numberAnew3 hk h200 g1 g4 g5
  have z := (not_congr (zq_le (a := n) (b := k) rfl rfl (by omega) (by omega))).mp z
  have hk' : k < n := by omega
  have hs := hsl k hk'
  have ho : u1.2.1 50 k = nI ((zL A).getD k 0) := (hB.1 k (by omega)).1
  obtain ⟨sl, hsle⟩ : ∃ sl, sl = (zL A).getD k 0 := ⟨_, rfl⟩
  rw [← hsle] at hs ho
  have hKn : (zN A).2.1 k = A.2.1 sl := by rw [hsle]; rfl
  have hgn : ∀ b, (zN A).2.2 k b = (A.2.2.1 sl b).map (fun t => (zL A).idxOf t) := fun b => by rw [hsle]; rfl
  refine RQ_n ZR_ok 2 rfl trivial ?_
  refine loopU 102 (fun i (_ : Unit) => [some (.ref 0), some (.int (nI kd)), some (.int (nI n)), some (.int (nI k)), some (.int (nI i)), none]) (fun i _ v => frM [] [51] w v ∧ (∀ j, j < i → v.2.1 51 (102 * k + j) = A.2.1 sl j) ∧ ∀ j, j < 102 * k → v.2.1 51 j = w.2.1 51 j) ?_ 0 () w (by omega) ⟨frM.rf, fun j hj => by omega, fun _ _ => rfl⟩
  intro i _ v hi hJ2 ih2
  obtain ⟨e1, e2, e3⟩ := hJ2
  have fv : frM [] [49, 50, 51, 52] u v := g1.tr (e1.up (by decide) (by decide))
  refine RQ_n ZR_ok 2 rfl trivial ?_
  refine RQ_b rfl (fun z => ?_) (fun z => ?_)
  · have z := (zq_le (a := 102) (b := i) rfl rfl (by omega) (by omega)).mp z
    have : i = 102 := by omega
    subst this
    refine RQ_le (l' := [some (.ref 0), some (.int (nI kd)), some (.int (nI n)), some (.int (nI k)), none, none]) ⟨rfl, rfl, rfl, rfl, trivial⟩ ?_
    refine RQ_n ZR_ok 2 rfl trivial ?_
    refine loopU 14 (fun i (_ : Unit) => [some (.ref 0), some (.int (nI kd)), some (.int (nI n)), some (.int (nI k)), some (.int (nI i)), none]) (fun b _ v1 => frM [] [52] v v1 ∧ (∀ j, j < b → v1.2.1 52 (14 * k + j) = fI ((zN A).2.2 k j)) ∧ ∀ j, j < 14 * k → v1.2.1 52 j = v.2.1 52 j) ?_ 0 () v (by omega) ⟨frM.rf, fun j hj => by omega, fun _ _ => rfl⟩
    intro b _ v1 hb hJ3 ih3
    obtain ⟨d1, d2, d3⟩ := hJ3
    have fv1 : frM [] [49, 50, 51, 52] u v1 := fv.tr (d1.up (by decide) (by decide))
    refine RQ_n ZR_ok 2 rfl trivial ?_
    refine RQ_b rfl (fun z => ?_) (fun z => ?_)
    · have z := (zq_le (a := 14) (b := b) rfl rfl (by omega) (by omega)).mp z
      have : b = 14 := by omega
      subst this
      refine RQ_n ZR_ok 2 rfl trivial ?_
      refine ih (by omega) () _ _ ⟨rfl, rfl, rfl, nIs k, trivial⟩ ⟨fv1, ?_, ?_, fun k' hk' i hi => ?_, fun k' hk' b hb => ?_⟩
      · rw [d1.2.1 49 (by decide), e1.2.1 49 (by decide)]; exact g2
      · rw [d1.2.1 50 (by decide), e1.2.1 50 (by decide)]; exact g3
      · rw [d1.2.1 51 (by decide)]
        by_cases y : k' = k
        · rw [y, hKn]; exact e2 i hi
        · rw [e3 _ (by omega)]; exact g4 k' (by omega) i hi
      · by_cases y : k' = k
        · rw [y]; exact d2 b hb
        · rw [d3 _ (by omega), e1.2.1 52 (by decide)]; exact g5 k' (by omega) b hb
    have z := (not_congr (zq_le (a := 14) (b := b) rfl rfl (by omega) (by omega))).mp z
    have h50 : v1.2.1 50 = u1.2.1 50 := by rw [d1.2.1 50 (by decide), e1.2.1 50 (by decide)]; exact g3
    have h49 : v1.2.1 49 = u1.2.1 49 := by rw [d1.2.1 49 (by decide), e1.2.1 49 (by decide)]; exact g2
    refine RQ_n ZR_ok 5 rfl trivial ?_
    refine RQ_n ZR_ok 1 rfl ⟨nI_in (by omega) (by omega), trivial⟩ ?_
    rw [nI_clamp (show k < 2 ^ 31 by omega), h50, ho]
    refine RQ_n ZR_ok 1 rfl trivial ?_
    have hgb := m_goesBy v1 hk (show sl < 200 by omega) (show b < 14 by omega)
    rw [(hA38 v1 fv1).2.2.1 sl hs b (by omega)] at hgb
    refine RQ_v vX12_goesBy hgb rfl k12_386 rfl rfl rfl rfl rfl ?_
    refine RQ_n ZR_ok 9 rfl trivial ?_
    have e14 : (14 : Int32) * nI k + nI b = nI (14 * k + b) := by rw [show (14 : Int32) = nI 14 from rfl, nI_mul, nI_add]
    rw [e14]
    refine RQ_n ZR_ok 1 rfl trivial ?_
    have fin : ∀ (x : Int32) (x5 : Option Value), x = fI ((zN A).2.2 k b) → RnQ ZR mX12_numberAnew (224, [some (.ref 0), some (.int (nI kd)), some (.int (nI n)), some (.int (nI k)), some (.int (nI b)), x5], [.int x, .int (nI (14 * k + b)), .ref 35], v1) (nbQ kd A u) := by
      intro x x5 hx
      refine RQ_n ZR_ok 1 rfl ⟨nI_in (by omega) (by omega), trivial⟩ ?_
      rw [nI_clamp (show 14 * k + b < 2 ^ 31 by omega)]
      obtain ⟨v2, hv2⟩ : ∃ w : SM, w = (v1.1, updA v1.2.1 52 (14 * k + b) x, v1.2.2) := ⟨_, rfl⟩
      rw [← hv2]
      have f3 : frM [] [52] v1 v2 := by rw [hv2]; exact frM.a 52 (by decide)
      have h52 : v2.2.1 52 = upd (v1.2.1 52) (14 * k + b) x := by rw [hv2]; rfl
      refine RQ_n ZR_ok 2 rfl trivial ?_
      refine ih3 (by omega) () _ _ ⟨rfl, rfl, rfl, rfl, nIs b, trivial⟩ ⟨d1.tr f3, fun j hj => ?_, fun j hj => ?_⟩
      · rw [h52]
        by_cases y : j = b
        · rw [y, upd_at, hx]
        · rw [upd_ne (by omega)]; exact d2 j (by omega)
      · rw [h52, upd_ne (by omega)]; exact d3 j hj
    cases hg : A.2.2.1 sl b with
    | none =>
      refine RQ_b rfl (fun y => absurd rfl y) (fun _ => ?_)
      refine RQ_n ZR_ok 2 rfl trivial ?_
      exact fin (-1) _ (by rw [hgn, hg]; rfl)
    | some t =>
      have htm : t < A.1 := hI.2.2.2.1 sl hs b t hg
      refine RQ_b rfl (fun _ => ?_) (fun y => absurd (Classical.not_not.mp y) (nI_m1 (a := t) (by omega)))
      refine RQ_n ZR_ok 3 rfl trivial ?_
      show RnQ ZR mX12_numberAnew (_, _, .int (nI t) :: _, v1) _
      refine RQ_n ZR_ok 1 rfl ⟨nI_in (show t < 200 by omega) (by omega), trivial⟩ ?_
      rw [nI_clamp (show t < 2 ^ 31 by omega)]
      refine fin _ _ ?_
      have hNO := (zN_ok hI).2.2.2.2.2.2 k b (by show k < (zL A).length; omega) (by omega)
      rw [hgn, hg, h49]
      have hmem : t ∈ zL A := by
        refine Classical.byContradiction (fun y => ?_)
        have hi := List.idxOf_eq_length y
        rcases hNO with ⟨o1, -⟩ | ⟨t', o1, o2⟩
        · rw [hgn, hg] at o1; cases o1
        · rw [hgn, hg] at o1
          have o1 : (zL A).idxOf t = t' := Option.some.inj o1
          rw [hi] at o1
          have c1 : zc0 A (14 * k + b + 1) ≤ (zL A).length := zL_le (by omega)
          omega
      have hl := List.idxOf_lt_length_of_mem hmem
      have := (hB.1 _ (by rw [hn]; exact hl)).2
      rw [getD_idx hmem] at this
      exact this
  have z := (not_congr (zq_le (a := 102) (b := i) rfl rfl (by omega) (by omega))).mp z
  have h50 : v.2.1 50 = u1.2.1 50 := by rw [e1.2.1 50 (by decide)]; exact g3
  have hrow := mrow_lt hk (show sl < 200 by omega)
  refine RQ_n ZR_ok 13 rfl trivial ?_
  refine RQ_n ZR_ok 1 rfl ⟨nI_in (by omega) (by omega), trivial⟩ ?_
  rw [nI_clamp (show k < 2 ^ 31 by omega), h50, ho]
  refine RQ_s vX12_rowOf (e_rowOf v kd sl) rfl k12_352 rfl rfl rfl rfl ?_
  refine RQ_n ZR_ok 2 rfl trivial ?_
  rw [nI_add, show (102 : Int32) * nI k + nI i = nI (102 * k + i) by rw [show (102 : Int32) = nI 102 from rfl, nI_mul, nI_add]]
  refine RQ_n ZR_ok 1 rfl ⟨nI_in (by omega) (by omega), trivial⟩ ?_
  rw [nI_clamp (show mrow kd sl + i < 2 ^ 31 by omega), show v.2.1 38 (mrow kd sl + i) = A.2.1 sl i from (hA38 v fv).2.1 sl hs i (by omega)]
  refine RQ_n ZR_ok 1 rfl ⟨nI_in (by omega) (by omega), trivial⟩ ?_
  rw [nI_clamp (show 102 * k + i < 2 ^ 31 by omega)]
  obtain ⟨v2, hv2⟩ : ∃ w : SM, w = (v.1, updA v.2.1 51 (102 * k + i) (A.2.1 sl i), v.2.2) := ⟨_, rfl⟩
  rw [← hv2]
  have f3 : frM [] [51] v v2 := by rw [hv2]; exact frM.a 51 (by decide)
  have h51 : v2.2.1 51 = upd (v.2.1 51) (102 * k + i) (A.2.1 sl i) := by rw [hv2]; rfl
  refine RQ_n ZR_ok 2 rfl trivial ?_
  refine ih2 (by omega) () _ _ ⟨rfl, rfl, rfl, rfl, nIs i, trivial⟩ ⟨e1.tr f3, fun j hj => ?_, fun j hj => ?_⟩
  · rw [h51]
    by_cases y : j = i
    · rw [y, upd_at]
    · rw [upd_ne (by omega)]; exact e2 j (by omega)
  · rw [h51, upd_ne (by omega)]; exact e3 j hj
set_option maxHeartbeats 2000000 in
theorem m_numberAnew {G : ZGT} {u : SM} {kd : Nat} {A : ZAS} (hk : kd < 3) (hA : RMa kd A u) (hI : ZAI G A) : EvQ ZR mX12_numberAnew [.ref 0, .int (nI kd)] u (nbQ kd A u) := by
  have h200 : (zL A).length ≤ 200 := zLl hI
  have hm200 : A.1 ≤ 200 := hI.1.2
  refine EQ_V vX12_numberAnew rfl ?_
  refine RQ_n ZR_ok 2 rfl trivial ?_
  refine loopU 200 (fun i (_ : Unit) => [some (.ref 0), some (.int (nI kd)), some (.int (nI i)), none, none, none]) (fun i _ w => frM [] [49, 50, 51, 52] u w ∧ ∀ j, j < i → w.2.1 49 j = -1) ?_ 0 () u (by omega) ⟨frM.rf, fun j hj => by omega⟩
  intro i _ w hi hJ ih
  obtain ⟨g1, g2⟩ := hJ
  refine RQ_n ZR_ok 2 rfl trivial ?_
  refine RQ_b rfl (fun z => ?_) (fun z => ?_)
  · have z := (zq_le (a := 200) (b := i) rfl rfl (by omega) (by omega)).mp z
    have : i = 200 := by omega
    subst this
    clear ih
    refine RQ_le (l' := [some (.ref 0), some (.int (nI kd)), none, none, none, none]) ⟨rfl, rfl, trivial⟩ ?_
    refine RQ_n ZR_ok 4 rfl trivial ?_
    refine RQ_n ZR_ok 1 rfl ⟨nI_in (c := 0) (by omega) (by omega), trivial⟩ ?_
    refine RQ_n ZR_ok 4 rfl trivial ?_
    refine RQ_n ZR_ok 1 rfl ⟨nI_in (c := 0) (by omega) (by omega), trivial⟩ ?_
    obtain ⟨w1, hw1⟩ : ∃ v : SM, v = (w.1, updA (updA w.2.1 49 0 0) 50 0 0, w.2.2) := ⟨_, rfl⟩
    refine RQ_n ZR_ok 4 rfl trivial ?_
    show RnQ ZR mX12_numberAnew (40, _, _, ((w.1, updA (updA w.2.1 49 0 0) 50 0 0, w.2.2) : SM)) _
    rw [← hw1]
    have f1 : frM [] [49, 50, 51, 52] u w1 := g1.tr (by rw [hw1]; exact (frM.a 49 (by decide)).tr (frM.a (s := (w.1, updA w.2.1 49 0 0, w.2.2)) 50 (by decide)))
    have h49 : w1.2.1 49 = upd (w.2.1 49) 0 0 := by rw [hw1]; rfl
    have h50 : w1.2.1 50 = upd (w.2.1 50) 0 0 := by rw [hw1]; rfl
    have J0 : RNb A 0 w1 := by
      refine ⟨fun j hj => ?_, fun t ht hn => ?_⟩
      · have hj : j < 1 := hj
        have hj : j = 0 := by omega
        subst hj
        show w1.2.1 50 0 = nI 0 ∧ w1.2.1 49 0 = nI 0
        rw [h50, h49, upd_at, upd_at]
        exact ⟨rfl, rfl⟩
      · have hne : t ≠ 0 := fun y => hn (by rw [y]; exact List.mem_singleton.mpr rfl)
        rw [h49, upd_ne hne]
        exact g2 t ht
    have key : ∀ d k b v, 15 * k + b + d = 3015 → b ≤ 14 → k < (zL A).length → RNb A (14 * k + b) v → frM [] [49, 50, 51, 52] u v → RnQ ZR mX12_numberAnew (48, [some (.ref 0), some (.int (nI kd)), some (.int (nI (zc0 A (14 * k + b)))), some (.int (nI k)), some (.int (nI b)), none], [], v) (nbQ kd A u) := by
      intro d
      induction d with
      | zero => intro k b v hd hb hk hJ hf; omega
      | succ d ih =>
        intro k b v hd hb hkn hJ hf
        have hk1 : k < zc0 A (14 * k + b) := Nat.lt_of_lt_of_le (zL_k hI hkn) (znl_le (by omega))
        have hc200 : zc0 A (14 * k + b) ≤ 200 := zL_len hI _
        refine RQ_n ZR_ok 2 rfl trivial ?_
        refine RQ_b rfl (fun z => ?_) (fun z => ?_)
        · have z := (zq_le (a := 14) (b := b) rfl rfl (by omega) (by omega)).mp z
          have hb14 : b = 14 := by omega
          subst hb14
          have e14 : 14 * k + 14 = 14 * (k + 1) := by omega
          rw [e14] at hJ hc200 ⊢
          refine RQ_n ZR_ok 2 rfl trivial ?_
          rw [show nI k + 1 = nI (k + 1) from nI_add k 1]
          refine RQ_n ZR_ok 2 rfl trivial ?_
          refine RQ_b rfl (fun z => ?_) (fun z => ?_)
          · have z := (zq_le (a := zc0 A (14 * (k + 1))) (b := k + 1) rfl rfl (by omega) (by omega)).mp z
            have he : (zL A).length = k + 1 := by
              refine Nat.le_antisymm (Classical.byContradiction fun y => ?_) hkn
              have := zL_k hI (k := k + 1) (by omega)
              exact absurd z (Nat.not_le.mpr this)
            have hce : zc0 A (14 * (k + 1)) = (zL A).length := by rw [← he]; unfold zc0; rw [zL_end hI]
            rw [hce]
            exact m_numberAnew2 hk hA hI hf (by rw [he]; exact hJ)
          · have z := (not_congr (zq_le (a := zc0 A (14 * (k + 1))) (b := k + 1) rfl rfl (by omega) (by omega))).mp z
            have hk2 : k + 1 < (zL A).length := Nat.lt_of_lt_of_le (Nat.not_le.mp z) (zL_le (by omega))
            refine RQ_n ZR_ok 2 rfl trivial ?_
            exact ih (k + 1) 0 v (by omega) (by omega) hk2 hJ hf
        · have z := (not_congr (zq_le (a := 14) (b := b) rfl rfl (by omega) (by omega))).mp z
          have hsk := (hJ.1 k hk1).1
          have hin := mem_getD (L := znl A.2.2.1 (14 * k + b)) hk1
          have hsm := (zL_ok hI (14 * k + b)).2.1 _ hin
          obtain ⟨sl, hsl⟩ : ∃ sl, sl = (znl A.2.2.1 (14 * k + b)).getD k 0 := ⟨_, rfl⟩
          rw [← hsl] at hsk hsm
          refine RQ_n ZR_ok 5 rfl trivial ?_
          refine RQ_n ZR_ok 1 rfl ⟨nI_in (by omega) (by omega), trivial⟩ ?_
          rw [nI_clamp (show k < 2 ^ 31 by omega), hsk]
          refine RQ_n ZR_ok 1 rfl trivial ?_
          have hgb := m_goesBy v hk (show sl < 200 by omega) (show b < 14 by omega)
          rw [show v.2.1 40 (14 * (200 * kd + sl) + b) = fI (A.2.2.1 sl b) by rw [hf.2.1 40 (by decide)]; exact hA.2.2.1 sl hsm b (by omega)] at hgb
          refine RQ_v vX12_goesBy hgb rfl k12_386 rfl rfl rfl rfl rfl ?_
          refine RQ_n ZR_ok 3 rfl trivial ?_
          have hst : znl A.2.2.1 (14 * k + b + 1) = zns A.2.2.1 (znl A.2.2.1 (14 * k + b)) k b := by
            have := znl_s (go := A.2.2.1) (e := 14 * k + b) (by rw [show (14 * k + b) / 14 = k by omega]; exact hk1)
            rw [show (14 * k + b) / 14 = k by omega, show (14 * k + b) % 14 = b by omega] at this
            exact this
          unfold zns at hst
          rw [← hsl] at hst
          have nb : nI b + 1 = nI (b + 1) := nI_add b 1
          have fin : ∀ (y : Option Value) (w : SM), RNb A (14 * k + b + 1) w → frM [] [49, 50, 51, 52] u w → RnQ ZR mX12_numberAnew (106, [some (.ref 0), some (.int (nI kd)), some (.int (nI (zc0 A (14 * k + b + 1)))), some (.int (nI k)), some (.int (nI b)), y], [], w) (nbQ kd A u) := by
            intro y w hw fw
            refine RQ_le (l' := [some (.ref 0), some (.int (nI kd)), some (.int (nI (zc0 A (14 * k + b + 1)))), some (.int (nI k)), some (.int (nI b)), none]) ⟨rfl, rfl, rfl, rfl, rfl, trivial⟩ ?_
            refine RQ_n ZR_ok 2 rfl trivial ?_
            rw [nb]
            exact ih k (b + 1) w (by omega) (by omega) hkn hw fw
          cases hg : A.2.2.1 sl b with
          | none =>
            rw [hg] at hst
            refine RQ_b rfl (fun _ => ?_) (fun y => absurd rfl y)
            have hce : zc0 A (14 * k + b) = zc0 A (14 * k + b + 1) := by unfold zc0; rw [hst]
            rw [hce]
            exact fin _ v (RNb_id hJ hst) hf
          | some t =>
            rw [hg] at hst
            dsimp only at hst
            have htm : t < A.1 := hI.2.2.2.1 sl hsm b t hg
            refine RQ_b rfl (fun y => absurd y (nI_m1 (a := t) (by omega))) (fun _ => ?_)
            refine RQ_n ZR_ok 3 rfl trivial ?_
            show RnQ ZR mX12_numberAnew (_, _, [.int (nI t), _], v) _
            refine RQ_n ZR_ok 1 rfl ⟨nI_in (show t < 200 by omega) (by omega), trivial⟩ ?_
            rw [nI_clamp (show t < 2 ^ 31 by omega)]
            refine RQ_n ZR_ok 1 rfl trivial ?_
            by_cases y : t ∈ znl A.2.2.1 (14 * k + b)
            · rw [if_pos y] at hst
              have hl := List.idxOf_lt_length_of_mem y
              have hnum := (hJ.1 _ hl).2
              rw [getD_idx y] at hnum
              rw [hnum]
              have hl2 : (znl A.2.2.1 (14 * k + b)).idxOf t < 200 := Nat.lt_of_lt_of_le hl hc200
              refine RQ_b rfl (fun _ => ?_) (fun w => absurd (Classical.not_not.mp w) (nI_m1 (by omega)))
              have hce : zc0 A (14 * k + b) = zc0 A (14 * k + b + 1) := by unfold zc0; rw [hst]
              rw [hce]
              exact fin _ v (RNb_id hJ hst) hf
            · rw [if_neg y] at hst
              rw [hJ.2 t (by omega) y]
              refine RQ_b rfl (fun w => absurd rfl w) (fun _ => ?_)
              have hce : zc0 A (14 * k + b + 1) = zc0 A (14 * k + b) + 1 := by unfold zc0; rw [hst, List.length_append]; rfl
              have hlt : zc0 A (14 * k + b) < 200 := by
                have : zc0 A (14 * k + b + 1) ≤ 200 := zL_len hI _
                omega
              refine RQ_n ZR_ok 4 rfl trivial ?_
              show RnQ ZR mX12_numberAnew (_, _, [_, .int (nI t), _], v) _
              refine RQ_n ZR_ok 1 rfl ⟨nI_in (show t < 200 by omega) (by omega), trivial⟩ ?_
              rw [nI_clamp (show t < 2 ^ 31 by omega)]
              refine RQ_n ZR_ok 4 rfl trivial ?_
              refine RQ_n ZR_ok 1 rfl ⟨nI_in hlt (by omega), trivial⟩ ?_
              rw [nI_clamp (show zc0 A (14 * k + b) < 2 ^ 31 by omega)]
              obtain ⟨v4, hv4⟩ : ∃ w : SM, w = (v.1, updA (updA v.2.1 49 t (nI (zc0 A (14 * k + b)))) 50 (zc0 A (14 * k + b)) (nI t), v.2.2) := ⟨_, rfl⟩
              show RnQ ZR mX12_numberAnew (_, _, _, ((v.1, updA (updA v.2.1 49 t (nI (zc0 A (14 * k + b)))) 50 (zc0 A (14 * k + b)) (nI t), v.2.2) : SM)) _
              rw [← hv4]
              have f4 : frM [] [49, 50, 51, 52] v v4 := by rw [hv4]; exact (frM.a 49 (by decide)).tr (frM.a (s := (v.1, updA v.2.1 49 t (nI (zc0 A (14 * k + b))), v.2.2)) 50 (by decide))
              have k49 : v4.2.1 49 = upd (v.2.1 49) t (nI (zc0 A (14 * k + b))) := by rw [hv4]; rfl
              have k50 : v4.2.1 50 = upd (v.2.1 50) (zc0 A (14 * k + b)) (nI t) := by rw [hv4]; rfl
              refine RQ_n ZR_ok 1 rfl trivial ?_
              rw [show nI (zc0 A (14 * k + b)) + 1 = nI (zc0 A (14 * k + b + 1)) by rw [hce]; exact nI_add _ 1]
              exact fin _ v4 (RNb_up hJ y hst k49 k50) (hf.tr f4)
    refine RQ_n ZR_ok 2 rfl trivial ?_
    refine RQ_b rfl (fun z => absurd (show (1 : Int32) ≤ 0 from z) (by decide)) (fun _ => ?_)
    refine RQ_n ZR_ok 2 rfl trivial ?_
    exact key 3015 0 0 w1 (by omega) (by omega) (zLo hI).2.2.1 J0 f1
  · have z := (not_congr (zq_le (a := 200) (b := i) rfl rfl (by omega) (by omega))).mp z
    refine RQ_n ZR_ok 4 rfl trivial ?_
    refine RQ_n ZR_ok 1 rfl ⟨nI_in (by omega) (by omega), trivial⟩ ?_
    rw [nI_clamp (show i < 2 ^ 31 by omega)]
    obtain ⟨v1, hv1⟩ : ∃ w1 : SM, w1 = (w.1, updA w.2.1 49 i (-1), w.2.2) := ⟨_, rfl⟩
    rw [← hv1]
    have f3 : frM [] [49, 50, 51, 52] w v1 := by rw [hv1]; exact frM.a 49 (by decide)
    have h40 : v1.2.1 49 = upd (w.2.1 49) i (-1) := by rw [hv1]; rfl
    refine RQ_n ZR_ok 2 rfl trivial ?_
    refine ih (by omega) () _ _ ⟨rfl, rfl, nIs i, trivial⟩ ⟨g1.tr f3, fun j hj => ?_⟩
    rw [h40]
    by_cases y : j = i
    · rw [y, upd_at]
    · rw [upd_ne (by omega)]; exact g2 j (by omega)
