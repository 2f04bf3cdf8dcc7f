/-! The reference: layWord. -/
def frMw (s v : SM) : Prop := (∀ k, k ≠ 73 → v.1 k = s.1 k) ∧ ∀ a, a ≠ 72 → v.2.1 a = s.2.1 a
theorem frMw.tr {s v w : SM} (h1 : frMw s v) (h2 : frMw v w) : frMw s w := ⟨fun k hk => (h2.1 k hk).trans (h1.1 k hk), fun a ha => (h2.2 a ha).trans (h1.2 a ha)⟩
theorem frMw.of {s v : SM} (f : frM [73] [72] s v) : frMw s v := ⟨fun k hk => f.1 k (fun y => hk (List.mem_singleton.mp y)), fun a ha => f.2.1 a (fun y => ha (List.mem_singleton.mp y))⟩
theorem frMw.z {s v : SM} (h1 : v.1 = s.1) (h2 : v.2.1 = s.2.1) : frMw s v := ⟨fun k _ => by rw [h1], fun a _ => by rw [h2]⟩
theorem frMw.m {s v : SM} (f : frMw s v) : frM [73] [72] s (v.1, v.2.1, s.2.2) := ⟨fun k hk => f.1 k (fun y => hk (by rw [y]; decide)), fun a ha => f.2 a (fun y => ha (by rw [y]; decide)), rfl⟩
theorem frMw.v {s v : SM} (f : frMw s v) : frV s v := ⟨fun k hk => f.1 k (fun y => by rw [y] at hk; revert hk; decide), fun a ha => f.2 a (fun y => by rw [y] at ha; revert ha; decide)⟩
theorem RGr.lg {G : ZGT} {os : Nat → Option ZAS} {v : SM} {z : Int64} (h : RGr G os (v.1, v.2.1, z)) : RGr G os v := h
theorem RGr.mw {G : ZGT} {os : Nat → Option ZAS} {s v : SM} (h : RGr G os s) (f : frMw s v) : RGr G os v := RGr.lg (h.fr f.m (by decide) (by decide))
theorem SRM.mw {S : Nat → Nat} {s v : SM} (h : SRM S s) (f : frMw s v) : SRM S v := by
  unfold SRM at h ⊢
  rw [f.2 28 (by decide)]; exact h
section LayW
variable {G : ZGT} {s : SM} {os : Nat → Option ZAS}
set_option maxHeartbeats 1000000 in
theorem m_layWord (h : RGr G os s) (z0 : Int64) : EvQ ZR mX12_layWord [.ref 0, .long z0] s (fun x v => x = some (.int (bI (zwd G (zSh G) z0).isSome)) ∧ (∀ l w, zwd G (zSh G) z0 = some (l, w) → WM l w v ∧ l ≤ 60 ∧ ∀ i, i < l → w i < zgT G) ∧ RGr G os v ∧ frV s v) := by
  have hb := h.1.b
  have hGW := h.1.1
  obtain ⟨S, hSS⟩ : ∃ S, S = zSh G := ⟨_, rfl⟩
  rw [← hSS]
  obtain ⟨Q, hQ⟩ : ∃ Q : Option Value → SM → Prop, Q = (fun x v => x = some (.int (bI (zwd G S z0).isSome)) ∧ (∀ l w, zwd G S z0 = some (l, w) → WM l w v ∧ l ≤ 60 ∧ ∀ i, i < l → w i < zgT G) ∧ RGr G os v ∧ frV s v) := ⟨_, rfl⟩
  rw [← hQ]
  refine EQ_V vX12_layWord rfl ?_
  refine RQ_n ZR_ok 2 rfl trivial ?_
  rw [h.1.2.1.1]
  refine RQ_b rfl (fun _ => ?_) (fun z => absurd (fun y => by have := (zq_eq (a := zgR G) (b := 0) rfl rfl (by omega) (by omega)).mp y; omega) z)
  refine RQ_n ZR_ok 1 rfl trivial ?_
  refine RQ_V vX12_laySets (m_laySets h.1 h.2.1) rfl k12_313 rfl rfl rfl rfl (fun _ _ _ => rfl) ?_
  rintro r1 u ⟨rfl, q1, q2, q3⟩
  obtain ⟨-, -, -, S1, a4, a5⟩ := q1.all hGW
  have hR := h.sl q1 q2 q3
  have hf : frV s u := q3.v (by decide) (by decide)
  have hS : SRM S u := fun n hn => by
    rw [hSS, ← a5 n hn]; exact a4 n hn
  have qno : ∀ v, zwd G S z0 = none → frMw u v → Q (some (.int 0)) v := fun v e f => by
    rw [hQ]
    exact ⟨by rw [e]; rfl, fun l w e2 => (by rw [e] at e2; cases e2), hR.mw f, hf.tr f.v⟩
  refine RQ_n ZR_ok 15 rfl ⟨nI_in (c := 0) (by omega) (by omega), trivial⟩ ?_
  obtain ⟨v0, hv0⟩ : ∃ v : SM, v = (updS u.1 73 1, updA u.2.1 72 0 100, z0) := ⟨_, rfl⟩
  have el0 : zlfm (fun _ => 8) 1 = some 0 := zfst_i (by omega) (decide_eq_true (Nat.le_refl 8)) (fun b hb => by omega)
  have ef0 : fI (zlfm (fun _ => 8) 1) = 0 := by rw [el0]; rfl
  show RnQ ZR mX12_layWord (36, [some (.ref 0), some (.long z0), none, some (.int 0), some (.int (nI 0)), none], [], (updS u.1 73 1, updA u.2.1 72 0 100, z0)) Q
  rw [← hv0, ← ef0]
  have f0 : frMw u v0 := by
    rw [hv0]
    exact ⟨fun k hk => updS_ne hk, fun a ha => updA_ne ha⟩
  have W0 : WM 1 (fun _ => 8) v0 := by
    rw [hv0]
    refine ⟨rfl, fun i hi => ?_⟩
    have : i = 0 := by omega
    subst this
    rfl
  have z00 : v0.2.2 = z0 := by rw [hv0]
  refine loopU 200 (fun t (x : Int64 × Nat × (Nat → Nat)) => [some (.ref 0), some (.long z0), none, some (.int (fI (zlfm x.2.2 x.2.1))), some (.int (nI t)), none]) (fun t x v => frMw u v ∧ v.2.2 = x.1 ∧ WM x.2.1 x.2.2 v ∧ x.2.1 ≤ 60 ∧ (∀ i, i < x.2.1 → zok G (x.2.2 i)) ∧ zmkw G S (200 - t) t x.1 x.2.1 x.2.2 = zwd G S z0) ?_ 0 (z0, 1, fun _ => 8) v0 (by omega) ⟨f0, z00, W0, by show 1 ≤ 60; omega, fun i _ => Or.inr ⟨Nat.le_refl _, by show 8 < 8 + zgN G; omega⟩, rfl⟩
  intro t x v ht hJ ih
  obtain ⟨z, len, w⟩ := x
  obtain ⟨g1, g2, g3, g4, g5, g6⟩ := hJ
  dsimp only at g1 g2 g3 g4 g5 g6 ⊢
  have hw14 : ∀ i, i < len → w i < 14 := fun i hi => by rcases g5 i hi with y | y <;> omega
  have hRv := hR.mw g1
  refine RQ_n ZR_ok 2 rfl trivial ?_
  -- the end
  have p105n : zlfm w len = none → RnQ ZR mX12_layWord (105, [some (.ref 0), some (.long z0), none, some (.int (fI (zlfm w len))), some (.int (nI t)), none], [], v) Q := by
    intro en
    rw [zmkw_n en] at g6
    rw [en]
    refine RQ_n ZR_ok 2 rfl trivial ?_
    refine RQ_b rfl (fun q => absurd rfl q) (fun _ => ?_)
    refine RQ_n ZR_ok 2 rfl trivial ?_
    rw [hQ]
    refine RQ_to (Rn_zret rfl rfl (Or.inr rfl)) ⟨by rw [← g6]; rfl, fun l w' e => ?_, hRv, hf.tr g1.v⟩
    rw [← g6] at e
    cases e
    refine ⟨g3, g4, fun i hi => ?_⟩
    have h8 := of_decide_eq_false (zfst_n.mp en i hi)
    rcases g5 i hi with y | y
    · exact y
    · omega
  by_cases ht2 : t = 200
  · subst ht2
    refine RQ_b rfl (fun _ => ?_) (fun q => absurd (Int32.le_refl _) q)
    cases en : zlfm w len with
    | none => rw [en] at p105n; exact p105n rfl
    | some a =>
      have ha := (zfst_s en).1
      refine RQ_n ZR_ok 2 rfl trivial ?_
      refine RQ_b rfl (fun _ => ?_) (fun q => absurd (fun y => nI_m1 (a := a) (by omega) y) q)
      refine RQ_n ZR_ok 1 rfl trivial ?_
      rw [Nat.sub_self, zmkw_0 en] at g6
      exact RQ_to (Rn_zret rfl rfl (Or.inl rfl)) (qno _ g6.symm g1)
  refine RQ_b rfl (fun q => ?_) (fun _ => ?_)
  · have q := (zq_le (a := 200) (b := t) rfl rfl (by omega) (by omega)).mp q
    omega
  refine RQ_n ZR_ok 2 rfl trivial ?_
  cases en : zlfm w len with
  | none =>
    rw [en] at p105n
    exact RQ_b rfl (fun _ => p105n rfl) (fun q => absurd rfl q)
  | some a =>
  obtain ⟨ha, h8, -⟩ := zfst_s en
  have h8 := of_decide_eq_true h8
  have hwa := hw14 a ha
  obtain ⟨d, hd⟩ : ∃ d, 200 - t = d + 1 := ⟨200 - t - 1, by omega⟩
  have hd1 : 200 - (t + 1) = d := by omega
  rw [hd] at g6
  refine RQ_b rfl (fun q => absurd (show nI a = -1 from q) (nI_m1 (by omega))) (fun _ => ?_)
  show RnQ ZR mX12_layWord (49, [some (.ref 0), some (.long z0), none, some (.int (nI a)), some (.int (nI t)), none], [], v) Q
  refine RQ_n ZR_ok 5 rfl ⟨nI_in (by omega) (by omega), trivial⟩ ?_
  rw [nI_clamp (by omega), g3.2 a ha, zlm_n h8]
  refine RQ_n ZR_ok 4 rfl trivial ?_
  rw [show nI (92 + w a) - 100 = nI (w a - 8) from by rw [show (100 : Int32) = nI 100 from rfl, nI_sub (by omega), show 92 + w a - 100 = w a - 8 by omega]]
  obtain ⟨n, hn⟩ : ∃ n, n = w a - 8 := ⟨_, rfl⟩
  rw [← hn]
  have hn6 : n < 6 := by omega
  have p71 : ∀ dr, dr = decide (t < 12) → RnQ ZR mX12_layWord (71, [some (.ref 0), some (.long z0), none, some (.int (nI a)), some (.int (nI t)), none], [.int (bI dr), .int (nI n), .ref 0], v) Q := by
    intro dr hdr
    refine RQ_V vX12_replacing (m_replacing hRv.1 (hS.mw g1) hn6 dr) rfl k12_556 rfl rfl rfl rfl (fun _ _ _ => rfl) ?_
    have er : (if dr = true then zdr G n v.2.2 else zbs G S n (zgR G)) = zruw G S t n z := by
      rw [g2, hdr]
      unfold zruw
      by_cases c : t < 12
      · rw [if_pos (decide_eq_true c), if_pos c]
      · rw [if_neg (by rw [decide_eq_false c]; decide), if_neg c]
    have ez : (if dr = true then zdz G n v.2.2 else v.2.2) = zrz G t n z := by
      rw [g2, hdr]
      unfold zrz
      by_cases c : t < 12
      · rw [if_pos (decide_eq_true c), if_pos c]
      · rw [if_neg (by rw [decide_eq_false c]; decide), if_neg c]
    rw [er, ez]
    rintro r2 v1 ⟨rfl, p1, p2, p3⟩
    have fz : frMw v v1 := frMw.z p2 p3
    have f1 := g1.tr fz
    have hR1 := hR.mw f1
    have hW1 : WM len w v1 := by
      unfold WM
      rw [p2, p3]; exact g3
    refine RQ_n ZR_ok 3 rfl trivial ?_
    cases eru : zruw G S t n z with
    | none =>
      rw [hn] at eru
      rw [zmkw_r en eru] at g6
      refine RQ_b rfl (fun _ => ?_) (fun q => absurd rfl q)
      refine RQ_n ZR_ok 1 rfl trivial ?_
      exact RQ_to (Rn_zret rfl rfl (Or.inl rfl)) (qno _ g6.symm f1)
    | some r =>
    have hr := zruw_lt eru
    rw [hn] at eru
    refine RQ_b rfl (fun q => absurd (show nI r = -1 from q) (nI_m1 (by omega))) (fun _ => ?_)
    refine RQ_n ZR_ok 3 rfl trivial ?_
    by_cases h60 : 60 < len + zgn G r - 1
    · rw [zmkw_l en eru h60] at g6
      refine RQ_v vX12_replace (m_replaceF hR1.1 hW1 g4 ha hr h60) rfl k12_560 rfl rfl rfl rfl rfl ?_
      refine RQ_b rfl (fun q => absurd rfl q) (fun _ => ?_)
      refine RQ_n ZR_ok 1 rfl trivial ?_
      exact RQ_to (Rn_zret rfl rfl (Or.inl rfl)) (qno _ g6.symm f1)
    rw [zmkw_s en eru h60] at g6
    refine RQ_V vX12_replace (m_replaceT hR1.1 hW1 g4 ha hr h60) rfl k12_560 rfl rfl rfl rfl (fun _ _ _ => rfl) ?_
    rintro r3 v2 ⟨rfl, o1, o2⟩
    have f2 := f1.tr (frMw.of o2)
    have ok2 := zrp_ok hGW hr g5 ha
    refine RQ_b rfl (fun _ => ?_) (fun q => absurd (show ¬ (1 : Int32) = 0 by decide) q)
    refine RQ_n ZR_ok 1 rfl trivial ?_
    refine RQ_v vX12_leftmost (m_leftmost o1 (by omega) (fun i hi => by rcases ok2 i hi with y | y <;> omega)) rfl k12_563 rfl rfl rfl rfl rfl ?_
    refine RQ_n ZR_ok 3 rfl trivial ?_
    refine ih (by omega) (zrz G t (w a - 8) z, len + zgn G r - 1, zrp G w a r) _ _ ⟨rfl, rfl, rfl, nIs t, trivial⟩ ⟨f2, ?_, o1, by show len + zgn G r - 1 ≤ 60; omega, ok2, by rw [hd1]; exact g6⟩
    show v2.2.2 = _
    rw [o2.2.2, p1, hn]
  by_cases c : t < 12
  · refine RQ_b rfl (fun q => ?_) (fun _ => ?_)
    · have q := (zq_le (a := 12) (b := t) rfl rfl (by omega) (by omega)).mp q
      omega
    refine RQ_n ZR_ok 2 rfl trivial ?_
    exact p71 true (decide_eq_true c).symm
  · refine RQ_b rfl (fun _ => ?_) (fun q => absurd ((zq_le (a := 12) (b := t) rfl rfl (by omega) (by omega)).mpr (by omega)) q)
    refine RQ_n ZR_ok 1 rfl trivial ?_
    exact p71 false (decide_eq_false c).symm
end LayW
