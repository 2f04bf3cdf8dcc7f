/-! The reference: layFollowOnce, laySets. -/
/-- follow grows: up to rule r, its letter i -/
def lfJ (G : ZGT) (E : Int32) (F W0 : Nat → Int32) (s : SM) (b : Bool) (r i : Nat) (v : SM) : Prop :=
  frM [] [27] s v ∧ (∀ n, n < 6 → bsub (W0 n) (v.2.1 27 n)) ∧ (∀ W', zcW G E F W' → ∀ n, n < 6 → bsub (v.2.1 27 n) (W' n)) ∧ (b = true → ∃ n, n < 6 ∧ v.2.1 27 n ≠ W0 n) ∧
  (b = false → v.2.1 27 = W0 ∧ ∀ r' i', (r' < r ∧ i' < zgn G r') ∨ (r' = r ∧ i' < i) → zgi G r' = true → 8 ≤ zgt G r' i' → bsub (zLB G E F r' (i' + 1) (W0 (zgl G r'))) (W0 (zgt G r' i' - 8)))
set_option maxHeartbeats 2000000 in
theorem m_layFollowOnce {G : ZGT} {s : SM} (h : ZGM G s) (hg : ∀ W', zcW G (s.1 25) (s.2.1 26) W' → ∀ n, n < 6 → bsub (s.2.1 27 n) (W' n)) : EvQ ZR mX12_layFollowOnce [.ref 0] s (fun x v => ∃ b, x = some (.int (bI b)) ∧ lfJ G (s.1 25) (s.2.1 26) (s.2.1 27) s b (zgR G) 0 v) := by
  have hb := h.b
  obtain ⟨E, hE⟩ : ∃ E, E = s.1 25 := ⟨_, rfl⟩
  obtain ⟨F, hF⟩ : ∃ F, F = s.2.1 26 := ⟨_, rfl⟩
  obtain ⟨W0, hW⟩ : ∃ W, W = s.2.1 27 := ⟨_, rfl⟩
  rw [← hE, ← hF, ← hW] at hg ⊢
  refine EQ_V vX12_layFollowOnce rfl ?_
  refine RQ_n ZR_ok 4 rfl trivial ?_
  refine loopU (zgR G) (fun r (x : Bool) => [some (.ref 0), some (.int (bI x)), some (.int (nI r)), none, none, none]) (fun r x v => lfJ G E F W0 s x r 0 v) ?_ 0 false s (by omega) ⟨frM.rf, fun n _ => (by rw [hW]; exact bsub_rf), by rw [← hW]; exact hg, fun z => (by cases z), fun _ => ⟨hW.symm, fun r' i' hr' => by omega⟩⟩
  intro r x v hr hJ ih
  have hv : ZGM G v := h.fr hJ.1 (by decide)
  refine RQ_n ZR_ok 3 rfl trivial ?_
  refine RQ_b rfl (fun q => ?_) (fun q => ?_)
  · have q := (zq_le hv.R rfl (by omega) (by omega)).mp q
    have : r = zgR G := by omega
    subst this
    refine RQ_n ZR_ok 1 rfl trivial ?_
    exact RQ_to (Rn_zret rfl rfl (bI_01 _)) ⟨x, rfl, hJ⟩
  have q := (not_congr (zq_le hv.R rfl (by omega) (by omega))).mp q
  have hrR : r < zgR G := by omega
  have hl6 := h.1.l hrR
  have hn := h.1.n (r := r) (by omega)
  have hrc : (nI r).toNatClampNeg = r := nI_clamp (by omega)
  refine RQ_n ZR_ok 2 rfl trivial ?_
  refine loopU (zgn G r) (fun i (x : Bool) => [some (.ref 0), some (.int (bI x)), some (.int (nI r)), some (.int (nI i)), none, none]) (fun i x v => lfJ G E F W0 s x r i v) ?_ 0 x v (by omega) hJ
  intro i x w hi hJ2 ih2
  obtain ⟨g1, g2, g3, g4, g5⟩ := hJ2
  have hw : ZGM G w := h.fr g1 (by decide)
  have e19 : w.2.1 19 (nI r).toNatClampNeg = nI (zgn G r) := by rw [hrc]; exact hw.n (by omega)
  have e18 : w.2.1 18 (nI r).toNatClampNeg = nI (zgl G r) := by rw [hrc]; exact hw.l hrR
  have done : (zgi G r = true → i = zgn G r) → RnQ ZR mX12_layFollowOnce (130, [some (.ref 0), some (.int (bI x)), some (.int (nI r)), some (.int (nI i)), none, none], [], w) (fun x v => ∃ b, x = some (.int (bI b)) ∧ lfJ G E F W0 s b (zgR G) 0 v) := by
    intro hd
    refine RQ_n ZR_ok 2 rfl trivial ?_
    refine ih hrR x _ _ ⟨rfl, rfl, nIs r, trivial⟩ ⟨g1, g2, g3, g4, fun z => ⟨(g5 z).1, fun r' i' hr' hin h8 => ?_⟩⟩
    rcases hr' with ⟨a, b⟩ | ⟨a, b⟩
    · by_cases y : r' = r
      · subst y
        exact (g5 z).2 r' i' (Or.inr ⟨rfl, by have := hd hin; omega⟩) hin h8
      · exact (g5 z).2 r' i' (Or.inl ⟨by omega, b⟩) hin h8
    · omega
  refine RQ_n ZR_ok 5 rfl ⟨nI_in (by omega) (by omega), trivial⟩ ?_
  refine RQ_b rfl (fun q2 => ?_) (fun q2 => ?_)
  · have q2 := (zq_le e19 rfl (by omega) (by omega)).mp q2
    exact done (fun _ => by omega)
  have q2 := (not_congr (zq_le e19 rfl (by omega) (by omega))).mp q2
  have hin2 : i < zgn G r := by omega
  have ht := h.1.t (r := r) (by omega) hin2
  refine RQ_n ZR_ok 2 rfl trivial ?_
  refine RQ_v vX12_isIn (m_isIn hw hrR) rfl k12_269 rfl rfl rfl rfl rfl ?_
  refine RQ_b rfl (fun q3 => ?_) (fun q3 => ?_)
  · exact done (fun z => by rw [bI_0.mp q3] at z; cases z)
  have q3 := bI_t q3
  refine RQ_n ZR_ok 3 rfl trivial ?_
  refine RQ_v vX12_letterAt (m_letterAt hw (by omega) hin2) rfl k12_275 rfl rfl rfl rfl rfl ?_
  refine RQ_n ZR_ok 4 rfl trivial ?_
  by_cases h8 : 8 ≤ zgt G r i
  · obtain ⟨n, hn8⟩ : ∃ n, zgt G r i = 8 + n := ⟨zgt G r i - 8, by omega⟩
    have hn6 : n < 6 := by omega
    have e8 : nI (zlm (zgt G r i)) - 100 = nI n := by rw [zlm_nm h8, show (100 : Int32) = nI 100 from rfl, nI_sub (by omega), hn8]; congr 1; omega
    rw [e8]
    refine RQ_b rfl (fun q4 => absurd ((zq_lt (a := n) (b := 0) rfl rfl (by omega) (by omega)).mp q4) (by omega)) (fun _ => ?_)
    have hnin : vp_in (nI n) 6 := nI_in (by omega) (by omega)
    have hnc : (nI n).toNatClampNeg = n := nI_clamp (by omega)
    refine RQ_n ZR_ok 15 rfl ⟨hnin, hnin, trivial⟩ ?_
    rw [hnc]
    have ew25 : w.1 25 = E := by rw [g1.1 25 (by decide), hE]
    have ew26 : w.2.1 26 = F := by rw [g1.2.1 26 (by decide), hF]
    have hff := m_firstFrom hw (r := r) (i := i + 1) (by omega) (by omega)
    rw [ew25, ew26] at hff
    refine RQ_v vX12_firstFrom (as := [.int (nI r), .int (nI (i + 1))]) hff rfl k12_297 (by rw [nI_succ]; rfl) rfl rfl rfl rfl ?_
    refine RQ_n ZR_ok 5 rfl trivial ?_
    have hae := m_isEmptyFrom hw (r := r) (i := i + 1) (by omega) (by omega)
    rw [ew25] at hae
    refine RQ_v vX12_isEmptyFrom (as := [.int (nI r), .int (nI (i + 1))]) hae rfl k12_294 (by rw [nI_succ]; rfl) rfl rfl rfl rfl ?_
    -- the bits that are added
    obtain ⟨y, hy⟩ : ∃ y, y = zLB G E F r (i + 1) (w.2.1 27 (zgl G r)) := ⟨_, rfl⟩
    obtain ⟨w', hw'⟩ : ∃ w' : SM, w' = (w.1, updA w.2.1 27 n (w.2.1 27 n ||| y), w.2.2) := ⟨_, rfl⟩
    have hwf : frM [] [27] w w' := by rw [hw']; exact frM.a 27 (by decide)
    have h27 : w'.2.1 27 = upd (w.2.1 27) n (w.2.1 27 n ||| y) := by rw [hw']; rfl
    have hup : ∀ k, k < 6 → bsub (w.2.1 27 k) (w'.2.1 27 k) := by
      intro k hk
      rw [h27]
      by_cases z : k = n
      · subst z; rw [upd_at]; exact bsub_l
      · rw [upd_ne z]; exact bsub_rf
    have fin : ∀ b : Bool, (b = true → x = true ∨ w.2.1 27 n ≠ w'.2.1 27 n) → (b = false → x = false ∧ w.2.1 27 n = w'.2.1 27 n) → RnQ ZR mX12_layFollowOnce (123, [some (.ref 0), some (.int (bI x)), some (.int (nI r)), some (.int (nI i)), some (.int (nI n)), some (.int (w.2.1 27 n))], [.int (bI b)], w') (fun x v => ∃ b, x = some (.int (bI b)) ∧ lfJ G E F W0 s b (zgR G) 0 v) := by
      intro b hb1 hb2
      refine RQ_n ZR_ok 3 rfl trivial ?_
      refine ih2 hin2 b _ _ ⟨rfl, rfl, rfl, nIs i, trivial⟩ ⟨g1.tr hwf, fun k hk => bsub_tr (g2 k hk) (hup k hk), fun W' hW' k hk => ?_, fun z => ?_, fun z => ?_⟩
      · rw [h27]
        by_cases z : k = n
        · subst z
          rw [upd_at]
          refine bsub_or (g3 W' hW' _ hk) ?_
          have := hW'.2 r hrR q3 i hin2 h8
          rw [hn8, Nat.add_sub_cancel_left] at this
          refine bsub_tr ?_ this
          rw [hy]
          exact zLB_up (g3 W' hW' _ hl6)
        · rw [upd_ne z]; exact g3 W' hW' k hk
      · rcases hb1 z with c | c
        · obtain ⟨k, hk, hne⟩ := g4 c
          refine ⟨k, hk, fun y1 => hne ?_⟩
          refine bsub_an ?_ (g2 k hk)
          rw [← y1]
          exact hup k hk
        · refine ⟨n, hn6, fun y1 => c (bsub_an (hup n hn6) ?_)⟩
          rw [y1]
          exact g2 n hn6
      · obtain ⟨c1, c2⟩ := hb2 z
        obtain ⟨a1, a2⟩ := g5 c1
        rw [h27, upd_at] at c2
        rw [a1] at c2 hy
        refine ⟨?_, fun r' i' hr' hin h8' => ?_⟩
        · rw [h27, a1, ← c2]
          funext k
          by_cases y1 : k = n
          · subst y1; rw [upd_at]
          · rw [upd_ne y1]
        · by_cases y1 : r' = r ∧ i' = i
          · obtain ⟨rfl, rfl⟩ := y1
            rw [hn8, Nat.add_sub_cancel_left, ← hy, c2]
            exact bsub_r
          · exact a2 r' i' (by omega) hin h8'
    have body : RnQ ZR mX12_layFollowOnce (101, [some (.ref 0), some (.int (bI x)), some (.int (nI r)), some (.int (nI i)), some (.int (nI n)), some (.int (w.2.1 27 n))], [.int (w.2.1 27 n ||| y), .int (nI n), .ref 13], w) (fun x v => ∃ b, x = some (.int (bI b)) ∧ lfJ G E F W0 s b (zgR G) 0 v) := by
      refine RQ_n ZR_ok 2 rfl ⟨hnin, trivial⟩ ?_
      rw [hnc, ← hw']
      refine RQ_b rfl (fun q4 => ?_) (fun q4 => ?_)
      · refine RQ_n ZR_ok 2 rfl trivial ?_
        exact fin true (fun _ => Or.inl (bI_t q4)) (fun z => by cases z)
      have q4 := bI_0.mp (Classical.not_not.mp q4)
      refine RQ_n ZR_ok 5 rfl ⟨hnin, trivial⟩ ?_
      rw [hnc]
      refine RQ_b rfl (fun q5 => ?_) (fun q5 => ?_)
      · refine RQ_n ZR_ok 1 rfl trivial ?_
        exact fin false (fun z => by cases z) (fun _ => ⟨q4, q5⟩)
      · refine RQ_n ZR_ok 2 rfl trivial ?_
        exact fin true (fun _ => Or.inr q5) (fun z => by cases z)
    refine RQ_b rfl (fun q4 => ?_) (fun q4 => ?_)
    · have q4 := bI_0.mp q4
      refine RQ_n ZR_ok 3 rfl trivial ?_
      rw [zLB, q4, if_neg (by decide)] at hy
      rw [hy] at body
      exact body
    · have q4 := bI_t q4
      refine RQ_n ZR_ok 7 rfl ⟨nI_in (by omega) (by omega), by rw [e18]; exact nI_in (by omega) (by omega), trivial⟩ ?_
      rw [e18, nI_clamp (show zgl G r < 2 ^ 31 by omega)]
      refine RQ_n ZR_ok 3 rfl trivial ?_
      rw [zLB, q4, if_pos rfl] at hy
      rw [hy] at body
      exact body
  · have hlt : zlm (zgt G r i) < 8 := by rw [zlm_sg (by omega)]; omega
    have hneg : nI (zlm (zgt G r i)) - 100 < 0 := by
      have : ∀ k, k < 8 → nI k - 100 < 0 := by decide
      exact this _ hlt
    refine RQ_b rfl (fun _ => ?_) (fun q4 => absurd hneg q4)
    refine RQ_n ZR_ok 2 rfl trivial ?_
    refine ih2 hin2 x _ _ ⟨rfl, rfl, rfl, nIs i, trivial⟩ ⟨g1, g2, g3, g4, fun z => ⟨(g5 z).1, fun r' i' hr' hin h8' => ?_⟩⟩
    by_cases y1 : r' = r ∧ i' = i
    · obtain ⟨rfl, rfl⟩ := y1; omega
    · exact (g5 z).2 r' i' (by omega) hin h8'
/-- the reference's sets, laid -/
def SLM (G : ZGT) (s : SM) : Prop := zlE G (s.1 25) ∧ zlF G (s.1 25) (s.2.1 26) ∧ zlW G (s.1 25) (s.2.1 26) (s.2.1 27) ∧ ∃ S, zlS G S ∧ SRM S s
theorem zS_511 {G : ZGT} (hG : GW G) {s : SM} (h : SLM G s) : (∀ n, n < 6 → bsub (s.2.1 26 n) 511) ∧ ∀ n, n < 6 → bsub (s.2.1 27 n) 511 := by
  have h1 : ∀ n, n < 6 → bsub (s.2.1 26 n) 511 := h.2.1.2 _ (zcF_511 hG _)
  exact ⟨h1, h.2.2.1.2 _ (zcW_511 hG h1)⟩
set_option maxHeartbeats 2000000 in
theorem m_laySets {G : ZGT} {s : SM} (h : ZGM G s) (h01 : s.1 29 = 0 ∨ (s.1 29 = 1 ∧ SLM G s)) : EvQ ZR mX12_laySets [.ref 0] s (fun x v => x = none ∧ SLM G v ∧ v.1 29 = 1 ∧ frM [25, 29] [26, 27, 28] s v) := by
  have hb := h.b
  refine EQ_V vX12_laySets rfl ?_
  refine RQ_n ZR_ok 2 rfl trivial ?_
  refine RQ_b rfl (fun q => ?_) (fun q => ?_)
  rotate_left
  · have q : ¬ s.1 29 = 0 := q
    obtain ⟨a, b⟩ := h01.resolve_left q
    exact RQ_to (Rn_vret rfl rfl) ⟨rfl, b, a, frM.rf⟩
  refine RQ_n ZR_ok 8 rfl ⟨Or.inr rfl, trivial⟩ ?_
  -- the follows
  have third : ∀ v : SM, ZGM G v → frM [25, 29] [26, 27, 28] s v → v.1 29 = 1 → zlE G (v.1 25) → zlF G (v.1 25) (v.2.1 26) → (∃ S, zlS G S ∧ SRM S v) → bsub (b1 (zgT G)) (v.2.1 27 0) → (∀ W', zcW G (v.1 25) (v.2.1 26) W' → ∀ n, n < 6 → bsub (v.2.1 27 n) (W' n)) → RnQ ZR mX12_laySets (84, [some (.ref 0), some (.int 1)], [], v) (fun x v => x = none ∧ SLM G v ∧ v.1 29 = 1 ∧ frM [25, 29] [26, 27, 28] s v) := by
    intro v hv hf h29 hE hF hSx hw0 hW
    refine loopD (fun (x : Bool) => [some (.ref 0), some (.int (bI x))]) (fun m x w => m + ct6 (w.2.1 27) = 192 + (if x = true then 1 else 0) ∧ frM [] [27] v w ∧ bsub (b1 (zgT G)) (w.2.1 27 0) ∧ (∀ W', zcW G (v.1 25) (v.2.1 26) W' → ∀ n, n < 6 → bsub (w.2.1 27 n) (W' n)) ∧ (x = false → zcW G (v.1 25) (v.2.1 26) (w.2.1 27))) ?_ (193 - ct6 (v.2.1 27)) true v ⟨by have := ct6_le (v.2.1 27); rw [if_pos rfl]; omega, frM.rf, hw0, hW, fun z => by cases z⟩
    intro m x w hJ ih
    obtain ⟨c0, c1, c2, c3, c4⟩ := hJ
    have hwX : ZGM G w := hv.fr c1 (by decide)
    have ew25 : w.1 25 = v.1 25 := c1.1 25 (by decide)
    have ew26 : w.2.1 26 = v.2.1 26 := c1.2.1 26 (by decide)
    refine RQ_n ZR_ok 1 rfl trivial ?_
    refine RQ_b rfl (fun q2 => ?_) (fun q2 => ?_)
    · have q2 := bI_0.mp q2
      refine RQ_to (Rn_vret rfl rfl) ⟨rfl, ⟨?_, ?_, ?_, ?_⟩, ?_, ?_⟩
      · rw [ew25]; exact hE
      · rw [ew25, ew26]; exact hF
      · rw [ew25, ew26]; exact ⟨c4 q2, c3⟩
      · obtain ⟨S, a1, a2⟩ := hSx
        exact ⟨S, a1, fun n hn => by rw [c1.2.1 28 (by decide)]; exact a2 n hn⟩
      · rw [c1.1 29 (by decide)]; exact h29
      · exact hf.tr (c1.up (by decide) (by decide))
    have q2 := bI_t q2
    refine RQ_n ZR_ok 1 rfl trivial ?_
    refine RQ_V vX12_layFollowOnce (m_layFollowOnce hwX (by rw [ew25, ew26]; exact c3)) rfl k12_307 rfl rfl rfl rfl (fun _ _ _ => rfl) (fun r1 w1 h1 => ?_)
    obtain ⟨b, rfl, a1, a2, a3, a4, a5⟩ := h1
    rw [ew25, ew26] at a3 a5
    refine RQ_n ZR_ok 2 rfl trivial ?_
    have hub := ct6_le (w1.2.1 27)
    cases b with
    | true =>
      obtain ⟨n, hn, hne⟩ := a4 rfl
      have hlt := ct6_lt a2 hn (fun z => hne z.symm)
      refine ih (193 - ct6 (w1.2.1 27)) true _ _ ?_ ⟨rfl, rfl, trivial⟩ ⟨by rw [if_pos rfl]; omega, c1.tr a1, bsub_tr c2 (a2 0 (by omega)), a3, fun z => by cases z⟩
      rw [q2, if_pos rfl] at c0
      omega
    | false =>
      obtain ⟨d1, d2⟩ := a5 rfl
      refine ih (192 - ct6 (w1.2.1 27)) false _ _ ?_ ⟨rfl, rfl, trivial⟩ ⟨by rw [if_neg (by decide)]; omega, c1.tr a1, bsub_tr c2 (a2 0 (by omega)), a3, fun _ => ?_⟩
      · rw [q2, if_pos rfl] at c0
        have e9 : ct6 (w1.2.1 27) = ct6 (w.2.1 27) := by rw [d1]
        omega
      · rw [d1]
        exact ⟨c2, fun r hr hin i hi h8 => d2 r i (Or.inl ⟨hr, hi⟩) hin h8⟩
  -- what is empty, what begins, how short
  have second : ∀ v : SM, ZGM G v → frM [25, 29] [26, 27, 28] s v → v.1 29 = 1 → v.1 25 = 0 → (∀ n, n < 6 → v.2.1 26 n = 0) → SRM (fun _ => 1000000) v → (∀ n, n < 6 → v.2.1 27 n = if n = 0 then b1 (zgT G) else 0) → RnQ ZR mX12_laySets (70, [some (.ref 0), some (.int 1)], [], v) (fun x v => x = none ∧ SLM G v ∧ v.1 29 = 1 ∧ frM [25, 29] [26, 27, 28] s v) := by
    intro v hv hf h29 hE hF hS hW
    refine loopD (fun (x : Bool × (Nat → Nat)) => [some (.ref 0), some (.int (bI x.1))]) (fun m x w => m = muO (w.1 25) (w.2.1 26) x.2 + (if x.1 = true then 1 else 0) ∧ frM [25] [26, 28] v w ∧ SRM x.2 w ∧ grO G (w.1 25) (w.2.1 26) x.2 ∧ (x.1 = false → zcE G (w.1 25) ∧ zcF G (w.1 25) (w.2.1 26) ∧ zcS G x.2)) ?_ _ (true, fun _ => 1000000) v ⟨rfl, frM.rf, hS, ⟨by rw [hE]; exact fun _ _ => bsub_0, fun _ _ _ _ n hn => (by rw [hF n hn]; exact bsub_0), fun S' _ a2 n hn => a2 n hn⟩, fun z => by cases z⟩
    intro m x w hJ ih
    obtain ⟨x, S⟩ := x
    obtain ⟨c0, c1, c2, c3, c4⟩ := hJ
    dsimp only at c0 c2 c3 c4 ⊢
    have hwX : ZGM G w := hv.fr c1 (by decide)
    refine RQ_n ZR_ok 1 rfl trivial ?_
    refine RQ_b rfl (fun q2 => ?_) (fun q2 => ?_)
    · have q2 := bI_0.mp q2
      obtain ⟨d1, d2, d3⟩ := c4 q2
      refine RQ_n ZR_ok 2 rfl trivial ?_
      have e27 : w.2.1 27 = v.2.1 27 := c1.2.1 27 (by decide)
      refine third w hwX (hf.tr (c1.up (by decide) (by decide))) (by rw [c1.1 29 (by decide)]; exact h29) ⟨d1, c3.1⟩ ⟨d2, fun F' hF' => c3.2.1 _ F' d1 hF'⟩ ⟨S, ⟨⟨d3, fun n hn => (c2 n hn).2⟩, c3.2.2⟩, c2⟩ ?_ ?_
      · rw [e27, hW 0 (by omega), if_pos rfl]; exact bsub_rf
      · intro W' hW' n hn
        rw [e27, hW n hn]
        by_cases z : n = 0
        · subst z; rw [if_pos rfl]; exact hW'.1
        · rw [if_neg z]; exact bsub_0
    have q2 := bI_t q2
    rw [q2, if_pos rfl] at c0
    refine RQ_n ZR_ok 1 rfl trivial ?_
    refine RQ_V vX12_layOnce (m_layOnce hwX c2 c3) rfl k12_303 rfl rfl rfl rfl (fun _ _ _ => rfl) (fun r1 w1 h1 => ?_)
    obtain ⟨b, S', rfl, ⟨a1, a2, a3⟩, ⟨a4, a5, a6⟩, a7, a8⟩ := h1
    refine RQ_n ZR_ok 2 rfl trivial ?_
    cases b with
    | true =>
      have := a7 rfl
      refine ih (muO (w1.1 25) (w1.2.1 26) S' + 1) (true, S') _ _ (by omega) ⟨rfl, rfl, trivial⟩ ⟨by dsimp only; rw [if_pos rfl], c1.tr a1, a2, a3, fun z => by cases z⟩
    | false =>
      obtain ⟨d1, d2, d3, d4⟩ := a8 rfl
      refine ih (muO (w1.1 25) (w1.2.1 26) S') (false, S') _ _ ?_ ⟨rfl, rfl, trivial⟩ ⟨by dsimp only; rw [if_neg (by decide)]; rfl, c1.tr a1, a2, a3, fun _ => ?_⟩
      · rw [d1, d2, d3]; omega
      · dsimp only
        rw [d1, d2, d3]
        exact ⟨fun r hr hin => (d4 r hr hin).1, fun r hr hin => (d4 r hr hin).2.1, fun r hr hin => (d4 r hr hin).2.2⟩
  refine loopU 6 (fun n (_ : Unit) => [some (.ref 0), some (.int (nI n))]) (fun n _ v => frM [25, 29] [26, 27, 28] s v ∧ v.1 29 = 1 ∧ v.1 25 = 0 ∧ ∀ k, k < n → v.2.1 26 k = 0 ∧ v.2.1 28 k = nI 1000000 ∧ v.2.1 27 k = if k = 0 then b1 (zgT G) else 0) ?_ 0 () _ (by omega) ⟨(frM.i 29 (by decide)).tr (frM.i 25 (by decide)), rfl, rfl, fun k hk => by omega⟩
  intro n _ v hn hJ ih
  obtain ⟨g1, g2, g3, g4⟩ := hJ
  have hv : ZGM G v := h.fr g1 (by decide)
  refine RQ_n ZR_ok 2 rfl trivial ?_
  refine RQ_b rfl (fun q2 => ?_) (fun q2 => ?_)
  · have q2 := (zq_le (a := 6) (b := n) rfl rfl (by omega) (by omega)).mp q2
    refine RQ_n ZR_ok 2 rfl trivial ?_
    refine second v hv g1 g2 g3 (fun k hk => (g4 k (by omega)).1) (fun k hk => ⟨(g4 k (by omega)).2.1, Nat.le_refl _⟩) (fun k hk => (g4 k (by omega)).2.2)
  have q2 := (not_congr (zq_le (a := 6) (b := n) rfl rfl (by omega) (by omega))).mp q2
  have hnin : vp_in (nI n) 6 := nI_in (by omega) (by omega)
  have hnc : (nI n).toNatClampNeg = n := nI_clamp (by omega)
  refine RQ_n ZR_ok 9 rfl ⟨hnin, trivial⟩ ?_
  rw [hnc]
  obtain ⟨v1, hv1⟩ : ∃ v1 : SM, v1 = (v.1, updA v.2.1 26 n 0, v.2.2) := ⟨_, rfl⟩
  have f1 : frM [] [26] v v1 := by rw [hv1]; exact frM.a 26 (by decide)
  have body : RnQ ZR mX12_laySets (52, [some (.ref 0), some (.int (nI n))], [.int (if n = 0 then b1 (zgT G) else 0), .int (nI n), .ref 13], v1) (fun x v => x = none ∧ SLM G v ∧ v.1 29 = 1 ∧ frM [25, 29] [26, 27, 28] s v) := by
    refine RQ_n ZR_ok 8 rfl ⟨hnin, hnin, trivial⟩ ?_
    rw [hnc]
    refine ih (by omega) () _ _ ⟨rfl, nIs n, trivial⟩ ⟨((g1.tr (f1.up (by decide) (by decide))).tr (frM.a 27 (by decide))).tr (frM.a 28 (by decide)), ?_, ?_, fun k hk => ?_⟩
    · show v1.1 29 = 1
      rw [f1.1 29 (by decide)]; exact g2
    · show v1.1 25 = 0
      rw [f1.1 25 (by decide)]; exact g3
    · show v1.2.1 26 k = 0 ∧ upd (v1.2.1 28) n (nI 1000000) k = nI 1000000 ∧ upd (v1.2.1 27) n (if n = 0 then b1 (zgT G) else 0) k = _
      have e26 : v1.2.1 26 = upd (v.2.1 26) n 0 := by rw [hv1]; rfl
      rw [e26, f1.2.1 27 (by decide), f1.2.1 28 (by decide)]
      by_cases z : k = n
      · subst z; rw [upd_at, upd_at, upd_at]; exact ⟨rfl, rfl, rfl⟩
      · rw [upd_ne z, upd_ne z, upd_ne z]; exact g4 k (by omega)
  refine RQ_b rfl (fun q3 => ?_) (fun q3 => ?_)
  · have q3 := (not_congr (zq_eq (a := n) (b := 0) rfl rfl (by omega) (by omega))).mp q3
    refine RQ_n ZR_ok 1 rfl trivial ?_
    rw [if_neg q3, hv1] at body
    exact body
  · have q3 := (zq_eq (a := n) (b := 0) rfl rfl (by omega) (by omega)).mp (Classical.not_not.mp q3)
    refine RQ_n ZR_ok 5 rfl trivial ?_
    rw [if_pos q3, hv1] at body
    have e17 : v.1 17 = nI (zgT G) := hv.2.1.2.2
    show RnQ ZR mX12_laySets (52, _, [.int ((1 : Int32) <<< (v.1 17 &&& 31)), .int (nI n), .ref 13], _) _
    rw [e17]
    exact body
