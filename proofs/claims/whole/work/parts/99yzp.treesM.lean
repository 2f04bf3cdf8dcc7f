/-! The reference: trees. -/
def RtM (t : Nat → Nat → Nat → Nat) (s : SM) : Prop := ∀ k n c, k < 7 → n < 6 → c < 9 → s.2.1 31 ((9 * n + c) * 7 + k) = nI (t k n c)
theorem m_treesAt (s : SM) {n c k : Nat} (hn : n < 6) (hc : c < 9) (hk : k < 7) : Ev ZR mX12_treesAt [.ref 0, .int (nI n), .int (nI c), .int (nI k)] s (some (.int (s.2.1 31 ((9 * n + c) * 7 + k)))) s := by
  refine EQ_ev ?_
  refine EQ_V vX12_treesAt rfl ?_
  refine RQ_n ZR_ok 11 rfl trivial ?_
  rw [show ((9 : Int32) * nI n + nI c) * 7 + nI k = nI ((9 * n + c) * 7 + k) from by rw [show (9 : Int32) = nI 9 from rfl, show (7 : Int32) = nI 7 from rfl, nI_mul, nI_add, nI_mul, nI_add]]
  refine RQ_n ZR_ok 1 rfl ⟨nI_in (by omega) (by omega), trivial⟩ ?_
  rw [nI_clamp (by omega)]
  exact RQ_to (Rn_iret rfl rfl) ⟨rfl, rfl⟩
theorem m_held (s : SM) {x : Nat} (h : x ≤ 1000000000000000000) : Ev ZR mX12_heldTrees [.long (nL x)] s (some (.int (nI (zcp x)))) s := by
  refine EQ_ev ?_
  refine EQ_T vX12_heldTrees rfl ?_
  refine RQ_n ZR_ok 2 rfl trivial ?_
  refine RQ_minL rfl k12_318 rfl ?_
  rw [minL2 h]
  refine RQ_n ZR_ok 1 rfl trivial ?_
  rw [nL_i]
  exact RQ_to (Rn_iret rfl rfl) ⟨rfl, rfl⟩
/-- a row joined with what a letter can be -/
def zlw (T : Nat → Nat → Nat) (l : Nat) : Nat → Nat := if l < 8 then zun1 else T (l - 8)
theorem zuw_z (G : ZGT) (T : Nat → Nat → Nat) (r d : Nat) : zuw G T r (d + 1) = zjoi (zuw G T r d) (zlw T (zgt G r d)) := by
  rw [zuw_s]
  unfold zlw
  by_cases h : zgt G r d < 8
  · rw [if_pos h, if_pos h, zjoi_1 (fun i => zuw_le G T r d i)]
  · rw [if_neg h, if_neg h]
theorem ZGM.t3 {G : ZGT} {s v : SM} {as : List Nat} (h : ZGM G s) (f : frM [] as s v) (ha : ∀ a ∈ as, 30 < a) : ZGM G v := by
  unfold ZGM at h ⊢
  rw [f.1 15 (by decide), f.1 16 (by decide), f.1 17 (by decide), f.1 23 (by decide), f.2.1 18 (fun y => by have := ha _ y; omega), f.2.1 19 (fun y => by have := ha _ y; omega), f.2.1 20 (fun y => by have := ha _ y; omega)]; exact h
section TreM
variable {G : ZGT} {s : SM} {T : Nat → Nat → Nat}
set_option maxHeartbeats 2000000 in
/-- the rows of ways of a rule -/
theorem m_ways (h : ZGM G s) {r k : Nat} (hr : r < zgR G) (hk : k < 6) (hT : ∀ n c, n < 6 → c < 9 → s.2.1 31 ((9 * n + c) * 7 + k) = nI (T n c)) (hTl : ∀ n c, T n c ≤ 1000000000) {Q : Option Value → SM → Prop}
    (out : ∀ v, frM [] [32, 33] s v → (∀ c, c < 9 → v.2.1 32 c = nI (zuw G T r (zgn G r) c)) → RnQ ZR mX12_addTrees (222, [some (.ref 0), some (.int (nI r)), some (.int (nI (k + 1))), some (.int (nI (zgn G r))), none, none, none, none], [], v) Q) :
    RnQ ZR mX12_addTrees (0, [some (.ref 0), some (.int (nI r)), some (.int (nI (k + 1))), none, none, none, none, none], [], s) Q := by
  have hb := h.b
  have hn5 := h.1.n (show r ≤ zgR G by omega)
-- METHOD X12_addTrees
  refine RQ_n ZR_ok 2 rfl trivial ?_
  have p29 : ∀ v, frM [] [32, 33] s v → (∀ c, c < 9 → v.2.1 32 c = nI (zuw G T r 0 c)) → ∀ y : Int32, RnQ ZR mX12_addTrees (29, [some (.ref 0), some (.int (nI r)), some (.int (nI (k + 1))), some (.int y), none, none, none, none], [], v) Q := by
    intro v fv hv y
    refine RQ_n ZR_ok 2 rfl trivial ?_
    refine loopU (M := mX12_addTrees) (pc := 31) (zgn G r) (fun d (_ : Unit) => [some (.ref 0), some (.int (nI r)), some (.int (nI (k + 1))), some (.int (nI d)), none, none, none, none]) (fun d _ x => frM [] [32, 33] s x ∧ ∀ c, c < 9 → x.2.1 32 c = nI (zuw G T r d c)) ?_ 0 () v (by omega) ⟨fv, hv⟩
    intro d _ x hd hJ ih
    obtain ⟨j1, j2⟩ := hJ
    have hGx := h.t3 j1 (by decide)
    refine RQ_n ZR_ok 5 rfl ⟨nI_in (by omega) (by omega), trivial⟩ ?_
    rw [nI_clamp (by omega), (hGx.2.2.2 r (by omega)).1]
    refine RQ_b rfl (fun z => ?_) (fun z => ?_)
    · have z := (zq_le (a := zgn G r) (b := d) rfl rfl (by omega) (by omega)).mp z
      have : d = zgn G r := by omega
      subst this
      exact out x j1 j2
    have z := (not_congr (zq_le (a := zgn G r) (b := d) rfl rfl (by omega) (by omega))).mp z
    have hd' : d < zgn G r := by omega
    obtain ⟨hl14, hl2⟩ := h.1.t (show r ≤ zgR G by omega) hd'
    refine RQ_n ZR_ok 3 rfl trivial ?_
    refine RQ_v vX12_letterAt (m_letterAt hGx (r := r) (i := d) (by omega) hd') rfl k12_275 rfl rfl rfl rfl rfl ?_
    obtain ⟨lt, hlt⟩ : ∃ lt, lt = zgt G r d := ⟨_, rfl⟩
    rw [← hlt] at hl14 hl2 ⊢
    obtain ⟨w, hw⟩ : ∃ w, w = zuw G T r d := ⟨_, rfl⟩
    obtain ⟨b, hbb⟩ : ∃ b, b = zlw T lt := ⟨_, rfl⟩
    have hwl : ∀ i, w i ≤ 1000000000 := fun i => by rw [hw]; exact zuw_le G T r d i
    have hbl : ∀ i, b i ≤ 1000000000 := fun i => by
      rw [hbb]
      unfold zlw
      split
      · unfold zun1
        split <;> omega
      · exact hTl _ _
    have hz1 : zuw G T r (d + 1) = zjoi w b := by rw [zuw_z, hw, hbb, hlt]
    rw [← hw] at j2
    refine RQ_n ZR_ok 3 rfl trivial ?_
    -- the copy back
    have p186 : ∀ x1, frM [] [32, 33] s x1 → (∀ c, c < 9 → x1.2.1 33 c = nI (zjoi w b c)) → ∀ y : Int32, RnQ ZR mX12_addTrees (186, [some (.ref 0), some (.int (nI r)), some (.int (nI (k + 1))), some (.int (nI d)), some (.int (nI (zlm lt))), some (.int y), none, none], [], x1) Q := by
      intro x1 f1 e1 y
      refine RQ_n ZR_ok 2 rfl trivial ?_
      refine loopU (M := mX12_addTrees) (pc := 189) 9 (fun j (_ : Unit) => [some (.ref 0), some (.int (nI r)), some (.int (nI (k + 1))), some (.int (nI d)), some (.int (nI (zlm lt))), some (.int (nI j)), none, none]) (fun j _ x2 => frM [] [32] x1 x2 ∧ ∀ c, c < j → x2.2.1 32 c = nI (zjoi w b c)) ?_ 0 () x1 (by omega) ⟨frM.rf, fun c hc => absurd hc (Nat.not_lt_zero _)⟩
      intro j _ x2 hj hJ3 ih3
      obtain ⟨g1, g2⟩ := hJ3
      refine RQ_n ZR_ok 2 rfl trivial ?_
      refine RQ_b rfl (fun q => ?_) (fun q => ?_)
      · have q := (zq_lt (a := 8) (b := j) rfl rfl (by omega) (by omega)).mp q
        have : j = 9 := by omega
        subst this
        refine RQ_n ZR_ok 2 rfl trivial ?_
        exact ih (by omega) () _ _ ⟨rfl, rfl, rfl, nIs d, trivial⟩ ⟨f1.tr (g1.up (by decide) (by decide)), fun c hc => by rw [hz1]; exact g2 c hc⟩
      have q := (not_congr (zq_lt (a := 8) (b := j) rfl rfl (by omega) (by omega))).mp q
      refine RQ_n ZR_ok 7 rfl ⟨nI_in (by omega) (by omega), trivial⟩ ?_
      rw [nI_clamp (by omega), g1.2.1 33 (by decide), e1 j (by omega)]
      refine RQ_n ZR_ok 3 rfl ⟨nI_in (by omega) (by omega), trivial⟩ ?_
      rw [nI_clamp (by omega)]
      refine ih3 (by omega) () _ _ ⟨rfl, rfl, rfl, rfl, rfl, nIs j, trivial⟩ ⟨g1.tr (frM.a 32 (by decide)), fun c hc => ?_⟩
      by_cases e : c = j
      · rw [e]; exact upd_at
      · exact (upd_ne (f := x2.2.1 32) e).trans (g2 c (by omega))
    -- the join
    have p73 : ∀ x1, frM [] [32, 33] s x1 → (∀ c, c < 9 → x1.2.1 32 c = nI (w c)) → (∀ c, c < 9 → x1.2.1 33 c = 0) → ∀ y : Int32, RnQ ZR mX12_addTrees (73, [some (.ref 0), some (.int (nI r)), some (.int (nI (k + 1))), some (.int (nI d)), some (.int (nI (zlm lt))), some (.int y), none, none], [], x1) Q := by
      intro x1 f1 e1 e2 y
      refine RQ_n ZR_ok 2 rfl trivial ?_
      refine loopU (M := mX12_addTrees) (pc := 76) 9 (fun n (_ : Unit) => [some (.ref 0), some (.int (nI r)), some (.int (nI (k + 1))), some (.int (nI d)), some (.int (nI (zlm lt))), some (.int (nI n)), none, none]) (fun n _ x2 => frM [] [33] x1 x2 ∧ ∀ c, c < 9 → x2.2.1 33 c = nI (zjn w b c (min n (c + 1)))) ?_ 0 () x1 (by omega) ⟨frM.rf, fun c hc => by rw [Nat.zero_min]; exact e2 c hc⟩
      intro n _ x2 hn hJ4 ih4
      obtain ⟨g1, g2⟩ := hJ4
      refine RQ_n ZR_ok 2 rfl trivial ?_
      refine RQ_b rfl (fun q => ?_) (fun q => ?_)
      · have q := (zq_lt (a := 8) (b := n) rfl rfl (by omega) (by omega)).mp q
        have : n = 9 := by omega
        subst this
        refine p186 x2 (f1.tr (g1.up (by decide) (by decide))) (fun c hc => ?_) _
        have := g2 c hc
        rw [show min 9 (c + 1) = c + 1 by omega] at this
        exact this
      have q := (not_congr (zq_lt (a := 8) (b := n) rfl rfl (by omega) (by omega))).mp q
      refine RQ_n ZR_ok 2 rfl trivial ?_
      refine loopU (M := mX12_addTrees) (pc := 86) (9 - n) (fun m (_ : Unit) => [some (.ref 0), some (.int (nI r)), some (.int (nI (k + 1))), some (.int (nI d)), some (.int (nI (zlm lt))), some (.int (nI n)), some (.int (nI m)), none]) (fun m _ x3 => frM [] [33] x1 x3 ∧ ∀ c, c < 9 → x3.2.1 33 c = nI (zjn w b c (if n ≤ c ∧ c < n + m then n + 1 else min n (c + 1)))) ?_ 0 () x2 (by omega) ⟨g1, fun c hc => by rw [if_neg (by omega)]; exact g2 c hc⟩
      intro m _ x3 hm hJ5 ih5
      obtain ⟨i1, i2⟩ := hJ5
      have e31 : x3.2.1 31 = s.2.1 31 := by rw [i1.2.1 31 (by decide), f1.2.1 31 (by decide)]
      have e32 : x3.2.1 32 = x1.2.1 32 := i1.2.1 32 (by decide)
      refine RQ_n ZR_ok 4 rfl trivial ?_
      rw [nI_add]
      refine RQ_b rfl (fun q2 => ?_) (fun q2 => ?_)
      · have q2 := (zq_lt (a := 8) (b := n + m) rfl rfl (by omega) (by omega)).mp q2
        refine RQ_n ZR_ok 2 rfl trivial ?_
        refine ih4 (by omega) () _ _ ⟨rfl, rfl, rfl, rfl, rfl, nIs n, trivial⟩ ⟨i1, fun c hc => ?_⟩
        rw [i2 c hc]
        by_cases e : n ≤ c ∧ c < n + m
        · rw [if_pos e, show min (n + 1) (c + 1) = n + 1 by omega]
        · rw [if_neg e, show min (n + 1) (c + 1) = min n (c + 1) by omega]
      have q2 := (not_congr (zq_lt (a := 8) (b := n + m) rfl rfl (by omega) (by omega))).mp q2
      have p131 : ∀ y : Int32, y = nI (b m) → RnQ ZR mX12_addTrees (131, [some (.ref 0), some (.int (nI r)), some (.int (nI (k + 1))), some (.int (nI d)), some (.int (nI (zlm lt))), some (.int (nI n)), some (.int (nI m)), none], [.int y], x3) Q := by
        intro y hy
        rw [hy]
        refine RQ_n ZR_ok 11 rfl trivial ?_
        rw [nI_add]
        refine RQ_n ZR_ok 1 rfl ⟨nI_in (by omega) (by omega), trivial⟩ ?_
        have hv := i2 (n + m) (by omega)
        rw [if_neg (by omega), show min n (n + m + 1) = n by omega] at hv
        have hb1 := zjn_le w b (n + m) n
        have hb2 := zcp_le (w n * b m)
        rw [nI_clamp (by omega), hv]
        refine RQ_n ZR_ok 5 rfl ⟨nI_in (by omega) (by omega), trivial⟩ ?_
        rw [nI_clamp (by omega), e32, e1 n (by omega), nI_lg hb1]
        refine RQ_n ZR_ok 4 rfl trivial ?_
        rw [nI_lg (hwl n), nI_lg (hbl m), nL_mul]
        refine RQ_s vX12_heldTrees (m_held x3 (mul9 (hwl n) (hbl m))) rfl k12_325 rfl rfl rfl rfl ?_
        refine RQ_n ZR_ok 2 rfl trivial ?_
        rw [nI_lg hb2, nL_add]
        refine RQ_s vX12_heldTrees (m_held x3 (show zjn w b (n + m) n + zcp (w n * b m) ≤ 1000000000000000000 by omega)) rfl k12_325 rfl rfl rfl rfl ?_
        refine RQ_n ZR_ok 3 rfl ⟨nI_in (by omega) (by omega), trivial⟩ ?_
        rw [nI_clamp (by omega)]
        refine ih5 (by omega) () _ _ ⟨rfl, rfl, rfl, rfl, rfl, rfl, nIs m, trivial⟩ ⟨i1.tr (frM.a 33 (by decide)), fun c hc => ?_⟩
        by_cases e : c = n + m
        · rw [e, if_pos (by omega)]
          show upd (x3.2.1 33) (n + m) _ (n + m) = nI (zcp (zjn w b (n + m) n + zcp (w n * b (n + m - n))))
          rw [upd_at, show n + m - n = m by omega]
        · refine ((upd_ne (f := x3.2.1 33) e).trans (i2 c hc)).trans ?_
          by_cases e2 : n ≤ c ∧ c < n + m
          · rw [if_pos e2, if_pos (by omega)]
          · rw [if_neg e2, if_neg (by omega)]
      refine RQ_n ZR_ok 2 rfl trivial ?_
      by_cases h8 : lt < 8
      · rw [zlm_8 h8]
        refine RQ_b rfl (fun q3 => ?_) (fun _ => ?_)
        · have q3 := (zq_le (a := 100) (b := lt) rfl rfl (by omega) (by omega)).mp q3
          omega
        rw [zlm_8 h8] at p131
        refine RQ_n ZR_ok 2 rfl trivial ?_
        have hbm : b m = if m = 1 then 1 else 0 := by rw [hbb]; unfold zlw; rw [if_pos h8]; rfl
        by_cases hm1 : m = 1
        · refine RQ_b rfl (fun q4 => absurd (show nI m = 1 by rw [hm1]; rfl) q4) (fun _ => ?_)
          refine RQ_n ZR_ok 2 rfl trivial ?_
          exact p131 _ (by rw [hbm, if_pos hm1]; rfl)
        · refine RQ_b rfl (fun _ => ?_) (fun q4 => absurd (fun y => hm1 ((nI_eq (by omega) (by omega)).mp (show nI m = nI 1 from y))) q4)
          refine RQ_n ZR_ok 2 rfl trivial ?_
          exact p131 _ (by rw [hbm, if_neg hm1]; rfl)
      · have e8 : zlm lt = 100 + (lt - 8) := zlm_nm (by omega)
        refine RQ_b rfl (fun _ => ?_) (fun q3 => absurd ((zq_le (a := 100) (b := zlm lt) rfl rfl (by omega) (by omega)).mpr (by omega)) q3)
        refine RQ_n ZR_ok 8 rfl trivial ?_
        rw [show nI (zlm lt) - 100 = nI (lt - 8) from by rw [e8, show (100 : Int32) = nI 100 from rfl, nI_sub (by omega), Nat.add_sub_cancel_left], nI_pred]
        refine RQ_v vX12_treesAt (m_treesAt x3 (n := lt - 8) (c := m) (k := k) (by omega) (by omega) (by omega)) rfl k12_321 rfl rfl rfl rfl rfl ?_
        refine p131 _ ?_
        rw [e31, hT _ _ (by omega) (by omega), hbb]
        unfold zlw
        rw [if_neg h8]
    refine loopU (M := mX12_addTrees) (pc := 52) 9 (fun j (_ : Unit) => [some (.ref 0), some (.int (nI r)), some (.int (nI (k + 1))), some (.int (nI d)), some (.int (nI (zlm lt))), some (.int (nI j)), none, none]) (fun j _ x1 => frM [] [33] x x1 ∧ ∀ c, c < j → x1.2.1 33 c = 0) ?_ 0 () x (by omega) ⟨frM.rf, fun c hc => absurd hc (Nat.not_lt_zero _)⟩
    intro j _ x1 hj hJ3 ih3
    obtain ⟨g1, g2⟩ := hJ3
    refine RQ_n ZR_ok 2 rfl trivial ?_
    refine RQ_b rfl (fun q => ?_) (fun q => ?_)
    · have q := (zq_lt (a := 8) (b := j) rfl rfl (by omega) (by omega)).mp q
      have : j = 9 := by omega
      subst this
      exact p73 x1 (j1.tr (g1.up (by decide) (by decide))) (fun c hc => by rw [g1.2.1 32 (by decide)]; exact j2 c hc) g2 _
    have q := (not_congr (zq_lt (a := 8) (b := j) rfl rfl (by omega) (by omega))).mp q
    refine RQ_n ZR_ok 7 rfl ⟨nI_in (by omega) (by omega), trivial⟩ ?_
    rw [nI_clamp (by omega)]
    refine ih3 (by omega) () _ _ ⟨rfl, rfl, rfl, rfl, rfl, nIs j, trivial⟩ ⟨g1.tr (frM.a 33 (by decide)), fun c hc => ?_⟩
    by_cases e : c = j
    · rw [e]; exact upd_at
    · exact (upd_ne (f := x1.2.1 33) e).trans (g2 c (by omega))
  refine loopU (M := mX12_addTrees) (pc := 2) 9 (fun i (_ : Unit) => [some (.ref 0), some (.int (nI r)), some (.int (nI (k + 1))), some (.int (nI i)), none, none, none, none]) (fun i _ x => frM [] [32] s x ∧ ∀ c, c < i → x.2.1 32 c = nI (zun0 c)) ?_ 0 () s (by omega) ⟨frM.rf, fun c hc => absurd hc (Nat.not_lt_zero _)⟩
  intro i _ x hi hJ ih
  obtain ⟨g1, g2⟩ := hJ
  refine RQ_n ZR_ok 2 rfl trivial ?_
  refine RQ_b rfl (fun q => ?_) (fun q => ?_)
  · have q := (zq_lt (a := 8) (b := i) rfl rfl (by omega) (by omega)).mp q
    have : i = 9 := by omega
    subst this
    exact p29 x (g1.up (by decide) (by decide)) g2 _
  have q := (not_congr (zq_lt (a := 8) (b := i) rfl rfl (by omega) (by omega))).mp q
  have hz : ∀ y : Int32, y = nI (zun0 i) → ∀ c, c < i + 1 → upd (x.2.1 32) i y c = nI (zun0 c) := by
    intro y hy c hc
    by_cases e : c = i
    · rw [e, hy]; exact upd_at
    · exact (upd_ne (f := x.2.1 32) e).trans (g2 c (by omega))
  refine RQ_n ZR_ok 4 rfl trivial ?_
  by_cases h0 : i = 0
  · refine RQ_b rfl (fun y => absurd (show nI i = 0 by rw [h0]; rfl) y) (fun _ => ?_)
    refine RQ_n ZR_ok 2 rfl trivial ?_
    refine RQ_n ZR_ok 3 rfl ⟨nI_in (by omega) (by omega), trivial⟩ ?_
    rw [nI_clamp (by omega)]
    exact ih (by omega) () _ _ ⟨rfl, rfl, rfl, nIs i, trivial⟩ ⟨g1.tr (frM.a 32 (by decide)), hz 1 (by unfold zun0; rw [if_pos h0]; rfl)⟩
  · refine RQ_b rfl (fun _ => ?_) (fun y => absurd (fun y => h0 ((nI_eq (by omega) (by omega)).mp (show nI i = nI 0 from y))) y)
    refine RQ_n ZR_ok 1 rfl trivial ?_
    refine RQ_n ZR_ok 3 rfl ⟨nI_in (by omega) (by omega), trivial⟩ ?_
    rw [nI_clamp (by omega)]
    exact ih (by omega) () _ _ ⟨rfl, rfl, rfl, nIs i, trivial⟩ ⟨g1.tr (frM.a 32 (by decide)), hz 0 (by unfold zun0; rw [if_neg h0]; rfl)⟩
end TreM
