/-! The reference: addTrees, trees. -/
section TrfM
variable {G : ZGT} {s : SM} {os : Nat → Option ZAS}
set_option maxHeartbeats 1000000 in
theorem m_addTrees (h : ZGM G s) {i r : Nat} (hr : r < zgR G) (hg : zgi G r = true) (hk : i < 6) (hT : RtM (ztrS G (i + 1) r) s) : EvQ ZR mX12_addTrees [.ref 0, .int (nI r), .int (nI (i + 1))] s (fun x v => x = none ∧ RtM (ztrS G (i + 1) (r + 1)) v ∧ frM [] [31, 32, 33] s v) := by
  have hb := h.b
  have hl6 := h.1.l hr
  have es : ∀ k n c, ztrS G (i + 1) (r + 1) k n c = if k = i + 1 ∧ zgl G r = n then zcp (ztrS G (i + 1) r k n c + zuw G (ztrh G i) r (zgn G r) c) else ztrS G (i + 1) r k n c := by
    intro k n c
    unfold ztrS
    by_cases a : k < i + 1
    · rw [if_pos a, if_pos a, if_neg (by omega)]
    · rw [if_neg a, if_neg a]
      by_cases b : k = i + 1
      · rw [if_pos b, if_pos b]
        show (if zgi G r = true ∧ zgl G r = n then zcp (ztrr G (ztrh G (i + 1 - 1)) r n c + zuw G (ztrh G (i + 1 - 1)) r (zgn G r) c) else ztrr G (ztrh G (i + 1 - 1)) r n c) = _
        rw [show i + 1 - 1 = i by omega]
        by_cases d : zgl G r = n
        · rw [if_pos ⟨hg, d⟩, if_pos ⟨b, d⟩]
        · rw [if_neg (fun q => d q.2), if_neg (fun q => d q.2)]
      · rw [if_neg b, if_neg b, if_neg (fun q => b q.1)]
  refine EQ_V vX12_addTrees rfl ?_
  refine m_ways (T := ztrh G i) h hr hk (fun n c hn hc => by rw [hT i n c (by omega) hn hc]; unfold ztrS; rw [if_pos (by omega)]) (fun n c => ztrh_le G i n c) (fun v f1 f2 => ?_)
  refine RQ_n ZR_ok 2 rfl trivial ?_
  refine loopU (M := mX12_addTrees) (pc := 224) 9 (fun c (_ : Unit) => [some (.ref 0), some (.int (nI r)), some (.int (nI (i + 1))), some (.int (nI c)), none, none, none, none]) (fun j _ x => frM [] [31] v x ∧ ∀ k n c, k < 7 → n < 6 → c < 9 → x.2.1 31 ((9 * n + c) * 7 + k) = nI (if c < j then ztrS G (i + 1) (r + 1) k n c else ztrS G (i + 1) r k n c)) ?_ 0 () v (by omega) ⟨frM.rf, fun k n c a1 a2 a3 => by rw [if_neg (by omega), f1.2.1 31 (by decide)]; exact hT k n c a1 a2 a3⟩
  intro j _ x hj hJ ih
  obtain ⟨j1, j2⟩ := hJ
  have hGx := (h.t3 f1 (by decide)).t3 j1 (by decide)
  refine RQ_n ZR_ok 2 rfl trivial ?_
  refine RQ_b rfl (fun q => ?_) (fun q => ?_)
  · have q := (zq_lt (a := 8) (b := j) rfl rfl (by omega) (by omega)).mp q
    have : j = 9 := by omega
    subst this
    refine RQ_to (Rn_vret rfl rfl) ⟨rfl, fun k n c a1 a2 a3 => ?_, (f1.up (by decide) (by decide)).tr (j1.up (by decide) (by decide))⟩
    have := j2 k n c a1 a2 a3
    rw [if_pos a3] at this
    exact this
  have q := (not_congr (zq_lt (a := 8) (b := j) rfl rfl (by omega) (by omega))).mp q
  refine RQ_n ZR_ok 5 rfl ⟨nI_in (by omega) (by omega), trivial⟩ ?_
  rw [nI_clamp (by omega), (hGx.2.2.1 r hr).1]
  refine RQ_n ZR_ok 7 rfl trivial ?_
  rw [show ((9 : Int32) * nI (zgl G r) + nI j) * 7 + nI (i + 1) = nI ((9 * zgl G r + j) * 7 + (i + 1)) from by rw [show (9 : Int32) = nI 9 from rfl, show (7 : Int32) = nI 7 from rfl, nI_mul, nI_add, nI_mul, nI_add]]
  refine RQ_n ZR_ok 8 rfl ⟨nI_in (by omega) (by omega), trivial⟩ ?_
  have hv := j2 (i + 1) (zgl G r) j (by omega) hl6 (by omega)
  rw [if_neg (by omega)] at hv
  have hb1 := ztrS_le G (i + 1) r (i + 1) (zgl G r) j
  have hb2 := zuw_le G (ztrh G i) r (zgn G r) j
  rw [nI_clamp (by omega), hv]
  refine RQ_n ZR_ok 5 rfl ⟨nI_in (by omega) (by omega), trivial⟩ ?_
  rw [nI_clamp (show j < 2 ^ 31 by omega), j1.2.1 32 (by decide), f2 j (by omega), nI_lg hb1]
  refine RQ_n ZR_ok 2 rfl trivial ?_
  rw [nI_lg hb2, nL_add]
  refine RQ_s vX12_heldTrees (m_held x (show ztrS G (i + 1) r (i + 1) (zgl G r) j + zuw G (ztrh G i) r (zgn G r) j ≤ 1000000000000000000 by omega)) rfl k12_325 rfl rfl rfl rfl ?_
  refine RQ_n ZR_ok 3 rfl ⟨nI_in (by omega) (by omega), trivial⟩ ?_
  rw [nI_clamp (by omega)]
  refine ih (by omega) () _ _ ⟨rfl, rfl, rfl, nIs j, trivial⟩ ⟨j1.tr (frM.a 31 (by decide)), fun k n c a1 a2 a3 => ?_⟩
  show upd (x.2.1 31) ((9 * zgl G r + j) * 7 + (i + 1)) _ ((9 * n + c) * 7 + k) = _
  by_cases e : k = i + 1 ∧ zgl G r = n ∧ c = j
  · obtain ⟨e1, e2, e3⟩ := e
    rw [e3, if_pos (by omega), es, if_pos ⟨e1, e2⟩, e1, ← e2, upd_at]
  · rw [upd_ne (by
      intro y
      have h1 : 9 * n + c = 9 * zgl G r + j := by omega
      exact e ⟨by omega, by omega, by omega⟩), j2 k n c a1 a2 a3]
    by_cases e3 : c = j
    · rw [if_neg (by omega), if_pos (by omega), es, if_neg (fun y => e ⟨y.1, y.2, e3⟩)]
    · by_cases e4 : c < j
      · rw [if_pos e4, if_pos (by omega)]
      · rw [if_neg e4, if_neg (by omega)]
set_option maxHeartbeats 1000000 in
theorem m_trees (h : RGr G os s) (x y z : Int32) : EvQ ZR mX12_trees [.ref 0, .int x, .int y, .int z] s (rfV G os s (zvTe G x y z)) := by
  have hG := h.1
  have hb := hG.b
  refine EQ_V vX12_trees rfl ?_
  have no : zvTe G x y z = -1 → RnQ ZR mX12_trees (28, [some (.ref 0), some (.int x), some (.int y), some (.int z), none, none], [], s) (rfV G os s (zvTe G x y z)) := by
    intro e
    rw [e]
    refine RQ_n ZR_ok 1 rfl trivial ?_
    exact RQ_to (Rn_iret rfl rfl) ⟨rfl, h, frV.rf⟩
  refine RQ_n ZR_ok 2 rfl trivial ?_
  refine RQ_v vX12_isNamed (m_isNamed hG x) rfl k12_310 rfl rfl rfl rfl rfl ?_
  cases e1 : zix x (zgN G) with
  | none => exact RQ_b rfl (fun _ => no (by unfold zvTe; rw [e1])) (fun q => absurd rfl q)
  | some n =>
  refine RQ_b rfl (fun q => absurd (show (1 : Int32) = 0 from q) (by decide)) (fun _ => ?_)
  refine RQ_n ZR_ok 3 rfl trivial ?_
  refine RQ_s vX12_in (e_in s y 0 8) rfl k12_170 rfl rfl rfl rfl ?_
  rw [show inB y 0 8 = (zix y 9).isSome from zix_in1 (n := 8) (by omega)]
  cases e2 : zix y 9 with
  | none => exact RQ_b rfl (fun _ => no (by unfold zvTe; rw [e1]; dsimp only; rw [e2])) (fun q => absurd rfl q)
  | some c =>
  refine RQ_b rfl (fun q => absurd (show (1 : Int32) = 0 from q) (by decide)) (fun _ => ?_)
  refine RQ_n ZR_ok 3 rfl trivial ?_
  refine RQ_s vX12_in (e_in s z 0 6) rfl k12_170 rfl rfl rfl rfl ?_
  rw [show inB z 0 6 = (zix z 7).isSome from zix_in1 (n := 6) (by omega)]
  cases e3 : zix z 7 with
  | none => exact RQ_b rfl (fun q => absurd rfl q) (fun _ => no (by unfold zvTe; rw [e1]; dsimp only; rw [e2]; dsimp only; rw [e3]))
  | some k =>
  obtain ⟨n1, n2⟩ := zix_s e1
  obtain ⟨c1, c2⟩ := zix_s e2
  obtain ⟨k1, k2⟩ := zix_s e3
  refine RQ_b rfl (fun _ => ?_) (fun q => absurd (show ¬ (1 : Int32) = 0 by decide) q)
  have ev : zvTe G x y z = nI (ztrh G k n c) := by unfold zvTe; rw [e1]; dsimp only; rw [e2]; dsimp only; rw [e3]
  rw [ev]
  clear no
  subst n2; subst c2; subst k2
  refine RQ_n ZR_ok 2 rfl trivial ?_
  -- the heights
  have p55 : ∀ v, frM [] [31, 32, 33] s v → RtM (ztrS G 1 0) v → ∀ a : Int32, RnQ ZR mX12_trees (55, [some (.ref 0), some (.int (nI n)), some (.int (nI c)), some (.int (nI k)), some (.int a), none], [], v) (rfV G os s (nI (ztrh G k n c))) := by
    intro v f0 t0 a
    refine RQ_n ZR_ok 2 rfl trivial ?_
    refine loopU (M := mX12_trees) (pc := 58) k (fun i (_ : Unit) => [some (.ref 0), some (.int (nI n)), some (.int (nI c)), some (.int (nI k)), some (.int (nI (i + 1))), none]) (fun i _ x => frM [] [31, 32, 33] s x ∧ RtM (ztrS G (i + 1) 0) x) ?_ 0 () v (by omega) ⟨f0, t0⟩
    intro i _ x hi hJ ih
    obtain ⟨j1, j2⟩ := hJ
    refine RQ_n ZR_ok 2 rfl trivial ?_
    refine RQ_b rfl (fun q => ?_) (fun q => ?_)
    · have q := (zq_lt (a := k) (b := i + 1) rfl rfl (by omega) (by omega)).mp q
      have : i = k := by omega
      subst this
      refine RQ_n ZR_ok 4 rfl trivial ?_
      refine RQ_v vX12_treesAt (m_treesAt x (n := n) (c := c) (k := i) (by omega) c1 (by omega)) rfl k12_321 rfl rfl rfl rfl rfl ?_
      rw [j2 i n c (by omega) (by omega) c1]
      unfold ztrS
      rw [if_pos (by omega)]
      exact RQ_to (Rn_iret rfl rfl) ⟨rfl, h.fr j1 (by decide) (by decide), j1.v (by decide) (by decide)⟩
    have q := (not_congr (zq_lt (a := k) (b := i + 1) rfl rfl (by omega) (by omega))).mp q
    refine RQ_n ZR_ok 2 rfl trivial ?_
    refine loopU (M := mX12_trees) (pc := 67) (zgR G) (fun r (_ : Unit) => [some (.ref 0), some (.int (nI n)), some (.int (nI c)), some (.int (nI k)), some (.int (nI (i + 1))), some (.int (nI r))]) (fun r _ x => frM [] [31, 32, 33] s x ∧ RtM (ztrS G (i + 1) r) x) ?_ 0 () x (by omega) ⟨j1, j2⟩
    intro r _ x1 hr hJ2 ih2
    obtain ⟨i1, i2⟩ := hJ2
    have hGx := hG.t3 i1 (by decide)
    refine RQ_n ZR_ok 3 rfl trivial ?_
    rw [hGx.2.1.1]
    refine RQ_b rfl (fun y => ?_) (fun y => ?_)
    · have y := (zq_le (a := zgR G) (b := r) rfl rfl (by omega) (by omega)).mp y
      have : r = zgR G := by omega
      subst this
      refine RQ_n ZR_ok 2 rfl trivial ?_
      exact ih (by omega) () _ _ ⟨rfl, rfl, rfl, rfl, nIs (i + 1), trivial⟩ ⟨i1, by rw [ztrS_n (by omega)] at i2; exact i2⟩
    have y := (not_congr (zq_le (a := zgR G) (b := r) rfl rfl (by omega) (by omega))).mp y
    have hr' : r < zgR G := by omega
    refine RQ_n ZR_ok 2 rfl trivial ?_
    refine RQ_v vX12_isIn (m_isIn hGx hr') rfl k12_269 rfl rfl rfl rfl rfl ?_
    cases eg : zgi G r with
    | false =>
      refine RQ_b rfl (fun _ => ?_) (fun q => absurd rfl q)
      refine RQ_n ZR_ok 2 rfl trivial ?_
      refine ih2 (by omega) () _ _ ⟨rfl, rfl, rfl, rfl, rfl, nIs r, trivial⟩ ⟨i1, fun k' n' c' a1 a2 a3 => ?_⟩
      rw [i2 k' n' c' a1 a2 a3]
      unfold ztrS
      by_cases a : k' < i + 1
      · rw [if_pos a, if_pos a]
      · rw [if_neg a, if_neg a]
        by_cases b : k' = i + 1
        · rw [if_pos b, if_pos b]
          show _ = nI (if zgi G r = true ∧ zgl G r = n' then _ else ztrr G (ztrh G (i + 1 - 1)) r n' c')
          rw [if_neg (fun q => by rw [eg] at q; exact absurd q.1 (by decide))]
        · rw [if_neg b, if_neg b]
    | true =>
      refine RQ_b rfl (fun q => absurd (show (1 : Int32) = 0 from q) (by decide)) (fun _ => ?_)
      refine RQ_n ZR_ok 3 rfl trivial ?_
      refine RQ_V vX12_addTrees (m_addTrees hGx hr' eg (by omega) i2) rfl k12_329 rfl rfl rfl rfl (fun _ _ _ => rfl) ?_
      rintro r1 x2 ⟨rfl, q1, q2⟩
      refine RQ_n ZR_ok 2 rfl trivial ?_
      exact ih2 (by omega) () _ _ ⟨rfl, rfl, rfl, rfl, rfl, nIs r, trivial⟩ ⟨i1.tr q2, q1⟩
  refine loopU (M := mX12_trees) (pc := 33) 378 (fun i (_ : Unit) => [some (.ref 0), some (.int (nI n)), some (.int (nI c)), some (.int (nI k)), some (.int (nI i)), none]) (fun i _ x => frM [] [31] s x ∧ ∀ j, j < i → x.2.1 31 j = 0) ?_ 0 () s (by omega) ⟨frM.rf, fun j hj => absurd hj (Nat.not_lt_zero _)⟩
  intro i _ x hi hJ ih
  obtain ⟨j1, j2⟩ := hJ
  refine RQ_n ZR_ok 2 rfl trivial ?_
  refine RQ_b rfl (fun q => ?_) (fun q => ?_)
  · have q := (zq_le (a := 378) (b := i) rfl rfl (by omega) (by omega)).mp q
    have : i = 378 := by omega
    subst this
    refine p55 x (j1.up (by decide) (by decide)) (fun k' n' c' a1 a2 a3 => ?_) _
    rw [j2 _ (by omega), ztrS_1]; rfl
  have q := (not_congr (zq_le (a := 378) (b := i) rfl rfl (by omega) (by omega))).mp q
  refine RQ_n ZR_ok 7 rfl ⟨nI_in (by omega) (by omega), trivial⟩ ?_
  rw [nI_clamp (by omega)]
  refine ih (by omega) () _ _ ⟨rfl, rfl, rfl, rfl, nIs i, trivial⟩ ⟨j1.tr (frM.a 31 (by decide)), fun j hj => ?_⟩
  by_cases e : j = i
  · rw [e]; exact upd_at
  · exact (upd_ne (f := x.2.1 31) e).trans (j2 j (by omega))
end TrfM
