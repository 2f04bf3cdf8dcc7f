/-! The reference: layReaches, leftOnes, usefulOnes, endingOnes; names. -/
theorem nI_rem {a d : Nat} (ha : a < 2 ^ 31) (h0 : 0 < d) (hd : d < 2 ^ 31) : nI a - nI a / nI d * nI d = nI (a % d) := by
  have h1 : a / d * d ≤ a := Nat.div_mul_le_self a d
  have h2 := Nat.div_add_mod a d
  have h3 : d * (a / d) = a / d * d := Nat.mul_comm _ _
  rw [pk_div ha h0 hd, nI_mul, nI_sub h1]
  congr 1
  omega
set_option maxHeartbeats 2000000 in
theorem m_layReaches {G : ZGT} {s : SM} (h : ZGM G s) (b : Bool) : EvQ ZR mX12_layReaches [.ref 0, .int (bI b)] s (fun x v => x = none ∧ (∀ n, n < 6 → v.2.1 34 n = zRC G b (s.1 25) n) ∧ frM [] [34] s v) := by
  have hb := h.b
  obtain ⟨E, hE⟩ : ∃ E, E = s.1 25 := ⟨_, rfl⟩
  rw [← hE]
  refine EQ_V vX12_layReaches rfl ?_
  -- over and over
  have third : ∀ v : SM, frM [] [34] s v → (∀ n, n < 6 → v.2.1 34 n = zr0 G b E (zgR G) n) → RnQ ZR mX12_layReaches (127, [some (.ref 0), some (.int (bI b)), none, none, none, none], [], v) (fun x v => x = none ∧ (∀ n, n < 6 → v.2.1 34 n = zRC G b E n) ∧ frM [] [34] s v) := by
    intro v hf hv
    refine RQ_n ZR_ok 2 rfl trivial ?_
    refine loopU 36 (fun k (_ : Unit) => [some (.ref 0), some (.int (bI b)), some (.int (nI k)), none, none, none]) (fun k _ v => frM [] [34] s v ∧ ∀ n, n < 6 → v.2.1 34 n = zfw (zr0 G b E (zgR G)) k n) ?_ 0 () v (by omega) ⟨hf, hv⟩
    intro k _ v hk hJ ih
    obtain ⟨g1, g2⟩ := hJ
    refine RQ_n ZR_ok 2 rfl trivial ?_
    refine RQ_b rfl (fun q => ?_) (fun q => ?_)
    · have q := (zq_le (a := 36) (b := k) rfl rfl (by omega) (by omega)).mp q
      have : k = 36 := by omega
      subst this
      exact RQ_to (Rn_vret rfl rfl) ⟨rfl, g2, g1⟩
    have q := (not_congr (zq_le (a := 36) (b := k) rfl rfl (by omega) (by omega))).mp q
    have hn6 : k % 6 < 6 := by omega
    have ho6 : k / 6 < 6 := by omega
    have e1 : nI k / 6 = nI (k / 6) := pk_div (d := 6) (by omega) (by omega) (by omega)
    have e2 : nI k - nI k / 6 * 6 = nI (k % 6) := nI_rem (d := 6) (by omega) (by omega) (by omega)
    refine RQ_n ZR_ok 8 rfl ⟨by decide, by decide, trivial⟩ ?_
    rw [e2, e1]
    have hnc : (nI (k % 6)).toNatClampNeg = k % 6 := nI_clamp (by omega)
    have hoc : (nI (k / 6)).toNatClampNeg = k / 6 := nI_clamp (by omega)
    have hnin : vp_in (nI (k % 6)) 6 := nI_in (by omega) (by omega)
    refine RQ_n ZR_ok 10 rfl ⟨hnin, hnin, trivial⟩ ?_
    rw [hnc]
    refine RQ_s vX12_has (e_has v (v.2.1 34 (k % 6)) (nI (k / 6))) rfl k12_237 rfl rfl rfl rfl ?_
    rw [hasB_bt _ (by omega)]
    have es : zfw (zr0 G b E (zgR G)) (k + 1) = upd (zfw (zr0 G b E (zgR G)) k) (k % 6) (v.2.1 34 (k % 6) ||| (if bt (v.2.1 34 (k % 6)) (k / 6) = true then v.2.1 34 (k / 6) else 0)) := by
      rw [zfw, zfs, g2 _ hn6, g2 _ ho6]
    have body : ∀ y, y = (if bt (v.2.1 34 (k % 6)) (k / 6) = true then v.2.1 34 (k / 6) else 0) → RnQ ZR mX12_layReaches (178, [some (.ref 0), some (.int (bI b)), some (.int (nI k)), some (.int (nI (k / 6))), some (.int (nI (k % 6))), none], [.int y, .int (v.2.1 34 (k % 6)), .int (nI (k % 6)), .ref 19], v) (fun x v => x = none ∧ (∀ n, n < 6 → v.2.1 34 n = zRC G b E n) ∧ frM [] [34] s v) := by
      intro y hy
      refine RQ_n ZR_ok 4 rfl ⟨hnin, trivial⟩ ?_
      rw [hnc]
      refine ih (by omega) () _ _ ⟨rfl, rfl, nIs k, trivial⟩ ⟨g1.tr (frM.a 34 (by decide)), fun n hn => ?_⟩
      rw [es]
      show upd (v.2.1 34) (k % 6) (v.2.1 34 (k % 6) ||| y) n = _
      rw [hy]
      by_cases z : n = k % 6
      · subst z; rw [upd_at, upd_at]
      · rw [upd_ne z, upd_ne z]; exact g2 n hn
    refine RQ_b rfl (fun q3 => ?_) (fun q3 => ?_)
    · have q3 := bI_0.mp q3
      refine RQ_n ZR_ok 1 rfl trivial ?_
      exact body _ (by rw [q3]; rfl)
    · have q3 := bI_t q3
      refine RQ_n ZR_ok 4 rfl ⟨nI_in (by omega) (by omega), trivial⟩ ?_
      rw [hoc]
      refine RQ_n ZR_ok 1 rfl trivial ?_
      exact body _ (by rw [q3, if_pos rfl])
  -- by the rules
  have second : ∀ v : SM, frM [] [34] s v → (∀ n, n < 6 → v.2.1 34 n = 0) → RnQ ZR mX12_layReaches (21, [some (.ref 0), some (.int (bI b)), none, none, none, none], [], v) (fun x v => x = none ∧ (∀ n, n < 6 → v.2.1 34 n = zRC G b E n) ∧ frM [] [34] s v) := by
    intro v hf hv
    refine RQ_n ZR_ok 2 rfl trivial ?_
    refine loopU (zgR G) (fun r (_ : Unit) => [some (.ref 0), some (.int (bI b)), some (.int (nI r)), none, none, none]) (fun r _ v => frM [] [34] s v ∧ ∀ n, n < 6 → v.2.1 34 n = zr0 G b E r n) ?_ 0 () v (by omega) ⟨hf, hv⟩
    intro r _ v hr hJ ih
    obtain ⟨g1, g2⟩ := hJ
    have hv : ZGM G v := h.fr g1 (by decide)
    refine RQ_n ZR_ok 3 rfl trivial ?_
    refine RQ_b rfl (fun q => ?_) (fun q => ?_)
    · have q := (zq_le hv.R rfl (by omega) (by omega)).mp q
      have : r = zgR G := by omega
      subst this
      exact RQ_le (l' := [some (.ref 0), some (.int (bI b)), none, none, none, none]) ⟨rfl, rfl, trivial⟩ (third v g1 g2)
    have q := (not_congr (zq_le hv.R rfl (by omega) (by omega))).mp q
    have hrR : r < zgR G := by omega
    have hl6 := h.1.l hrR
    have hn := h.1.n (r := r) (by omega)
    have hrc : (nI r).toNatClampNeg = r := nI_clamp (by omega)
    refine RQ_n ZR_ok 2 rfl trivial ?_
    refine RQ_v vX12_isIn (m_isIn hv hrR) rfl k12_269 rfl rfl rfl rfl rfl ?_
    refine RQ_n ZR_ok 3 rfl trivial ?_
    -- the rule's letters; A: what there is so far, is: does it go on
    refine loopU (zgn G r) (fun i (x : Bool × Int32) => [some (.ref 0), some (.int (bI b)), some (.int (nI r)), some (.int (bI x.1)), some (.int (nI i)), none]) (fun i x w => frM [] [34] s w ∧ (∀ n, n < 6 → w.2.1 34 n = upd (zr0 G b E r) (zgl G r) (zr0 G b E r (zgl G r) ||| x.2) n) ∧ (zgi G r = false → x.1 = false ∧ x.2 = 0) ∧ (zgi G r = true → (x.1 = true → x.2 ||| zrl G b E r (zgn G r - i) i = zrl G b E r (zgn G r) 0) ∧ (x.1 = false → x.2 = zrl G b E r (zgn G r) 0))) ?_ 0 (zgi G r, 0) v (by omega) ⟨g1, fun n hn => ?_, fun z => ⟨z, rfl⟩, fun z => ⟨fun _ => ?_, fun y => ?_⟩⟩
    · intro i x w hi hJ2 ih2
      obtain ⟨is, A⟩ := x
      obtain ⟨c1, c2, c3, c4⟩ := hJ2
      dsimp only at c2 c3 c4 ⊢
      have hw : ZGM G w := h.fr c1 (by decide)
      have e19 : w.2.1 19 (nI r).toNatClampNeg = nI (zgn G r) := by rw [hrc]; exact hw.n (by omega)
      have e18 : w.2.1 18 (nI r).toNatClampNeg = nI (zgl G r) := by rw [hrc]; exact hw.l hrR
      have done : (zgi G r = true → A = zrl G b E r (zgn G r) 0) → RnQ ZR mX12_layReaches (121, [some (.ref 0), some (.int (bI b)), some (.int (nI r)), some (.int (bI is)), some (.int (nI i)), none], [], w) (fun x v => x = none ∧ (∀ n, n < 6 → v.2.1 34 n = zRC G b E n) ∧ frM [] [34] s v) := by
        intro hd
        refine RQ_n ZR_ok 2 rfl trivial ?_
        refine ih hrR () _ _ ⟨rfl, rfl, nIs r, trivial⟩ ⟨c1, fun n hn => ?_⟩
        rw [c2 n hn, zr0]
        cases hz : zgi G r with
        | true => rw [if_pos rfl, hd hz]
        | false =>
          rw [if_neg (by decide), (c3 hz).2]
          by_cases y : n = zgl G r
          · subst y; rw [upd_at, or_0]
          · rw [upd_ne y]
      refine RQ_n ZR_ok 5 rfl ⟨nI_in (by omega) (by omega), trivial⟩ ?_
      refine RQ_b rfl (fun q2 => ?_) (fun q2 => ?_)
      · have q2 := (zq_le e19 rfl (by omega) (by omega)).mp q2
        have : i = zgn G r := by omega
        subst this
        refine done (fun z => ?_)
        cases is with
        | true =>
          have := (c4 z).1 rfl
          rw [Nat.sub_self, zrl, or_0] at this
          exact this
        | false => exact (c4 z).2 rfl
      have q2 := (not_congr (zq_le e19 rfl (by omega) (by omega))).mp q2
      have hin : i < zgn G r := by omega
      have ht := h.1.t (r := r) (by omega) hin
      have hlm := zlm_lt ht.1
      refine RQ_n ZR_ok 1 rfl trivial ?_
      refine RQ_b rfl (fun q3 => ?_) (fun q3 => ?_)
      · have q3 := bI_0.mp q3
        exact done (fun z => (c4 z).2 q3)
      have q3 := bI_t q3
      have hgi : zgi G r = true := by
        cases hz : zgi G r with
        | true => rfl
        | false => have := (c3 hz).1; rw [q3] at this; cases this
      have hA := (c4 hgi).1 q3
      obtain ⟨d, hd⟩ : ∃ d, zgn G r - i = d + 1 := ⟨zgn G r - i - 1, by omega⟩
      rw [hd, zrl] at hA
      refine RQ_n ZR_ok 3 rfl trivial ?_
      refine RQ_v vX12_letterAt (m_letterAt hw (by omega) hin) rfl k12_275 rfl rfl rfl rfl rfl ?_
      have hnin : vp_in (nI (zgl G r)) 6 := nI_in (by omega) (by omega)
      have hnc : (nI (zgl G r)).toNatClampNeg = zgl G r := nI_clamp (by omega)
      refine RQ_n ZR_ok 7 rfl ⟨nI_in (by omega) (by omega), trivial⟩ ?_
      rw [e18]
      refine RQ_n ZR_ok 4 rfl ⟨hnin, trivial⟩ ?_
      rw [hnc]
      have body : RnQ ZR mX12_layReaches (94, [some (.ref 0), some (.int (bI b)), some (.int (nI r)), some (.int (bI is)), some (.int (nI i)), some (.int (nI (zlm (zgt G r i))))], [.int (znb G r i), .int (w.2.1 34 (zgl G r)), .int (nI (zgl G r)), .ref 19], w) (fun x v => x = none ∧ (∀ n, n < 6 → v.2.1 34 n = zRC G b E n) ∧ frM [] [34] s v) := by
        refine RQ_n ZR_ok 3 rfl ⟨hnin, trivial⟩ ?_
        rw [hnc]
        obtain ⟨w', hw'⟩ : ∃ w' : SM, w' = (w.1, updA w.2.1 34 (zgl G r) (w.2.1 34 (zgl G r) ||| znb G r i), w.2.2) := ⟨_, rfl⟩
        rw [← hw']
        have hwf : frM [] [34] w w' := by rw [hw']; exact frM.a 34 (by decide)
        have h34 : w'.2.1 34 = upd (w.2.1 34) (zgl G r) (w.2.1 34 (zgl G r) ||| znb G r i) := by rw [hw']; rfl
        have ew : w'.1 25 = E := by rw [hwf.1 25 (by decide), c1.1 25 (by decide), hE]
        have fin : ∀ g : Bool, (g = true ↔ b = false ∨ zem E (zgt G r i) = true) → RnQ ZR mX12_layReaches (114, [some (.ref 0), some (.int (bI b)), some (.int (nI r)), some (.int (bI is)), some (.int (nI i)), some (.int (nI (zlm (zgt G r i))))], [.int (bI g)], w') (fun x v => x = none ∧ (∀ n, n < 6 → v.2.1 34 n = zRC G b E n) ∧ frM [] [34] s v) := by
          intro g hg
          refine RQ_n ZR_ok 3 rfl trivial ?_
          refine ih2 hin (g, A ||| znb G r i) _ _ ⟨rfl, rfl, rfl, rfl, nIs i, trivial⟩ ⟨c1.tr hwf, fun n hn => ?_, fun z => (by rw [hgi] at z; cases z), fun _ => ⟨fun z => ?_, fun z => ?_⟩⟩
          · rw [h34]
            dsimp only
            by_cases y : n = zgl G r
            · subst y; rw [upd_at, upd_at, c2 _ hn, upd_at, or_as]
            · rw [upd_ne y, upd_ne y, c2 n hn, upd_ne y]
          · rw [if_pos (hg.mp z), ← or_as] at hA
            dsimp only
            rw [← hA, show zgn G r - (i + 1) = d by omega]
          · have z : g = false := z
            rw [if_neg (fun y => by rw [hg.mpr y] at z; cases z), or_0] at hA
            exact hA
        refine RQ_b rfl (fun q4 => ?_) (fun q4 => ?_)
        · have q4 := bI_0.mp q4
          refine RQ_n ZR_ok 2 rfl trivial ?_
          exact fin true ⟨fun _ => Or.inl q4, fun _ => rfl⟩
        have q4 := bI_t q4
        refine RQ_n ZR_ok 2 rfl trivial ?_
        have hel := m_isEmptyLetter (u := w') ht.1
        rw [ew] at hel
        refine RQ_v vX12_isEmptyLetter hel rfl k12_285 rfl rfl rfl rfl rfl ?_
        refine RQ_b rfl (fun q5 => ?_) (fun q5 => ?_)
        · have q5 := bI_0.mp q5
          refine RQ_n ZR_ok 1 rfl trivial ?_
          exact fin false ⟨fun z => (by cases z), fun z => (by
            rcases z with z | z
            · rw [q4] at z; cases z
            · rw [q5] at z; cases z)⟩
        · have q5 := bI_t q5
          refine RQ_n ZR_ok 2 rfl trivial ?_
          exact fin true ⟨fun _ => Or.inr q5, fun _ => rfl⟩
      refine RQ_b rfl (fun q4 => ?_) (fun q4 => ?_)
      · have q4 := (zq_lt (a := zlm (zgt G r i)) (b := 100) rfl rfl (by omega) (by omega)).mp q4
        have h8 := not_congr (zlm_100 ht.1)
        refine RQ_n ZR_ok 1 rfl trivial ?_
        rw [znb, if_neg (by omega)] at body
        exact body
      · have q4 := (not_congr (zq_lt (a := zlm (zgt G r i)) (b := 100) rfl rfl (by omega) (by omega))).mp q4
        have h8 : 8 ≤ zgt G r i := (zlm_100 ht.1).mp (by omega)
        have e8 : nI (zlm (zgt G r i)) - 100 = nI (zgt G r i - 8) := by rw [zlm_nm h8, show (100 : Int32) = nI 100 from rfl, nI_sub (by omega), Nat.add_sub_cancel_left]
        refine RQ_n ZR_ok 6 rfl trivial ?_
        rw [e8]
        rw [znb, if_pos h8] at body
        exact body
    · dsimp only
      rw [g2 n hn]
      by_cases y : n = zgl G r
      · subst y; rw [upd_at, or_0]
      · rw [upd_ne y]
    · show (0 : Int32) ||| _ = _
      rw [or_cm, or_0, Nat.sub_zero]
    · have y : zgi G r = false := y
      rw [z] at y; cases y
  refine RQ_n ZR_ok 2 rfl trivial ?_
  refine loopU 6 (fun n (_ : Unit) => [some (.ref 0), some (.int (bI b)), some (.int (nI n)), none, none, none]) (fun n _ v => frM [] [34] s v ∧ ∀ k, k < n → v.2.1 34 k = 0) ?_ 0 () s (by omega) ⟨frM.rf, fun k hk => by omega⟩
  intro n _ v hn hJ ih
  obtain ⟨g1, g2⟩ := hJ
  refine RQ_n ZR_ok 2 rfl trivial ?_
  refine RQ_b rfl (fun q => ?_) (fun q => ?_)
  · have q := (zq_le (a := 6) (b := n) rfl rfl (by omega) (by omega)).mp q
    exact RQ_le (l' := [some (.ref 0), some (.int (bI b)), none, none, none, none]) ⟨rfl, rfl, trivial⟩ (second v g1 (fun k hk => g2 k (by omega)))
  have q := (not_congr (zq_le (a := 6) (b := n) rfl rfl (by omega) (by omega))).mp q
  refine RQ_n ZR_ok 7 rfl ⟨nI_in (by omega) (by omega), trivial⟩ ?_
  refine ih (by omega) () _ _ ⟨rfl, rfl, nIs n, trivial⟩ ⟨g1.tr (frM.a 34 (by decide)), fun k hk => ?_⟩
  show upd (v.2.1 34) (nI n).toNatClampNeg 0 k = 0
  rw [nI_clamp (by omega)]
  by_cases z : k = n
  · subst z; rw [upd_at]
  · rw [upd_ne z]; exact g2 k (by omega)
theorem m_leftOnes {G : ZGT} {s : SM} (h : ZGM G s) : EvQ ZR mX12_leftOnes [.ref 0] s (fun x v => x = some (.int (zLN G (s.1 25) (zgN G))) ∧ frM [] [34] s v) := by
  have hb := h.b
  refine EQ_V vX12_leftOnes rfl ?_
  refine RQ_n ZR_ok 2 rfl trivial ?_
  refine RQ_V vX12_layReaches (m_layReaches h true) rfl k12_333 rfl rfl rfl rfl (fun _ _ _ => rfl) (fun r1 u hu => ?_)
  obtain ⟨rfl, u1, u2⟩ := hu
  have hu : ZGM G u := h.fr u2 (by decide)
  refine RQ_n ZR_ok 4 rfl trivial ?_
  refine loopU (zgN G) (fun k (_ : Unit) => [some (.ref 0), some (.int (zLN G (s.1 25) k)), some (.int (nI k))]) (fun k _ v => v = u) ?_ 0 () u (by omega) rfl
  intro k _ v hk hJ ih
  subst hJ
  refine RQ_n ZR_ok 3 rfl trivial ?_
  refine RQ_b rfl (fun q => ?_) (fun q => ?_)
  · have q := (zq_le hu.2.1.2.1 rfl (by omega) (by omega)).mp q
    have : k = zgN G := by omega
    subst this
    refine RQ_n ZR_ok 1 rfl trivial ?_
    exact RQ_to (Rn_iret rfl rfl) ⟨rfl, u2⟩
  have q := (not_congr (zq_le hu.2.1.2.1 rfl (by omega) (by omega))).mp q
  refine RQ_n ZR_ok 6 rfl ⟨nI_in (by omega) (by omega), trivial⟩ ?_
  rw [nI_clamp (show k < 2 ^ 31 by omega)]
  refine RQ_s vX12_has (e_has v (v.2.1 34 k) (nI k)) rfl k12_237 rfl rfl rfl rfl ?_
  rw [hasB_bt _ (by omega), u1 k (by omega)]
  refine RQ_b rfl (fun q3 => ?_) (fun q3 => ?_)
  · have q3 := bI_0.mp q3
    refine RQ_n ZR_ok 5 rfl trivial ?_
    refine ih (by omega) () _ _ ⟨rfl, ?_, nIs k, trivial⟩ rfl
    show Value.int _ = Value.int _
    rw [zLN, q3]; rfl
  · have q3 := bI_t q3
    refine RQ_n ZR_ok 8 rfl trivial ?_
    refine ih (by omega) () _ _ ⟨rfl, ?_, nIs k, trivial⟩ rfl
    show Value.int _ = Value.int _
    rw [zLN, q3, if_pos rfl]; rfl
theorem m_usefulOnes {G : ZGT} {s : SM} (h : ZGM G s) : EvQ ZR mX12_usefulOnes [.ref 0] s (fun x v => x = some (.int (zRC G false (s.1 25) 0 ||| 1)) ∧ frM [] [34] s v) := by
  refine EQ_V vX12_usefulOnes rfl ?_
  refine RQ_n ZR_ok 2 rfl trivial ?_
  refine RQ_V vX12_layReaches (m_layReaches h false) rfl k12_333 rfl rfl rfl rfl (fun _ _ _ => rfl) (fun r1 u hu => ?_)
  obtain ⟨rfl, u1, u2⟩ := hu
  refine RQ_n ZR_ok 6 rfl ⟨nI_in (c := 0) (by omega) (by omega), trivial⟩ ?_
  refine RQ_to (Rn_iret rfl rfl) ⟨?_, u2⟩
  show some (Value.int (u.2.1 34 0 ||| 1)) = _
  rw [u1 0 (by omega)]
def zEN (S : Nat → Nat) : Nat → Int32
  | 0 => 0
  | k + 1 => zEN S k ||| (if S k < 1000000 then b1 k else 0)
theorem m_endingOnes {G : ZGT} {s : SM} {S : Nat → Nat} (h : ZGM G s) (hS : SRM S s) : Ev ZR mX12_endingOnes [.ref 0] s (some (.int (zEN S (zgN G)))) s := by
  have hb := h.b
  refine EQ_ev (EQ_V vX12_endingOnes rfl ?_)
  refine RQ_n ZR_ok 4 rfl trivial ?_
  refine loopU (zgN G) (fun k (_ : Unit) => [some (.ref 0), some (.int (zEN S k)), some (.int (nI k))]) (fun k _ v => v = s) ?_ 0 () s (by omega) rfl
  intro k _ v hk hJ ih
  subst hJ
  refine RQ_n ZR_ok 3 rfl trivial ?_
  refine RQ_b rfl (fun q => ?_) (fun q => ?_)
  · have q := (zq_le h.2.1.2.1 rfl (by omega) (by omega)).mp q
    have : k = zgN G := by omega
    subst this
    refine RQ_n ZR_ok 1 rfl trivial ?_
    exact RQ_to (Rn_iret rfl rfl) ⟨rfl, rfl⟩
  have q := (not_congr (zq_le h.2.1.2.1 rfl (by omega) (by omega))).mp q
  obtain ⟨hk1, hk2⟩ := hS k (by omega)
  refine RQ_n ZR_ok 6 rfl ⟨nI_in (by omega) (by omega), trivial⟩ ?_
  rw [nI_clamp (show k < 2 ^ 31 by omega)]
  refine RQ_b rfl (fun q3 => ?_) (fun q3 => ?_)
  · have q3 := (zq_le (a := 1000000) rfl hk1 (by omega) (by omega)).mp q3
    refine RQ_n ZR_ok 5 rfl trivial ?_
    refine ih (by omega) () _ _ ⟨rfl, ?_, nIs k, trivial⟩ rfl
    show Value.int _ = Value.int _
    rw [zEN, if_neg (by omega)]
  · have q3 := (not_congr (zq_le (a := 1000000) rfl hk1 (by omega) (by omega))).mp q3
    refine RQ_n ZR_ok 8 rfl trivial ?_
    refine ih (by omega) () _ _ ⟨rfl, ?_, nIs k, trivial⟩ rfl
    show Value.int _ = Value.int _
    rw [zEN, if_pos (by omega)]; rfl
