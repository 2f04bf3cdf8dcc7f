/-! The reference: layNext, isNext, isWeakly, doesTake, takerOf. -/
set_option maxHeartbeats 1000000 in
theorem m_layNext {G : ZGT} {u : SM} (h : ZGM G u) {kd st b : Nat} (hk : kd < 3) (hs : st < 200) (hb14 : b < 14) : EvQ ZR mX12_layNext [.ref 0, .int (nI kd), .int (nI st), .int (nI b)] u (fun x v => x = some (.int (bI (zcB (∃ i, i < 102 ∧ zNX G (mC (mrow kd st) u) b i ≠ 0)))) ∧ (∀ i, i < 102 → v.2.1 45 i = zNX G (mC (mrow kd st) u) b i) ∧ frM [] [45] u v) := by
  have hb := h.b
  have hrow := mrow_lt hk hs
  obtain ⟨row, hrw⟩ : ∃ row, row = mrow kd st := ⟨_, rfl⟩
  rw [← hrw] at hrow ⊢
  obtain ⟨C, hC⟩ : ∃ C, C = mC row u := ⟨_, rfl⟩
  rw [← hC]
  refine EQ_V vX12_layNext rfl ?_
  refine RQ_n ZR_ok 2 rfl trivial ?_
  refine RQ_s vX12_rowOf (e_rowOf u kd st) rfl k12_352 rfl rfl rfl rfl ?_
  rw [← hrw]
  refine RQ_n ZR_ok 5 rfl trivial ?_
  have second : ∀ v : SM, frM [] [45] u v → (∀ j, j < 102 → v.2.1 45 j = 0) → RnQ ZR mX12_layNext (34, [some (.ref 0), some (.int (nI kd)), some (.int (nI st)), some (.int (nI b)), some (.int (nI row)), some (.int 0), none], [], v) (fun x v => x = some (.int (bI (zcB (∃ i, i < 102 ∧ zNX G C b i ≠ 0)))) ∧ (∀ i, i < 102 → v.2.1 45 i = zNX G C b i) ∧ frM [] [45] u v) := by
    intro v hf hv
    refine RQ_n ZR_ok 2 rfl trivial ?_
    refine loopU (6 * (zgR G + 1)) (fun k (x : Bool) => [some (.ref 0), some (.int (nI kd)), some (.int (nI st)), some (.int (nI b)), some (.int (nI row)), some (.int (bI x)), some (.int (nI k))]) (fun k x w => frM [] [45] u w ∧ (∀ j, j < 102 → w.2.1 45 j = if j ≤ k then zNX G C b j else 0) ∧ (x = true ↔ ∃ j, j < 102 ∧ j ≤ k ∧ zNX G C b j ≠ 0)) ?_ 0 false v (by omega) ⟨hf, fun j hj => ?_, ⟨fun z => (by cases z), fun z => ?_⟩⟩
    · intro k x w hk2 hJ ih
      obtain ⟨g1, g2, g3⟩ := hJ
      have hw : ZGM G w := h.fr g1 (by decide)
      have e6 : (6 : Int32) * (w.1 15 + 1) = nI (6 * (zgR G + 1)) := by rw [hw.R, nI_1, show (6 : Int32) = nI 6 from rfl, nI_mul]
      refine RQ_n ZR_ok 7 rfl trivial ?_
      refine RQ_b rfl (fun q => ?_) (fun q => ?_)
      · have q := (zq_le e6 rfl (by omega) (by omega)).mp q
        have : k = 6 * (zgR G + 1) := by omega
        subst this
        refine RQ_n ZR_ok 1 rfl trivial ?_
        refine RQ_to (Rn_zret rfl rfl (bI_01 _)) ⟨?_, fun j hj => ?_, g1⟩
        · congr 3
          cases x with
          | true =>
            obtain ⟨j, hj, -, hne⟩ := g3.mp rfl
            exact (zcB_t ⟨j, hj, hne⟩).symm
          | false =>
            refine (zcB_f (fun z => ?_)).symm
            obtain ⟨j, hj, hne⟩ := z
            have hle : j ≤ 6 * (zgR G + 1) := Nat.le_of_not_lt (fun y => hne (zNX_hi h.1 (by omega)))
            have := g3.mpr ⟨j, hj, hle, hne⟩
            cases this
        · rw [g2 j hj]
          by_cases z : j ≤ 6 * (zgR G + 1)
          · rw [if_pos z]
          · rw [if_neg z, zNX_hi h.1 (by omega)]
      have q := (not_congr (zq_le e6 rfl (by omega) (by omega))).mp q
      have hk3 : k < 6 * (zgR G + 1) := by omega
      have hkr : k / 6 ≤ zgR G := by omega
      have hn := h.1.n hkr
      have hrc : nI row + nI k = nI (row + k) := nI_add _ _
      have hin39 : vp_in (nI (row + k)) 61200 := nI_in (by omega) (by omega)
      have hic : (nI (row + k)).toNatClampNeg = row + k := nI_clamp (by omega)
      have eC : w.2.1 39 (row + k) = C k := by rw [g1.2.1 39 (by decide), hC]; rfl
      have skip : zNX G C b (k + 1) = 0 → RnQ ZR mX12_layNext (110, [some (.ref 0), some (.int (nI kd)), some (.int (nI st)), some (.int (nI b)), some (.int (nI row)), some (.int (bI x)), some (.int (nI k))], [], w) (fun x v => x = some (.int (bI (zcB (∃ i, i < 102 ∧ zNX G C b i ≠ 0)))) ∧ (∀ i, i < 102 → v.2.1 45 i = zNX G C b i) ∧ frM [] [45] u v) := by
        intro hz
        refine RQ_n ZR_ok 2 rfl trivial ?_
        refine ih hk3 x _ _ ⟨rfl, rfl, rfl, rfl, rfl, rfl, nIs k, trivial⟩ ⟨g1, fun j hj => ?_, ?_⟩
        · rw [g2 j hj]
          by_cases y : j = k + 1
          · subst y; rw [if_neg (by omega), if_pos (Nat.le_refl _), hz]
          · by_cases y2 : j ≤ k
            · rw [if_pos y2, if_pos (by omega)]
            · rw [if_neg y2, if_neg (by omega)]
        · rw [g3]
          refine ⟨fun z => ?_, fun z => ?_⟩
          · obtain ⟨j, a1, a2, a3⟩ := z; exact ⟨j, a1, by omega, a3⟩
          · obtain ⟨j, a1, a2, a3⟩ := z
            refine ⟨j, a1, ?_, a3⟩
            by_cases y : j = k + 1
            · subst y; exact absurd hz a3
            · omega
      refine RQ_n ZR_ok 5 rfl trivial ?_
      rw [hrc]
      refine RQ_n ZR_ok 1 rfl ⟨hin39, trivial⟩ ?_
      rw [hic, eC]
      refine RQ_b rfl (fun q2 => ?_) (fun q2 => ?_)
      · have q2 : C k = 0 := q2
        refine skip ?_
        unfold zNX
        rw [Nat.add_sub_cancel, q2]
        split <;> rfl
      have q2 : ¬ C k = 0 := q2
      refine RQ_n ZR_ok 2 rfl trivial ?_
      refine RQ_v vX12_letterBehind (m_letterBehind hw hkr) rfl k12_355 rfl rfl rfl rfl rfl ?_
      refine RQ_n ZR_ok 1 rfl trivial ?_
      by_cases hd : k % 6 < zgn G (k / 6)
      · have ht := h.1.t hkr hd
        have ezl : zlb G k = nI (zlm (zgt G (k / 6) (k % 6))) := if_pos hd
        have hlm := zlm_lt ht.1
        rw [ezl]
        refine RQ_b rfl (fun z => absurd z (nI_m1 (by omega))) (fun _ => ?_)
        refine RQ_n ZR_ok 3 rfl trivial ?_
        refine RQ_v vX12_letterBehind (m_letterBehind hw hkr) rfl k12_355 rfl rfl rfl rfl rfl ?_
        rw [ezl]
        refine RQ_v vX12_byOf (m_byOf w ht.1) rfl k12_361 rfl rfl rfl rfl rfl ?_
        refine RQ_n ZR_ok 1 rfl trivial ?_
        have ek : 6 * (k / 6) + k % 6 = k := by omega
        refine RQ_b rfl (fun q3 => ?_) (fun q3 => ?_)
        · have q3 := (not_congr (zq_eq (a := zgt G (k / 6) (k % 6)) (b := b) rfl rfl (by omega) (by omega))).mp q3
          refine skip ?_
          unfold zNX
          rw [Nat.add_sub_cancel, if_neg (fun z => q3 z.2.2.2)]
        · have q3 := (zq_eq (a := zgt G (k / 6) (k % 6)) (b := b) rfl rfl (by omega) (by omega)).mp (Classical.not_not.mp q3)
          have hnx : zNX G C b (k + 1) = C k := by
            have := zNX_s (G := G) (C := C) (b := b) hkr hd hn q3
            rw [ek] at this
            exact this
          have hin45 : vp_in (nI (k + 1)) 102 := nI_in (by omega) (by omega)
          refine RQ_n ZR_ok 10 rfl trivial ?_
          rw [hrc, nI_1]
          refine RQ_n ZR_ok 2 rfl ⟨hin39, hin45, trivial⟩ ?_
          rw [hic, eC, nI_clamp (show k + 1 < 2 ^ 31 by omega)]
          refine RQ_n ZR_ok 4 rfl trivial ?_
          refine ih hk3 true _ _ ⟨rfl, rfl, rfl, rfl, rfl, rfl, nIs k, trivial⟩ ⟨g1.tr (frM.a 45 (by decide)), fun j hj => ?_, ⟨fun _ => ⟨k + 1, by omega, Nat.le_refl _, by rw [hnx]; exact q2⟩, fun _ => rfl⟩⟩
          show upd (w.2.1 45) (k + 1) (C k) j = _
          by_cases y : j = k + 1
          · subst y; rw [upd_at, if_pos (Nat.le_refl _), hnx]
          · rw [upd_ne y, g2 j hj]
            by_cases y2 : j ≤ k
            · rw [if_pos y2, if_pos (by omega)]
            · rw [if_neg y2, if_neg (by omega)]
      · have ezl : zlb G k = -1 := if_neg hd
        rw [ezl]
        refine RQ_b rfl (fun _ => ?_) (fun z => absurd rfl z)
        refine skip ?_
        unfold zNX
        rw [Nat.add_sub_cancel, if_neg (fun z => hd z.2.2.1)]
    · rw [hv j hj]
      by_cases z : j ≤ 0
      · rw [if_pos z]
        unfold zNX
        rw [if_neg (fun y => by omega)]
      · rw [if_neg z]
    · obtain ⟨j, hj, hj0, hne⟩ := z
      exfalso
      apply hne
      unfold zNX
      rw [if_neg (fun y => by omega)]
  refine loopU 102 (fun i (_ : Unit) => [some (.ref 0), some (.int (nI kd)), some (.int (nI st)), some (.int (nI b)), some (.int (nI row)), some (.int 0), some (.int (nI i))]) (fun i _ v => frM [] [45] u v ∧ ∀ j, j < i → v.2.1 45 j = 0) ?_ 0 () u (by omega) ⟨frM.rf, fun j hj => by omega⟩
  intro i _ v hi hJ ih
  obtain ⟨g1, g2⟩ := hJ
  refine RQ_n ZR_ok 2 rfl trivial ?_
  refine RQ_b rfl (fun q => ?_) (fun q => ?_)
  · have q := (zq_le (a := 102) (b := i) rfl rfl (by omega) (by omega)).mp q
    exact RQ_le (l' := [some (.ref 0), some (.int (nI kd)), some (.int (nI st)), some (.int (nI b)), some (.int (nI row)), some (.int 0), none]) ⟨rfl, rfl, rfl, rfl, rfl, rfl, trivial⟩ (second v g1 (fun j hj => g2 j (by omega)))
  have q := (not_congr (zq_le (a := 102) (b := i) rfl rfl (by omega) (by omega))).mp q
  refine RQ_n ZR_ok 7 rfl ⟨nI_in (by omega) (by omega), trivial⟩ ?_
  refine ih (by omega) () _ _ ⟨rfl, rfl, rfl, rfl, rfl, rfl, nIs i, trivial⟩ ⟨g1.tr (frM.a 45 (by decide)), fun j hj => ?_⟩
  show upd (v.2.1 45) (nI i).toNatClampNeg 0 j = 0
  rw [nI_clamp (by omega)]
  by_cases z : j = i
  · subst z; rw [upd_at]
  · rw [upd_ne z]; exact g2 j (by omega)
/-- a state's kernel in the reference -/
def mK (kd : Nat) (v : SM) (st i : Nat) : Int32 := v.2.1 38 (mrow kd st + i)
def zhi (G : ZGT) (k : Nat → Int32) : Prop := ∀ i, i < 102 → 6 * (zgR G + 1) ≤ i → k i = 0
theorem m_isNext {G : ZGT} {u : SM} (h : ZGM G u) {kd st : Nat} (hk : kd < 3) (hs : st < 200) (c : Bool) (h1 : zhi G (mK kd u st)) (h2 : zhi G (u.2.1 45)) : Ev ZR mX12_isNext [.ref 0, .int (nI kd), .int (nI st), .int (bI c)] u (some (.int (bI (zcB (if c = true then zco (mK kd u st) (u.2.1 45) else ∀ i, i < 102 → mK kd u st i = u.2.1 45 i))))) u := by
  have hb := h.b
  have hrow := mrow_lt hk hs
  refine EQ_ev (EQ_V vX12_isNext rfl ?_)
  refine RQ_n ZR_ok 2 rfl trivial ?_
  refine RQ_s vX12_rowOf (e_rowOf u kd st) rfl k12_352 rfl rfl rfl rfl ?_
  refine RQ_n ZR_ok 3 rfl trivial ?_
  have e6 : (6 : Int32) * (u.1 15 + 1) = nI (6 * (zgR G + 1)) := by rw [h.R, nI_1, show (6 : Int32) = nI 6 from rfl, nI_mul]
  refine loopU (6 * (zgR G + 1)) (fun i (_ : Unit) => [some (.ref 0), some (.int (nI kd)), some (.int (nI st)), some (.int (bI c)), some (.int (nI (mrow kd st))), some (.int (nI i)), none]) (fun i _ v => v = u ∧ ∀ j, j < i → if c = true then (mK kd u st j = 0 ↔ u.2.1 45 j = 0) else mK kd u st j = u.2.1 45 j) ?_ 0 () u (by omega) ⟨rfl, fun j hj => by omega⟩
  intro i _ v hi hJ ih
  obtain ⟨rfl, he⟩ := hJ
  refine RQ_n ZR_ok 7 rfl trivial ?_
  refine RQ_b rfl (fun q => ?_) (fun q => ?_)
  · have q := (zq_le e6 rfl (by omega) (by omega)).mp q
    refine RQ_n ZR_ok 1 rfl trivial ?_
    refine RQ_to (Rn_zret rfl rfl (Or.inr rfl)) ⟨?_, rfl⟩
    have hall : if c = true then zco (mK kd v st) (v.2.1 45) else ∀ i, i < 102 → mK kd v st i = v.2.1 45 i := by
      cases c with
      | true =>
        rw [if_pos rfl]
        intro j hj
        by_cases z : j < 6 * (zgR G + 1)
        · have := he j (by omega); rw [if_pos rfl] at this; exact this
        · rw [h1 j hj (by omega), h2 j hj (by omega)]
      | false =>
        rw [if_neg (by decide)]
        intro j hj
        by_cases z : j < 6 * (zgR G + 1)
        · have := he j (by omega); rw [if_neg (by decide)] at this; exact this
        · rw [h1 j hj (by omega), h2 j hj (by omega)]
    rw [zcB_t hall]; rfl
  have q := (not_congr (zq_le e6 rfl (by omega) (by omega))).mp q
  have hrc : nI (mrow kd st) + nI i = nI (mrow kd st + i) := nI_add _ _
  have hin38 : vp_in (nI (mrow kd st + i)) 61200 := nI_in (by omega) (by omega)
  have hic : (nI (mrow kd st + i)).toNatClampNeg = mrow kd st + i := nI_clamp (by omega)
  have hin45 : vp_in (nI i) 102 := nI_in (by omega) (by omega)
  have hi45 : (nI i).toNatClampNeg = i := nI_clamp (by omega)
  have fin : ∀ g : Bool, (g = true ↔ if c = true then (mK kd v st i = 0 ↔ v.2.1 45 i = 0) else mK kd v st i = v.2.1 45 i) → RnQ ZR mX12_isNext (97, [some (.ref 0), some (.int (nI kd)), some (.int (nI st)), some (.int (bI c)), some (.int (nI (mrow kd st))), some (.int (nI i)), none], [.int (bI g)], v) (fun r w => r = some (.int (bI (zcB (if c = true then zco (mK kd v st) (v.2.1 45) else ∀ i, i < 102 → mK kd v st i = v.2.1 45 i)))) ∧ w = v) := by
    intro g hg
    refine RQ_n ZR_ok 2 rfl trivial ?_
    refine RQ_b rfl (fun z => ?_) (fun z => ?_)
    · have z := bI_t z
      refine RQ_n ZR_ok 2 rfl trivial ?_
      refine ih (by omega) () _ _ ⟨rfl, rfl, rfl, rfl, rfl, nIs i, trivial⟩ ⟨rfl, fun j hj => ?_⟩
      by_cases y : j = i
      · subst y; exact hg.mp z
      · exact he j (by omega)
    · have z := bI_0.mp (Classical.not_not.mp z)
      refine RQ_n ZR_ok 1 rfl trivial ?_
      refine RQ_to (Rn_zret rfl rfl (Or.inl rfl)) ⟨?_, rfl⟩
      have hno : ¬ (if c = true then zco (mK kd v st) (v.2.1 45) else ∀ i, i < 102 → mK kd v st i = v.2.1 45 i) := by
        intro y
        have hgt : g = true := by
          rw [hg]
          cases c with
          | true => rw [if_pos rfl] at y ⊢; exact y i (by omega)
          | false => rw [if_neg (by decide)] at y ⊢; exact y i (by omega)
        rw [z] at hgt; cases hgt
      rw [zcB_f hno]; rfl
  refine RQ_n ZR_ok 1 rfl trivial ?_
  cases c with
  | false =>
    refine RQ_b rfl (fun _ => ?_) (fun z => absurd rfl z)
    refine RQ_n ZR_ok 5 rfl trivial ?_
    rw [hrc]
    refine RQ_n ZR_ok 5 rfl ⟨hin38, hin45, trivial⟩ ?_
    rw [hic, hi45]
    refine RQ_b rfl (fun z => ?_) (fun z => ?_)
    · refine RQ_n ZR_ok 1 rfl trivial ?_
      exact fin false ⟨fun y => (by cases y), fun y => (by rw [if_neg (by decide)] at y; exact absurd y z)⟩
    · refine RQ_n ZR_ok 2 rfl trivial ?_
      exact fin true ⟨fun _ => (by rw [if_neg (by decide)]; exact Classical.not_not.mp z), fun _ => rfl⟩
  | true =>
    refine RQ_b rfl (fun z => absurd z (by show ¬ ((1 : Int32) = 0); decide)) (fun _ => ?_)
    refine RQ_n ZR_ok 5 rfl trivial ?_
    rw [hrc]
    refine RQ_n ZR_ok 1 rfl ⟨hin38, trivial⟩ ?_
    rw [hic]
    have two : ∀ (g : Bool), (g = true ↔ mK kd v st i = 0) → RnQ ZR mX12_isNext (46, [some (.ref 0), some (.int (nI kd)), some (.int (nI st)), some (.int (bI true)), some (.int (nI (mrow kd st))), some (.int (nI i)), none], [.int (bI g)], v) (fun r w => r = some (.int (bI (zcB (if true = true then zco (mK kd v st) (v.2.1 45) else ∀ i, i < 102 → mK kd v st i = v.2.1 45 i)))) ∧ w = v) := by
      intro g hg
      refine RQ_n ZR_ok 4 rfl ⟨hin45, trivial⟩ ?_
      rw [hi45]
      have three : ∀ (g' : Bool), (g' = true ↔ v.2.1 45 i = 0) → RnQ ZR mX12_isNext (61, [some (.ref 0), some (.int (nI kd)), some (.int (nI st)), some (.int (bI true)), some (.int (nI (mrow kd st))), some (.int (nI i)), none], [.int (bI g'), .int (bI g)], v) (fun r w => r = some (.int (bI (zcB (if true = true then zco (mK kd v st) (v.2.1 45) else ∀ i, i < 102 → mK kd v st i = v.2.1 45 i)))) ∧ w = v) := by
        intro g' hg'
        have hbi : ∀ x y : Bool, bI x = bI y ↔ x = y := by decide
        refine RQ_b rfl (fun z => ?_) (fun z => ?_)
        · have z : ¬ bI g = bI g' := z
          rw [hbi] at z
          refine RQ_n ZR_ok 2 rfl trivial ?_
          refine fin false ⟨fun y => (by cases y), fun y => ?_⟩
          rw [if_pos rfl, ← hg, ← hg'] at y
          exfalso
          apply z
          cases g with
          | true => exact (y.mp rfl).symm
          | false =>
            cases g' with
            | true => exact y.mpr rfl
            | false => rfl
        · have z : bI g = bI g' := Classical.not_not.mp z
          rw [hbi] at z
          refine RQ_n ZR_ok 2 rfl trivial ?_
          exact fin true ⟨fun _ => (by rw [if_pos rfl, ← hg, ← hg', z]), fun _ => rfl⟩
      refine RQ_b rfl (fun z => ?_) (fun z => ?_)
      · refine RQ_n ZR_ok 1 rfl trivial ?_
        exact three false ⟨fun y => (by cases y), fun y => absurd y z⟩
      · refine RQ_n ZR_ok 2 rfl trivial ?_
        exact three true ⟨fun _ => Classical.not_not.mp z, fun _ => rfl⟩
    refine RQ_b rfl (fun z => ?_) (fun z => ?_)
    · refine RQ_n ZR_ok 1 rfl trivial ?_
      exact two false ⟨fun y => (by cases y), fun y => absurd y z⟩
    · refine RQ_n ZR_ok 2 rfl trivial ?_
      exact two true ⟨fun _ => Classical.not_not.mp z, fun _ => rfl⟩
