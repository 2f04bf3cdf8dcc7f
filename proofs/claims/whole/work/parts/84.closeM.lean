/-! The reference: rows, letters behind dots, layClosure. -/
theorem e_itemAt (s : SM) (r d : Nat) : Ev ZR mX12_itemAt [.int (nI r), .int (nI d)] s (some (.int (nI (6 * r + d)))) s := by
  refine Ev_T vX12_itemAt rfl ?_
  refine Rn_n ZR_ok 5 rfl trivial ?_
  refine Rn_to (Rn_iret rfl rfl) ?_ rfl
  rw [show (6 : Int32) = nI 6 from rfl, nI_mul, nI_add]
def mrow (kd st : Nat) : Nat := 102 * (200 * kd + st)
theorem e_rowOf (s : SM) (kd st : Nat) : Ev ZR mX12_rowOf [.int (nI kd), .int (nI st)] s (some (.int (nI (mrow kd st)))) s := by
  refine Ev_T vX12_rowOf rfl ?_
  refine Rn_n ZR_ok 7 rfl trivial ?_
  refine Rn_to (Rn_iret rfl rfl) ?_ rfl
  rw [show (102 : Int32) = nI 102 from rfl, show (200 : Int32) = nI 200 from rfl, nI_mul, nI_add, nI_mul]
  rfl
theorem mrow_lt {kd st : Nat} (hk : kd < 3) (hs : st < 200) : mrow kd st + 102 ≤ 61200 := by unfold mrow; omega
theorem m_goesBy (s : SM) {kd st b : Nat} (hk : kd < 3) (hs : st < 200) (hb : b < 14) : Ev ZR mX12_goesBy [.ref 0, .int (nI kd), .int (nI st), .int (nI b)] s (some (.int (s.2.1 40 (14 * (200 * kd + st) + b)))) s := by
  have e1 : (14 : Int32) * (200 * nI kd + nI st) + nI b = nI (14 * (200 * kd + st) + b) := by rw [show (14 : Int32) = nI 14 from rfl, show (200 : Int32) = nI 200 from rfl, nI_mul, nI_add, nI_mul, nI_add]
  refine Ev_V vX12_goesBy rfl ?_
  refine Rn_n ZR_ok 12 rfl ⟨by rw [e1]; exact nI_in (by omega) (by omega), trivial⟩ ?_
  refine Rn_to (Rn_iret rfl rfl) ?_ rfl
  rw [e1, nI_clamp (by omega)]
/-- the letter behind an item's dot; -1: none -/
def zlb (G : ZGT) (i : Nat) : Int32 := if i % 6 < zgn G (i / 6) then nI (zlm (zgt G (i / 6) (i % 6))) else -1
theorem m_letterBehind {G : ZGT} {u : SM} (h : ZGM G u) {i : Nat} (hi : i / 6 ≤ zgR G) : Ev ZR mX12_letterBehind [.ref 0, .int (nI i)] u (some (.int (zlb G i))) u := by
  have hb := h.b
  have hi2 : i < 102 := by omega
  have hn := h.1.n hi
  have e1 : nI i / 6 = nI (i / 6) := pk_div (d := 6) (by omega) (by omega) (by omega)
  have e2 : nI i - nI i / 6 * 6 = nI (i % 6) := nI_rem (d := 6) (by omega) (by omega) (by omega)
  have hrc : (nI (i / 6)).toNatClampNeg = i / 6 := nI_clamp (by omega)
  have e3 : u.2.1 19 (nI (i / 6)).toNatClampNeg = nI (zgn G (i / 6)) := by rw [hrc]; exact h.n hi
  refine Ev_V vX12_letterBehind rfl ?_
  refine Rn_n ZR_ok 8 rfl ⟨by decide, by decide, trivial⟩ ?_
  rw [e2, e1]
  refine Rn_n ZR_ok 3 rfl trivial ?_
  refine Rn_b rfl (fun q => absurd ((zq_lt h.R rfl (by omega) (by omega)).mp q) (by omega)) (fun _ => ?_)
  refine Rn_n ZR_ok 5 rfl ⟨nI_in (by omega) (by omega), trivial⟩ ?_
  refine Rn_b rfl (fun q => ?_) (fun q => ?_)
  · have q := (zq_le e3 rfl (by omega) (by omega)).mp q
    refine Rn_n ZR_ok 1 rfl trivial ?_
    exact Rn_to (Rn_iret rfl rfl) (by rw [zlb, if_neg (by omega)]) rfl
  · have q := (not_congr (zq_le e3 rfl (by omega) (by omega))).mp q
    refine Rn_n ZR_ok 3 rfl trivial ?_
    refine Rn_V vX12_letterAt (m_letterAt h hi (by omega)) rfl k12_275 rfl rfl rfl rfl rfl ?_
    refine Rn_n ZR_ok 1 rfl trivial ?_
    exact Rn_to (Rn_iret rfl rfl) (by rw [zlb, if_pos (by omega)]) rfl
theorem m_byOf (u : SM) {l : Nat} (hl : l < 14) : Ev ZR mX12_byOf [.ref 0, .int (nI (zlm l))] u (some (.int (nI l))) u := by
  have hlm := zlm_lt hl
  refine Ev_V vX12_byOf rfl ?_
  refine Rn_n ZR_ok 2 rfl trivial ?_
  refine Rn_b rfl (fun q => ?_) (fun q => ?_)
  · have q := (zq_lt (a := zlm l) (b := 100) rfl rfl (by omega) (by omega)).mp q
    have h8 := not_congr (zlm_100 hl)
    refine Rn_n ZR_ok 1 rfl trivial ?_
    exact Rn_to (Rn_iret rfl rfl) (by rw [zlm_sg (by omega)]) rfl
  · have q := (not_congr (zq_lt (a := zlm l) (b := 100) rfl rfl (by omega) (by omega))).mp q
    have h8 : 8 ≤ l := (zlm_100 hl).mp (by omega)
    refine Rn_n ZR_ok 6 rfl trivial ?_
    refine Rn_to (Rn_iret rfl rfl) ?_ rfl
    rw [zlm_nm h8, show (8 : Int32) = nI 8 from rfl, nI_add, show (100 : Int32) = nI 100 from rfl, nI_sub (by omega)]
    congr 3
    omega
/-- bits in many sets -/
def ctn (C : Nat → Int32) : Nat → Nat
  | 0 => 0
  | n + 1 => ctn C n + ctI (C n) 32
theorem ctn_le (C : Nat → Int32) : ∀ n, ctn C n ≤ 32 * n
  | 0 => Nat.le_refl _
  | n + 1 => by have h1 := ctn_le C n; have h2 := ctI_le (C n) 32; rw [ctn]; omega
theorem ctn_up {C C' : Nat → Int32} : ∀ n, (∀ i, i < n → bsub (C i) (C' i)) → ctn C n ≤ ctn C' n
  | 0, _ => Nat.le_refl _
  | n + 1, h => by have h1 := ctn_up n (fun i hi => h i (by omega)); have h2 := ctI_up (h n (by omega)); rw [ctn, ctn]; omega
theorem ctn_lt {C C' : Nat → Int32} : ∀ n, (∀ i, i < n → bsub (C i) (C' i)) → (∃ i, i < n ∧ C i ≠ C' i) → ctn C n < ctn C' n
  | 0, _, h => by obtain ⟨i, hi, -⟩ := h; omega
  | n + 1, h, hx => by
    obtain ⟨i, hi, hne⟩ := hx
    rw [ctn, ctn]
    by_cases z : i = n
    · subst z
      have h1 := ctn_up i (fun j hj => h j (by omega))
      have h2 := ctI_ne (h i (by omega)) hne
      omega
    · have h1 := ctn_lt n (fun j hj => h j (by omega)) ⟨i, by omega, hne⟩
      have h2 := ctI_up (h n (by omega))
      omega
theorem ctn_cg {C C' : Nat → Int32} {n : Nat} (h : ∀ i, i < n → C i = C' i) : ctn C n = ctn C' n := Nat.le_antisymm (ctn_up n (fun i hi => by rw [h i hi]; exact bsub_rf)) (ctn_up n (fun i hi => by rw [h i hi]; exact bsub_rf))
/-- is an item closed, by the rules below q -/
def zcI (G : ZGT) (E : Int32) (F C : Nat → Int32) (i q : Nat) : Prop := i % 6 < zgn G (i / 6) → 8 ≤ zgt G (i / 6) (i % 6) → C i ≠ 0 → ∀ x, x < q → zgi G x = true → zgl G x = zgt G (i / 6) (i % 6) - 8 → bsub (zLB G E F (i / 6) (i % 6 + 1) (C i)) (C (6 * x))
theorem zcI_C {G : ZGT} (hG : GW G) {E : Int32} {F k C : Nat → Int32} (h1 : ∀ i, i < 102 → bsub (k i) (C i)) (h2 : ∀ i, i < 6 * (zgR G + 1) → zcI G E F C i (zgR G)) : zcC G E F k C := by
  refine ⟨h1, fun r hr d hd h8 hne q hq hin hl => ?_⟩
  have hn := hG.n hr
  have := h2 (6 * r + d) (by omega)
  unfold zcI at this
  rw [show (6 * r + d) / 6 = r by omega, show (6 * r + d) % 6 = d by omega] at this
  exact this hd h8 hne q hq hin hl
/-- a row of closures of the reference -/
def mC (row : Nat) (v : SM) (i : Nat) : Int32 := v.2.1 39 (row + i)
def lcJ (G : ZGT) (E : Int32) (F k C0 : Nat → Int32) (row : Nat) (u : SM) (b : Bool) (i q : Nat) (v : SM) : Prop :=
  (frM [] [39] u v ∧ ∀ j, (j < row ∨ row + 102 ≤ j) → v.2.1 39 j = u.2.1 39 j) ∧ (∀ j, j < 102 → bsub (C0 j) (mC row v j)) ∧ (∀ C', zcC G E F k C' → ∀ j, j < 102 → bsub (mC row v j) (C' j)) ∧ (b = true → ∃ j, j < 102 ∧ C0 j ≠ mC row v j) ∧ (b = false → (∀ j, j < 102 → mC row v j = C0 j) ∧ (∀ j, j < i → zcI G E F C0 j (zgR G)) ∧ zcI G E F C0 i q)
set_option maxHeartbeats 2000000 in
theorem m_layClosure {G : ZGT} {u : SM} (h : ZGM G u) {kd st : Nat} (hk : kd < 3) (hs : st < 200) : EvQ ZR mX12_layClosure [.ref 0, .int (nI kd), .int (nI st)] u (fun x v => x = none ∧ zlC G (u.1 25) (u.2.1 26) (fun i => u.2.1 38 (mrow kd st + i)) (mC (mrow kd st) v) ∧ (∀ j, (j < mrow kd st ∨ mrow kd st + 102 ≤ j) → v.2.1 39 j = u.2.1 39 j) ∧ frM [] [39] u v) := by
  have hb := h.b
  have hrow := mrow_lt hk hs
  obtain ⟨row, hrw⟩ : ∃ row, row = mrow kd st := ⟨_, rfl⟩
  rw [← hrw] at hrow ⊢
  obtain ⟨E, hE⟩ : ∃ E, E = u.1 25 := ⟨_, rfl⟩
  obtain ⟨F, hF⟩ : ∃ F, F = u.2.1 26 := ⟨_, rfl⟩
  obtain ⟨k, hkd⟩ : ∃ k : Nat → Int32, k = fun i => u.2.1 38 (row + i) := ⟨_, rfl⟩
  rw [← hE, ← hF, ← hkd]
  refine EQ_V vX12_layClosure rfl ?_
  refine RQ_n ZR_ok 2 rfl trivial ?_
  refine RQ_s vX12_rowOf (e_rowOf u kd st) rfl k12_352 rfl rfl rfl rfl ?_
  rw [← hrw]
  refine RQ_n ZR_ok 3 rfl trivial ?_
  -- the closing
  have second : ∀ v : SM, frM [] [39] u v → (∀ j, (j < row ∨ row + 102 ≤ j) → v.2.1 39 j = u.2.1 39 j) → (∀ j, j < 102 → mC row v j = k j) → RnQ ZR mX12_layClosure (40, [some (.ref 0), some (.int (nI kd)), some (.int (nI st)), some (.int (nI row)), none, none, none, none, none, none], [], v) (fun x v => x = none ∧ zlC G E F k (mC row v) ∧ (∀ j, (j < row ∨ row + 102 ≤ j) → v.2.1 39 j = u.2.1 39 j) ∧ frM [] [39] u v) := by
    intro v hf ho hv
    refine RQ_n ZR_ok 2 rfl trivial ?_
    refine loopD (fun (b : Bool) => [some (.ref 0), some (.int (nI kd)), some (.int (nI st)), some (.int (nI row)), some (.int (bI b)), none, none, none, none, none]) (fun m b v => m + ctn (mC row v) 102 = 3264 + (if b = true then 1 else 0) ∧ (frM [] [39] u v ∧ ∀ j, (j < row ∨ row + 102 ≤ j) → v.2.1 39 j = u.2.1 39 j) ∧ (∀ j, j < 102 → bsub (k j) (mC row v j)) ∧ (∀ C', zcC G E F k C' → ∀ j, j < 102 → bsub (mC row v j) (C' j)) ∧ (b = false → zcC G E F k (mC row v))) ?_ (3265 - ctn (mC row v) 102) true v ⟨by have := ctn_le (mC row v) 102; rw [if_pos rfl]; omega, ⟨hf, ho⟩, fun j hj => (by rw [hv j hj]; exact bsub_rf), fun C' hC' j hj => (by rw [hv j hj]; exact hC'.1 j hj), fun z => by cases z⟩
    intro m b v hJ ih
    obtain ⟨c0, ⟨c1, c2⟩, c3, c4, c5⟩ := hJ
    refine RQ_n ZR_ok 1 rfl trivial ?_
    refine RQ_b rfl (fun q => ?_) (fun q => ?_)
    · have q := bI_0.mp q
      exact RQ_to (Rn_vret rfl rfl) ⟨rfl, ⟨c5 q, c4⟩, c2, c1⟩
    have q := bI_t q
    rw [q, if_pos rfl] at c0
    obtain ⟨C0, hC0⟩ : ∃ C0, C0 = mC row v := ⟨_, rfl⟩
    have hct := ctn_le (mC row v) 102
    refine RQ_n ZR_ok 4 rfl trivial ?_
    refine loopU (6 * (zgR G + 1)) (fun i (b : Bool) => [some (.ref 0), some (.int (nI kd)), some (.int (nI st)), some (.int (nI row)), some (.int (bI b)), some (.int (nI i)), none, none, none, none]) (fun i b w => lcJ G E F k C0 row u b i 0 w) ?_ 0 false v (by omega) ⟨⟨c1, c2⟩, fun j _ => (by rw [hC0]; exact bsub_rf), c4, fun z => (by cases z), fun _ => ⟨fun j _ => (by rw [hC0]), fun j hj => (by omega), fun _ _ _ x hx => (by omega)⟩⟩
    intro i b w hi hJ2 ih2
    have hw : ZGM G w := h.fr hJ2.1.1 (by decide)
    have e6 : (6 : Int32) * (w.1 15 + 1) = nI (6 * (zgR G + 1)) := by rw [hw.R, nI_1, show (6 : Int32) = nI 6 from rfl, nI_mul]
    refine RQ_n ZR_ok 7 rfl trivial ?_
    refine RQ_b rfl (fun q2 => ?_) (fun q2 => ?_)
    · have q2 := (zq_le e6 rfl (by omega) (by omega)).mp q2
      have : i = 6 * (zgR G + 1) := by omega
      subst this
      obtain ⟨⟨d1, d2⟩, d3, d4, d5, d6⟩ := hJ2
      refine RQ_n ZR_ok 1 rfl trivial ?_
      have hct2 := ctn_le (mC row w) 102
      cases b with
      | true =>
        have hlt := ctn_lt 102 d3 (d5 rfl)
        rw [hC0] at hlt
        refine ih (3265 - ctn (mC row w) 102) true _ _ (by omega) ⟨rfl, rfl, rfl, rfl, rfl, trivial⟩ ⟨by rw [if_pos rfl]; omega, ⟨d1, d2⟩, fun j hj => bsub_tr (c3 j hj) (by rw [← hC0]; exact d3 j hj), d4, fun z => by cases z⟩
      | false =>
        obtain ⟨e1, e2, -⟩ := d6 rfl
        have hcg : ctn (mC row w) 102 = ctn (mC row v) 102 := by rw [← hC0]; exact ctn_cg e1
        refine ih (3264 - ctn (mC row w) 102) false _ _ (by omega) ⟨rfl, rfl, rfl, rfl, rfl, trivial⟩ ⟨by rw [if_neg (by decide)]; omega, ⟨d1, d2⟩, fun j hj => bsub_tr (c3 j hj) (by rw [← hC0]; exact d3 j hj), d4, fun _ => ?_⟩
        have hcl : zcC G E F k C0 := zcI_C h.1 (by rw [hC0]; exact c3) (fun j hj => e2 j hj)
        refine ⟨fun j hj => by rw [e1 j hj]; exact hcl.1 j hj, fun r hr d hd h8 hne q hq hin hl => ?_⟩
        have hn := h.1.n hr
        rw [e1 _ (by omega)] at hne ⊢
        rw [e1 _ (by omega)]
        exact hcl.2 r hr d hd h8 hne q hq hin hl
    have q2 := (not_congr (zq_le e6 rfl (by omega) (by omega))).mp q2
    have hi2 : i < 6 * (zgR G + 1) := by omega
    have hir : i / 6 ≤ zgR G := by omega
    have hn := h.1.n hir
    have hrc : nI row + nI i = nI (row + i) := nI_add _ _
    have hin39 : vp_in (nI (row + i)) 61200 := nI_in (by omega) (by omega)
    have hic : (nI (row + i)).toNatClampNeg = row + i := nI_clamp (by omega)
    -- an item is done with
    have skip : ∀ (b : Bool) (w : SM) (o6 o7 o8 o9 : Option Value), lcJ G E F k C0 row u b i (zgR G) w → RnQ ZR mX12_layClosure (243, [some (.ref 0), some (.int (nI kd)), some (.int (nI st)), some (.int (nI row)), some (.int (bI b)), some (.int (nI i)), o6, o7, o8, o9], [], w) (fun x v => x = none ∧ zlC G E F k (mC row v) ∧ (∀ j, (j < row ∨ row + 102 ≤ j) → v.2.1 39 j = u.2.1 39 j) ∧ frM [] [39] u v) := by
      intro b w o6 o7 o8 o9 hJ3
      obtain ⟨d1, d3, d4, d5, d6⟩ := hJ3
      refine RQ_n ZR_ok 2 rfl trivial ?_
      refine ih2 hi2 b _ _ ⟨rfl, rfl, rfl, rfl, rfl, nIs i, trivial⟩ ⟨d1, d3, d4, d5, fun z => ?_⟩
      obtain ⟨e1, e2, e3⟩ := d6 z
      refine ⟨e1, fun j hj => ?_, fun _ _ _ x hx => by omega⟩
      by_cases y : j = i
      · subst y; exact e3
      · exact e2 j (by omega)
    -- with the letter
    have inner : ∀ (x : Int32), (x = -1 ∧ (mC row w i = 0 ∨ ¬ i % 6 < zgn G (i / 6)) ∨ (i % 6 < zgn G (i / 6) ∧ mC row w i ≠ 0 ∧ x = nI (zlm (zgt G (i / 6) (i % 6))))) → RnQ ZR mX12_layClosure (90, [some (.ref 0), some (.int (nI kd)), some (.int (nI st)), some (.int (nI row)), some (.int (bI b)), some (.int (nI i)), none, none, none, none], [.int x], w) (fun x v => x = none ∧ zlC G E F k (mC row v) ∧ (∀ j, (j < row ∨ row + 102 ≤ j) → v.2.1 39 j = u.2.1 39 j) ∧ frM [] [39] u v) := by
      intro x hx
      refine RQ_n ZR_ok 3 rfl trivial ?_
      by_cases hnm : i % 6 < zgn G (i / 6) ∧ mC row w i ≠ 0 ∧ 8 ≤ zgt G (i / 6) (i % 6)
      · obtain ⟨hd, hne, h8⟩ := hnm
        have ht := h.1.t hir hd
        have hx2 : x = nI (zlm (zgt G (i / 6) (i % 6))) := by
          rcases hx with ⟨-, hx | hx⟩ | hx
          · exact absurd hx hne
          · exact absurd hd hx
          · exact hx.2.2
        obtain ⟨n, hn8⟩ : ∃ n, zgt G (i / 6) (i % 6) = 8 + n := ⟨zgt G (i / 6) (i % 6) - 8, by omega⟩
        have hxn : x = nI (100 + n) := by rw [hx2, zlm_nm h8, hn8, Nat.add_sub_cancel_left]
        subst hxn
        have hn6 : n < 6 := by omega
        refine loopU (zgR G) (fun q (b : Bool) => [some (.ref 0), some (.int (nI kd)), some (.int (nI st)), some (.int (nI row)), some (.int (bI b)), some (.int (nI i)), some (.int (nI (100 + n))), some (.int (nI q)), none, none]) (fun q b w => lcJ G E F k C0 row u b i q w ∧ mC row w i ≠ 0) ?_ 0 b w (by omega) ⟨hJ2, hne⟩
        intro q b w hq hJ3 ih3
        obtain ⟨hJ3, hne⟩ := hJ3
        obtain ⟨⟨d1, d2⟩, d3, d4, d5, d6⟩ := hJ3
        have hwX : ZGM G w := h.fr d1 (by decide)
        refine RQ_n ZR_ok 3 rfl trivial ?_
        refine RQ_b rfl (fun q3 => ?_) (fun q3 => ?_)
        · have q3 := (zq_le hwX.R rfl (by omega) (by omega)).mp q3
          have : q = zgR G := by omega
          subst this
          exact skip b w _ _ _ _ ⟨⟨d1, d2⟩, d3, d4, d5, d6⟩
        have q3 := (not_congr (zq_le hwX.R rfl (by omega) (by omega))).mp q3
        have hqR : q < zgR G := by omega
        have hl6 := h.1.l hqR
        refine RQ_n ZR_ok 2 rfl trivial ?_
        refine RQ_b rfl (fun q4 => absurd ((zq_lt (a := 100 + n) (b := 100) rfl rfl (by omega) (by omega)).mp q4) (by omega)) (fun _ => ?_)
        have pass : (zgi G q = true → zgl G q ≠ n) → ∀ o8 o9, RnQ ZR mX12_layClosure (237, [some (.ref 0), some (.int (nI kd)), some (.int (nI st)), some (.int (nI row)), some (.int (bI b)), some (.int (nI i)), some (.int (nI (100 + n))), some (.int (nI q)), o8, o9], [], w) (fun x v => x = none ∧ zlC G E F k (mC row v) ∧ (∀ j, (j < row ∨ row + 102 ≤ j) → v.2.1 39 j = u.2.1 39 j) ∧ frM [] [39] u v) := by
          intro hp o8 o9
          refine RQ_n ZR_ok 2 rfl trivial ?_
          refine ih3 hqR b _ _ ⟨rfl, rfl, rfl, rfl, rfl, rfl, rfl, nIs q, trivial⟩ ⟨⟨⟨d1, d2⟩, d3, d4, d5, fun z => ?_⟩, hne⟩
          obtain ⟨e1, e2, e3⟩ := d6 z
          refine ⟨e1, e2, fun a1 a2 a3 x hx a4 a5 => ?_⟩
          by_cases y : x = q
          · subst y
            rw [hn8, Nat.add_sub_cancel_left] at a5
            exact absurd a5 (hp a4)
          · exact e3 a1 a2 a3 x (by omega) a4 a5
        refine RQ_n ZR_ok 2 rfl trivial ?_
        refine RQ_v vX12_isIn (m_isIn hwX hqR) rfl k12_269 rfl rfl rfl rfl rfl ?_
        refine RQ_b rfl (fun q5 => ?_) (fun q5 => ?_)
        · exact pass (fun z => by rw [bI_0.mp q5] at z; cases z) _ _
        have q5 := bI_t q5
        have e18 : w.2.1 18 (nI q).toNatClampNeg = nI (zgl G q) := by rw [nI_clamp (by omega)]; exact hwX.l hqR
        have e100 : nI (100 + n) - 100 = nI n := by rw [show (100 : Int32) = nI 100 from rfl, nI_sub (by omega), Nat.add_sub_cancel_left]
        refine RQ_n ZR_ok 7 rfl ⟨nI_in (by omega) (by omega), trivial⟩ ?_
        refine RQ_b rfl (fun q6 => ?_) (fun q6 => ?_)
        · have q6 := (not_congr (zq_eq e18 e100 (by omega) (by omega))).mp q6
          exact pass (fun _ => q6) _ _
        have q6 := (zq_eq e18 e100 (by omega) (by omega)).mp (Classical.not_not.mp q6)
        refine RQ_n ZR_ok 3 rfl trivial ?_
        refine RQ_s vX12_itemAt (e_itemAt w q 0) rfl k12_358 rfl rfl rfl rfl ?_
        rw [Nat.add_zero (6 * q)]
        have eto : nI row + nI (6 * q) = nI (row + 6 * q) := nI_add _ _
        have hto : vp_in (nI (row + 6 * q)) 61200 := nI_in (by omega) (by omega)
        have htc : (nI (row + 6 * q)).toNatClampNeg = row + 6 * q := nI_clamp (by omega)
        refine RQ_n ZR_ok 1 rfl trivial ?_
        rw [eto]
        have ed : nI i / 6 = nI (i / 6) := pk_div (d := 6) (by omega) (by omega) (by omega)
        have em : nI i - nI i / 6 * 6 = nI (i % 6) := nI_rem (d := 6) (by omega) (by omega) (by omega)
        refine RQ_n ZR_ok 20 rfl ⟨hto, hto, by decide, by decide, trivial⟩ ?_
        rw [em, ed, htc, nI_1]
        have ew25 : w.1 25 = E := by rw [d1.1 25 (by decide), hE]
        have ew26 : w.2.1 26 = F := by rw [d1.2.1 26 (by decide), hF]
        have hff := m_firstFrom hwX (r := i / 6) (i := i % 6 + 1) hir (by omega)
        rw [ew25, ew26] at hff
        refine RQ_v vX12_firstFrom hff rfl k12_297 rfl rfl rfl rfl rfl ?_
        refine RQ_n ZR_ok 9 rfl ⟨by decide, by decide, trivial⟩ ?_
        rw [em, ed, nI_1]
        have hae := m_isEmptyFrom hwX (r := i / 6) (i := i % 6 + 1) hir (by omega)
        rw [ew25] at hae
        refine RQ_v vX12_isEmptyFrom hae rfl k12_294 rfl rfl rfl rfl rfl ?_
        obtain ⟨y, hy⟩ : ∃ y, y = zLB G E F (i / 6) (i % 6 + 1) (mC row w i) := ⟨_, rfl⟩
        obtain ⟨w', hw'⟩ : ∃ w' : SM, w' = (w.1, updA w.2.1 39 (row + 6 * q) (w.2.1 39 (row + 6 * q) ||| y), w.2.2) := ⟨_, rfl⟩
        have hwf : frM [] [39] w w' := by rw [hw']; exact frM.a 39 (by decide)
        have h39 : w'.2.1 39 = upd (w.2.1 39) (row + 6 * q) (w.2.1 39 (row + 6 * q) ||| y) := by rw [hw']; rfl
        have hmc : ∀ j, mC row w' j = if j = 6 * q then mC row w (6 * q) ||| y else mC row w j := by
          intro j
          show w'.2.1 39 (row + j) = _
          rw [h39]
          by_cases z : j = 6 * q
          · subst z; rw [upd_at, if_pos rfl]; rfl
          · rw [upd_ne (by omega), if_neg z]; rfl
        have hup : ∀ j, j < 102 → bsub (mC row w j) (mC row w' j) := by
          intro j _
          rw [hmc]
          by_cases z : j = 6 * q
          · subst z; rw [if_pos rfl]; exact bsub_l
          · rw [if_neg z]; exact bsub_rf
        have fin : ∀ g : Bool, (g = true → b = true ∨ w.2.1 39 (row + 6 * q) ≠ w'.2.1 39 (row + 6 * q)) → (g = false → b = false ∧ w.2.1 39 (row + 6 * q) = w'.2.1 39 (row + 6 * q)) → RnQ ZR mX12_layClosure (235, [some (.ref 0), some (.int (nI kd)), some (.int (nI st)), some (.int (nI row)), some (.int (bI b)), some (.int (nI i)), some (.int (nI (100 + n))), some (.int (nI q)), some (.int (nI (row + 6 * q))), some (.int (w.2.1 39 (row + 6 * q)))], [.int (bI g)], w') (fun x v => x = none ∧ zlC G E F k (mC row v) ∧ (∀ j, (j < row ∨ row + 102 ≤ j) → v.2.1 39 j = u.2.1 39 j) ∧ frM [] [39] u v) := by
          intro g hg1 hg2
          refine RQ_n ZR_ok 3 rfl trivial ?_
          refine ih3 hqR g _ _ ⟨rfl, rfl, rfl, rfl, rfl, rfl, rfl, nIs q, trivial⟩ ⟨⟨⟨d1.tr hwf, fun j hj => ?_⟩, fun j hj => bsub_tr (d3 j hj) (hup j hj), fun C' hC' j hj => ?_, fun z => ?_, fun z => ?_⟩, bsub_ne (hup i (by omega)) hne⟩
          · rw [h39, upd_ne (by omega)]; exact d2 j hj
          · rw [hmc]
            by_cases z : j = 6 * q
            · subst z
              rw [if_pos rfl]
              refine bsub_or (d4 C' hC' _ hj) ?_
              have hci := d4 C' hC' i (by omega)
              have := hC'.2 (i / 6) hir (i % 6) hd h8 (by rw [show 6 * (i / 6) + i % 6 = i by omega]; exact bsub_ne hci hne) q hqR q5 (by rw [hn8, Nat.add_sub_cancel_left]; exact q6)
              rw [show 6 * (i / 6) + i % 6 = i by omega] at this
              rw [hy]
              exact bsub_tr (zLB_mo hci) this
            · rw [if_neg z]; exact d4 C' hC' j hj
          · rcases hg1 z with c | c
            · obtain ⟨j, hj, hne2⟩ := d5 c
              refine ⟨j, hj, fun y1 => hne2 (bsub_an (d3 j hj) ?_)⟩
              rw [y1]; exact hup j hj
            · refine ⟨6 * q, by omega, fun y1 => c (bsub_an (hup (6 * q) (by omega)) ?_)⟩
              show bsub (mC row w' (6 * q)) (mC row w (6 * q))
              rw [← y1]
              exact d3 _ (by omega)
          · obtain ⟨f1, f2⟩ := hg2 z
            obtain ⟨e1, e2, e3⟩ := d6 f1
            have hq2 : mC row w' (6 * q) = mC row w (6 * q) := f2.symm
            refine ⟨fun j hj => ?_, e2, fun a1 a2 a3 x hx a4 a5 => ?_⟩
            · rw [← e1 j hj, hmc]
              by_cases z : j = 6 * q
              · subst z
                rw [if_pos rfl]
                rw [hmc, if_pos rfl] at hq2
                exact hq2
              · rw [if_neg z]
            · by_cases y1 : x = q
              · subst y1
                rw [hmc, if_pos rfl] at hq2
                rw [← e1 i (by omega), ← hy, ← e1 (6 * x) (by omega), ← hq2]
                exact bsub_r
              · exact e3 a1 a2 a3 x (by omega) a4 a5
        have body : RnQ ZR mX12_layClosure (212, [some (.ref 0), some (.int (nI kd)), some (.int (nI st)), some (.int (nI row)), some (.int (bI b)), some (.int (nI i)), some (.int (nI (100 + n))), some (.int (nI q)), some (.int (nI (row + 6 * q))), some (.int (w.2.1 39 (row + 6 * q)))], [.int (w.2.1 39 (row + 6 * q) ||| y), .int (nI (row + 6 * q)), .ref 23], w) (fun x v => x = none ∧ zlC G E F k (mC row v) ∧ (∀ j, (j < row ∨ row + 102 ≤ j) → v.2.1 39 j = u.2.1 39 j) ∧ frM [] [39] u v) := by
          refine RQ_n ZR_ok 2 rfl ⟨hto, trivial⟩ ?_
          rw [htc, ← hw']
          refine RQ_b rfl (fun q7 => ?_) (fun q7 => ?_)
          · refine RQ_n ZR_ok 2 rfl trivial ?_
            exact fin true (fun _ => Or.inl (bI_t q7)) (fun z => by cases z)
          have q7 := bI_0.mp (Classical.not_not.mp q7)
          refine RQ_n ZR_ok 5 rfl ⟨hto, trivial⟩ ?_
          rw [htc]
          refine RQ_b rfl (fun q8 => ?_) (fun q8 => ?_)
          · refine RQ_n ZR_ok 1 rfl trivial ?_
            exact fin false (fun z => by cases z) (fun _ => ⟨q7, q8⟩)
          · refine RQ_n ZR_ok 2 rfl trivial ?_
            exact fin true (fun _ => Or.inr q8) (fun z => by cases z)
        refine RQ_b rfl (fun q7 => ?_) (fun q7 => ?_)
        · have q7 := bI_0.mp q7
          refine RQ_n ZR_ok 3 rfl trivial ?_
          rw [zLB, q7, if_neg (by decide)] at hy
          rw [hy] at body
          exact body
        · have q7 := bI_t q7
          refine RQ_n ZR_ok 4 rfl trivial ?_
          refine RQ_n ZR_ok 1 rfl trivial ?_
          rw [hrc]
          refine RQ_n ZR_ok 2 rfl ⟨hin39, trivial⟩ ?_
          rw [hic]
          refine RQ_n ZR_ok 2 rfl trivial ?_
          rw [zLB, q7, if_pos rfl] at hy
          rw [hy] at body
          exact body
      · -- no name
        have hJ4 : lcJ G E F k C0 row u b i (zgR G) w := by
          obtain ⟨d1, d3, d4, d5, d6⟩ := hJ2
          refine ⟨d1, d3, d4, d5, fun z => ?_⟩
          obtain ⟨e1, e2, e3⟩ := d6 z
          exact ⟨e1, e2, fun a1 a2 a3 => absurd ⟨a1, by rw [e1 i (by omega)]; exact a3, a2⟩ hnm⟩
        have hx100 : x < 100 := by
          rcases hx with ⟨rfl, -⟩ | ⟨hd, hne, rfl⟩
          · decide
          · have ht := h.1.t hir hd
            have h8 : zgt G (i / 6) (i % 6) < 8 := Nat.lt_of_not_le (fun z => hnm ⟨hd, hne, z⟩)
            rw [zlm_sg h8]
            exact nI_lt (b := 100) (by omega) (by omega)
        refine RQ_n ZR_ok 3 rfl trivial ?_
        refine RQ_b rfl (fun _ => skip b w _ _ _ _ hJ4) (fun _ => ?_)
        refine RQ_n ZR_ok 2 rfl trivial ?_
        exact RQ_b rfl (fun _ => skip b w _ _ _ _ hJ4) (fun z => absurd hx100 z)
    refine RQ_n ZR_ok 5 rfl trivial ?_
    rw [hrc]
    refine RQ_n ZR_ok 1 rfl ⟨hin39, trivial⟩ ?_
    rw [hic]
    refine RQ_b rfl (fun q3 => ?_) (fun q3 => ?_)
    · have q3 : ¬ mC row w i = 0 := q3
      refine RQ_n ZR_ok 2 rfl trivial ?_
      refine RQ_v vX12_letterBehind (m_letterBehind hw hir) rfl k12_355 rfl rfl rfl rfl rfl ?_
      refine inner _ ?_
      unfold zlb
      by_cases z : i % 6 < zgn G (i / 6)
      · rw [if_pos z]; exact Or.inr ⟨z, q3, rfl⟩
      · rw [if_neg z]; exact Or.inl ⟨rfl, Or.inr z⟩
    · have q3 : mC row w i = 0 := Classical.not_not.mp q3
      refine RQ_n ZR_ok 2 rfl trivial ?_
      exact inner _ (Or.inl ⟨rfl, Or.inl q3⟩)
  -- the kernel is taken over
  refine loopU 102 (fun i (_ : Unit) => [some (.ref 0), some (.int (nI kd)), some (.int (nI st)), some (.int (nI row)), some (.int (nI i)), none, none, none, none, none]) (fun i _ v => frM [] [39] u v ∧ (∀ j, (j < row ∨ row + 102 ≤ j) → v.2.1 39 j = u.2.1 39 j) ∧ ∀ j, j < i → mC row v j = k j) ?_ 0 () u (by omega) ⟨frM.rf, fun _ _ => rfl, fun j hj => by omega⟩
  intro i _ v hi hJ ih
  obtain ⟨g1, g2, g3⟩ := hJ
  refine RQ_n ZR_ok 2 rfl trivial ?_
  refine RQ_b rfl (fun q => ?_) (fun q => ?_)
  · have q := (zq_le (a := 102) (b := i) rfl rfl (by omega) (by omega)).mp q
    exact RQ_le (l' := [some (.ref 0), some (.int (nI kd)), some (.int (nI st)), some (.int (nI row)), none, none, none, none, none, none]) ⟨rfl, rfl, rfl, rfl, trivial⟩ (second v g1 g2 (fun j hj => g3 j (by omega)))
  have q := (not_congr (zq_le (a := 102) (b := i) rfl rfl (by omega) (by omega))).mp q
  have hrc : nI row + nI i = nI (row + i) := nI_add _ _
  have hic : (nI (row + i)).toNatClampNeg = row + i := nI_clamp (by omega)
  have hin39 : vp_in (nI row + nI i) 61200 := by rw [hrc]; exact nI_in (by omega) (by omega)
  refine RQ_n ZR_ok 14 rfl ⟨hin39, hin39, trivial⟩ ?_
  rw [hrc, hic]
  refine ih (by omega) () _ _ ⟨rfl, rfl, rfl, rfl, nIs i, trivial⟩ ⟨g1.tr (frM.a 39 (by decide)), fun j hj => ?_, fun j hj => ?_⟩
  · show upd (v.2.1 39) (row + i) (v.2.1 38 (row + i)) j = _
    rw [upd_ne (by omega)]; exact g2 j hj
  · show upd (v.2.1 39) (row + i) (v.2.1 38 (row + i)) (row + j) = _
    by_cases z : j = i
    · subst z; rw [upd_at, g1.2.1 38 (by decide), hkd]
    · rw [upd_ne (by omega)]; exact g3 j (by omega)
