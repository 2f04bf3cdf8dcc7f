/-! isClear, sorts: the reference. -/
theorem ctI_0 {x : Int32} : ∀ k, ctI x k = 0 → ∀ i, i < k → bt x i = false
  | 0, _, i, hi => by omega
  | k + 1, h, i, hi => by
    rw [ctI] at h
    by_cases y : i = k
    · subst y
      cases e : bt x i with
      | false => rfl
      | true => rw [e] at h; have h : ctI x i + 1 = 0 := h; omega
    · exact ctI_0 k (by omega) i (by omega)
theorem bitC_0 {x : Int32} : ctI x 32 = 0 ↔ x = 0 := by
  constructor
  · intro h
    exact b_ext (fun i hi => by rw [ctI_0 32 h i hi, b_0])
  · intro h
    have := ctI_sub (x := x) (y := 0) (k := 32) (fun i _ hb => by rw [h] at hb; exact hb)
    have e : ctI 0 32 = 0 := by decide
    omega
theorem zsm_nat {f : Nat → Int32} {a : Nat → Nat} : ∀ n, (∀ k, k < n → f k = nI (a k) ∧ a k ≤ 32) → ∃ t, zsm f n = nI t ∧ t ≤ 32 * n ∧ (t = 0 ↔ ∀ k, k < n → a k = 0)
  | 0, _ => ⟨0, rfl, by omega, fun _ k hk => by omega, fun _ => rfl⟩
  | n + 1, h => by
    obtain ⟨t, h1, h2, h3⟩ := zsm_nat n (fun k hk => h k (by omega))
    obtain ⟨g1, g2⟩ := h n (by omega)
    refine ⟨t + a n, by rw [zsm, h1, g1, nI_add], by omega, fun y k hk => ?_, fun y => ?_⟩
    · by_cases z : k = n
      · rw [z]; omega
      · exact h3.mp (by omega) k (by omega)
    · rw [h3.mpr (fun k hk => y k (by omega)), y n (by omega)]
/-- no state of it has a conflict -/
noncomputable def zcq (G : ZGT) (o : Option ZAS) : Bool := match o with
  | none => false
  | some A => zcB (∀ k, k < (zN A).1 → zck G (zcl G (zE0 G) (zF0 G) ((zN A).2.1 k)) ((zN A).2.2 k) (zgT G + 1) = 0)
theorem zsm_c0 {G : ZGT} {N : ZNM} {p : Int32} (hN : N.1 ≤ 200) : zsm (zcv G N p 0) N.1 = 0 ↔ ∀ k, k < N.1 → zck G (zcl G (zE0 G) (zF0 G) (N.2.1 k)) (N.2.2 k) (zgT G + 1) = 0 := by
  obtain ⟨t, h1, h2, h3⟩ := zsm_nat (f := zcv G N p 0) (a := fun k => ctI (zck G (zcl G (zE0 G) (zF0 G) (N.2.1 k)) (N.2.2 k) (zgT G + 1)) 32) N.1 (fun k _ => ⟨bitC_ct _, ctI_le _ 32⟩)
  rw [h1, show (nI t = 0) = (nI t = nI 0) from rfl, zq_eq (a := t) (b := 0) rfl rfl (by omega) (by omega), h3]
  exact ⟨fun y k hk => bitC_0.mp (y k hk), fun y k hk => bitC_0.mpr (y k hk)⟩
theorem zsm_c1 {G : ZGT} {N : ZNM} {p : Int32} (hN : N.1 ≤ 200) : zsm (zcv G N p 1) N.1 = 0 ↔ ∀ k, k < N.1 → zck G (zcl G (zE0 G) (zF0 G) (N.2.1 k)) (N.2.2 k) (zgT G + 1) = 0 := by
  obtain ⟨t, h1, h2, h3⟩ := zsm_nat (f := zcv G N p 1) (a := fun k => if decide (zck G (zcl G (zE0 G) (zF0 G) (N.2.1 k)) (N.2.2 k) (zgT G + 1) ≠ 0) = true then 1 else 0) N.1 (fun k _ => by
    show (if decide (zck G (zcl G (zE0 G) (zF0 G) (N.2.1 k)) (N.2.2 k) (zgT G + 1) ≠ 0) = true then (1 : Int32) else 0) = nI (if decide (zck G (zcl G (zE0 G) (zF0 G) (N.2.1 k)) (N.2.2 k) (zgT G + 1) ≠ 0) = true then 1 else 0) ∧ (if decide (zck G (zcl G (zE0 G) (zF0 G) (N.2.1 k)) (N.2.2 k) (zgT G + 1) ≠ 0) = true then 1 else 0) ≤ 32
    split
    · exact ⟨rfl, by omega⟩
    · exact ⟨rfl, by omega⟩)
  rw [h1, show (nI t = 0) = (nI t = nI 0) from rfl, zq_eq (a := t) (b := 0) rfl rfl (by omega) (by omega), h3]
  refine ⟨fun y k hk => ?_, fun y k hk => ?_⟩
  · have := y k hk
    split at this
    · omega
    · rename_i z
      rw [decide_eq_true_eq] at z
      exact Classical.not_not.mp z
  · show (if decide (zck G (zcl G (zE0 G) (zF0 G) (N.2.1 k)) (N.2.2 k) (zgT G + 1) ≠ 0) = true then 1 else 0) = 0
    rw [if_neg (by rw [decide_eq_true_eq]; exact fun q => q (y k hk))]
section MSo
variable {G : ZGT} {kd : Nat} {os : Nat → Option ZAS} {s : SM}
theorem m_isClear (hk3 : kd < 3) (hZ : ∀ kd, kd < 3 → ZAt G kd (os kd)) (h : RGr G os s) : EvQ ZR mX12_isClear [.ref 0, .int (nI kd)] s (rfQ G os s (bI (zcq G (os kd)))) := by
  refine EQ_V vX12_isClear rfl ?_
  refine RQ_n ZR_ok 2 rfl trivial ?_
  refine RQ_V vX12_isThere (m_isThere hk3 hZ h) rfl k12_424 rfl rfl rfl rfl (fun _ _ _ => rfl) (fun r1 v h1 => ?_)
  obtain ⟨rfl, a1, a2, a3⟩ := h1
  have a3 := frR.th a3
  cases ho : os kd with
  | none =>
    refine RQ_b rfl (fun _ => ?_) (fun q => absurd rfl q)
    refine RQ_n ZR_ok 1 rfl trivial ?_
    exact RQ_to (Rn_zret rfl rfl (Or.inl rfl)) ⟨rfl, a1, a3⟩
  | some A =>
  obtain ⟨b1, b2⟩ := a1.a hk3 a2 ho
  have hF := zN_F (ZAt_all h.1.1 b2 (ho ▸ hZ kd hk3)) (show ZAt G kd (some A) from ho ▸ hZ kd hk3).2
  have hN := hF.1.2
  refine RQ_b rfl (fun q => absurd (show (1 : Int32) = 0 from q) (by decide)) (fun _ => ?_)
  refine RQ_n ZR_ok 3 rfl trivial ?_
  have hcm := m_counts hk3 hZ a1 0
  rw [ho, show zvC G (some A) (v.1 24) 0 = zsm (zcv G (zN A) (v.1 24) 0) (zN A).1 from rfl] at hcm
  refine RQ_V vX12_counts hcm rfl k12_521 rfl rfl rfl rfl (fun _ _ _ => rfl) (fun r2 v2 h2 => ?_)
  obtain ⟨rfl, c1, c2⟩ := h2
  have F := a3.tr c2
  by_cases y : zsm (zcv G (zN A) (v.1 24) 0) (zN A).1 = 0
  · refine RQ_b rfl (fun q => absurd y q) (fun _ => ?_)
    refine RQ_n ZR_ok 2 rfl trivial ?_
    refine RQ_to (Rn_zret rfl rfl (Or.inr rfl)) ⟨?_, c1, F⟩
    rw [show zcq G (some A) = true from zcB_t ((zsm_c0 hN).mp y)]; rfl
  · refine RQ_b rfl (fun _ => ?_) (fun q => absurd (Classical.not_not.mp q) y)
    refine RQ_n ZR_ok 1 rfl trivial ?_
    refine RQ_to (Rn_zret rfl rfl (Or.inl rfl)) ⟨?_, c1, F⟩
    rw [show zcq G (some A) = false from zcB_f (fun q => y ((zsm_c0 hN).mpr q))]; rfl
theorem RGr.sl {v : SM} (h : RGr G os s) (h1 : SLM G v) (h2 : v.1 29 = 1) (f : frM [25, 29] [26, 27, 28] s v) : RGr G os v := by
  refine ⟨h.1.fr f rfl, Or.inr ⟨h2, h1⟩, fun kd hk => ?_⟩
  rcases h.2.2 kd hk with y | ⟨y1, -, -, y4⟩
  · exact Or.inl (by rw [f.2.1 30 (by decide)]; exact y)
  · refine Or.inr ⟨by rw [f.2.1 30 (by decide)]; exact y1, h2, h1, ?_⟩
    cases ho : os kd with
    | none =>
      rw [ho] at y4
      have y4 : s.2.1 44 kd = 0 := y4
      show v.2.1 44 kd = 0
      rw [f.2.1 44 (by decide)]; exact y4
    | some A =>
      rw [ho] at y4
      have y4 : RAu G (zE0 G) (zF0 G) kd (s.1 24) (zN A) s := y4
      show RAu G (zE0 G) (zF0 G) kd (v.1 24) (zN A) v
      rw [f.1 24 (by decide)]
      exact y4.fr f (by decide)
def zso (b1 b2 b3 b4 b5 : Bool) : Int32 := (if b1 = true then 1 else 0) ||| (if b2 = true then 2 else 0) ||| (if b3 = true then 4 else 0) ||| (if b4 = true then 8 else 0) ||| (if b5 = true then 16 else 0)
noncomputable def zvSo (G : ZGT) (os : Nat → Option ZAS) : Int32 := zso (ztd G (zS0 G) (zgR G)) (zsi G (os 2)) (zcq G (os 2)) (zcq G (os 1)) (zcq G (os 0))
set_option maxHeartbeats 1000000 in
theorem m_sorts (hZ : ∀ kd, kd < 3 → ZAt G kd (os kd)) (h : RGr G os s) : EvQ ZR mX12_sorts [.ref 0] s (rfQ G os s (zvSo G os)) := by
  have hb := h.1.b
  obtain ⟨t1, ht1⟩ : ∃ t1, t1 = ztd G (zS0 G) (zgR G) := ⟨_, rfl⟩
  obtain ⟨t2, ht2⟩ : ∃ t2, t2 = zsi G (os 2) := ⟨_, rfl⟩
  obtain ⟨t3, ht3⟩ : ∃ t3, t3 = zcq G (os 2) := ⟨_, rfl⟩
  obtain ⟨t4, ht4⟩ : ∃ t4, t4 = zcq G (os 1) := ⟨_, rfl⟩
  obtain ⟨t5, ht5⟩ : ∃ t5, t5 = zcq G (os 0) := ⟨_, rfl⟩
  have hv : zvSo G os = zso t1 t2 t3 t4 t5 := by rw [ht1, ht2, ht3, ht4, ht5]; rfl
  rw [hv]
  obtain ⟨Q, hQ⟩ : ∃ Q, Q = rfQ G os s (zso t1 t2 t3 t4 t5) := ⟨_, rfl⟩
  rw [← hQ]
  refine EQ_V vX12_sorts rfl ?_
  have p89 : ∀ acc v, RGr G os v → frR s v → acc ||| (if t5 = true then 16 else 0) = zso t1 t2 t3 t4 t5 → RnQ ZR mX12_sorts (89, [some (.ref 0), some (.int acc)], [.int (if t5 = true then 16 else 0), .int acc], v) Q := by
    intro acc v g1 g2 e
    refine RQ_n ZR_ok 1 rfl trivial ?_
    rw [hQ]
    exact RQ_to (Rn_iret rfl rfl) ⟨by rw [← e], g1, g2⟩
  have p72 : ∀ acc v, RGr G os v → frR s v → acc ||| (if t4 = true then 8 else 0) ||| (if t5 = true then 16 else 0) = zso t1 t2 t3 t4 t5 → RnQ ZR mX12_sorts (72, [some (.ref 0), some (.int acc)], [.int (if t4 = true then 8 else 0), .int acc], v) Q := by
    intro acc v g1 g2 e
    refine RQ_n ZR_ok 5 rfl trivial ?_
    have hc := m_isClear (kd := 0) (by omega) hZ g1
    rw [← ht5] at hc
    refine RQ_V vX12_isClear hc rfl k12_530 rfl rfl rfl rfl (fun _ _ _ => rfl) (fun r2 v2 h2 => ?_)
    obtain ⟨rfl, c1, c2⟩ := h2
    have p := p89 (acc ||| (if t4 = true then 8 else 0)) v2 c1 (g2.tr c2) e
    cases t5 with
    | false =>
      refine RQ_b rfl (fun _ => ?_) (fun q => absurd rfl q)
      refine RQ_n ZR_ok 1 rfl trivial ?_
      exact p
    | true =>
      refine RQ_b rfl (fun q => absurd (show (1 : Int32) = 0 from q) (by decide)) (fun _ => ?_)
      refine RQ_n ZR_ok 2 rfl trivial ?_
      exact p
  have p55 : ∀ acc v, RGr G os v → frR s v → acc ||| (if t3 = true then 4 else 0) ||| (if t4 = true then 8 else 0) ||| (if t5 = true then 16 else 0) = zso t1 t2 t3 t4 t5 → RnQ ZR mX12_sorts (55, [some (.ref 0), some (.int acc)], [.int (if t3 = true then 4 else 0), .int acc], v) Q := by
    intro acc v g1 g2 e
    refine RQ_n ZR_ok 5 rfl trivial ?_
    have hc := m_isClear (kd := 1) (by omega) hZ g1
    rw [← ht4] at hc
    refine RQ_V vX12_isClear hc rfl k12_530 rfl rfl rfl rfl (fun _ _ _ => rfl) (fun r2 v2 h2 => ?_)
    obtain ⟨rfl, c1, c2⟩ := h2
    have p := p72 (acc ||| (if t3 = true then 4 else 0)) v2 c1 (g2.tr c2) e
    clear p72 p89
    cases t4 with
    | false =>
      refine RQ_b rfl (fun _ => ?_) (fun q => absurd rfl q)
      refine RQ_n ZR_ok 1 rfl trivial ?_
      exact p
    | true =>
      refine RQ_b rfl (fun q => absurd (show (1 : Int32) = 0 from q) (by decide)) (fun _ => ?_)
      refine RQ_n ZR_ok 2 rfl trivial ?_
      exact p
  have p39 : ∀ acc v, RGr G os v → frR s v → acc ||| (if t2 = true then 2 else 0) ||| (if t3 = true then 4 else 0) ||| (if t4 = true then 8 else 0) ||| (if t5 = true then 16 else 0) = zso t1 t2 t3 t4 t5 → RnQ ZR mX12_sorts (39, [some (.ref 0), some (.int acc)], [.int (if t2 = true then 2 else 0), .int acc], v) Q := by
    intro acc v g1 g2 e
    refine RQ_n ZR_ok 5 rfl trivial ?_
    have hc := m_isClear (kd := 2) (by omega) hZ g1
    rw [← ht3] at hc
    refine RQ_V vX12_isClear hc rfl k12_530 rfl rfl rfl rfl (fun _ _ _ => rfl) (fun r2 v2 h2 => ?_)
    obtain ⟨rfl, c1, c2⟩ := h2
    have p := p55 (acc ||| (if t2 = true then 2 else 0)) v2 c1 (g2.tr c2) e
    clear p55 p72 p89
    cases t3 with
    | false =>
      refine RQ_b rfl (fun _ => ?_) (fun q => absurd rfl q)
      refine RQ_n ZR_ok 1 rfl trivial ?_
      exact p
    | true =>
      refine RQ_b rfl (fun q => absurd (show (1 : Int32) = 0 from q) (by decide)) (fun _ => ?_)
      refine RQ_n ZR_ok 2 rfl trivial ?_
      exact p
  have p25 : ∀ v, RGr G os v → frR s v → RnQ ZR mX12_sorts (25, [some (.ref 0), none], [.int (if t1 = true then 1 else 0)], v) Q := by
    intro v g1 g2
    refine RQ_n ZR_ok 3 rfl trivial ?_
    have hc := m_isSimple hZ g1
    rw [← ht2] at hc
    refine RQ_V vX12_isSimple hc rfl k12_527 rfl rfl rfl rfl (fun _ _ _ => rfl) (fun r2 v2 h2 => ?_)
    obtain ⟨rfl, c1, c2⟩ := h2
    have p := p39 (if t1 = true then 1 else 0) v2 c1 (g2.tr c2) rfl
    clear p39 p55 p72 p89
    cases t2 with
    | false =>
      refine RQ_b rfl (fun _ => ?_) (fun q => absurd rfl q)
      refine RQ_n ZR_ok 1 rfl trivial ?_
      exact p
    | true =>
      refine RQ_b rfl (fun q => absurd (show (1 : Int32) = 0 from q) (by decide)) (fun _ => ?_)
      refine RQ_n ZR_ok 2 rfl trivial ?_
      exact p
  refine RQ_n ZR_ok 2 rfl trivial ?_
  rw [h.1.2.1.1]
  refine RQ_b rfl (fun _ => ?_) (fun z => ?_)
  rotate_left
  · have := (zq_eq (a := zgR G) (b := 0) rfl rfl (by omega) (by omega)).mp (Classical.not_not.mp z)
    omega
  refine RQ_n ZR_ok 1 rfl trivial ?_
  refine RQ_V vX12_laySets (m_laySets h.1 h.2.1) rfl k12_313 rfl rfl rfl rfl (fun _ _ _ => rfl) (fun r1 v1 h1 => ?_)
  obtain ⟨rfl, L1, L2, L3⟩ := h1
  have p := p25 v1 (h.sl L1 L2 L3) (L3.up (by decide) (by decide))
  clear p25 p39 p55 p72 p89
  refine RQ_n ZR_ok 1 rfl trivial ?_
  have htd := m_isTopDown (h.sl L1 L2 L3).1 L1
  rw [← ht1] at htd
  refine RQ_v vX12_isTopDown htd rfl k12_524 rfl rfl rfl rfl rfl ?_
  cases t1 with
  | false =>
    refine RQ_b rfl (fun _ => ?_) (fun q => absurd rfl q)
    refine RQ_n ZR_ok 1 rfl trivial ?_
    exact p
  | true =>
    refine RQ_b rfl (fun q => absurd (show (1 : Int32) = 0 from q) (by decide)) (fun _ => ?_)
    refine RQ_n ZR_ok 2 rfl trivial ?_
    exact p
end MSo
