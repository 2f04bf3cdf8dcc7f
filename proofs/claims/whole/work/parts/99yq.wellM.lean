/-! laySigns, isWell, codeOf: the reference. -/
/-- the signs of a word by its number -/
def zdg (T L w i : Nat) : Nat := w / T ^ (L - 1 - i) % T
/-- a word as digits -/
def zwn (f : Nat → Nat) : Nat → Int32
  | 0 => 0
  | n + 1 => 10 * zwn f n + nI (f n) + 1
section MWell
variable {G : ZGT} {kd : Nat} {os : Nat → Option ZAS} {s : SM} {A : ZAS}
theorem m_laySigns (hG : ZGM G s) {L w : Nat} (hL : L ≤ 24) (hT : 0 < L → 0 < zgT G) (hw : w < 2 ^ 31) : EvQ ZR mX12_laySigns [.ref 0, .int (nI L), .int (nI w)] s (fun x v => x = none ∧ (∀ i, i < L → v.2.1 56 i = nI (zdg (zgT G) L w i)) ∧ frM [] [56] s v) := by
  have hb := hG.b
  refine EQ_V vX12_laySigns rfl ?_
  refine RQ_n ZR_ok 6 rfl trivial ?_
  have e0 : w / zgT G ^ 0 = w := by rw [Nat.pow_zero, Nat.div_one]
  have hst : RnQ ZR mX12_laySigns (7, [some (.ref 0), some (.int (nI L)), some (.int (nI w)), some (.int (nI (w / zgT G ^ 0))), some (.int (nI (L - 0) - 1))], [], s) (fun x v => x = none ∧ (∀ i, i < L → v.2.1 56 i = nI (zdg (zgT G) L w i)) ∧ frM [] [56] s v) := by
    refine loopU L (fun d (_ : Unit) => [some (.ref 0), some (.int (nI L)), some (.int (nI w)), some (.int (nI (w / zgT G ^ d))), some (.int (nI (L - d) - 1))]) (fun d _ v => (∀ i, L - d ≤ i → i < L → v.2.1 56 i = nI (zdg (zgT G) L w i)) ∧ frM [] [56] s v) ?_ 0 () s (by omega) ⟨fun i h1 h2 => by omega, frM.rf⟩
    intro d _ v hd hJ ih
    obtain ⟨g1, g2⟩ := hJ
    refine RQ_n ZR_ok 1 rfl trivial ?_
    by_cases y : d = L
    · subst y
      rw [show nI (d - d) - 1 = (-1 : Int32) by rw [Nat.sub_self]; rfl]
      refine RQ_b rfl (fun _ => ?_) (fun z => absurd (show (-1 : Int32) < 0 by decide) z)
      exact RQ_to (Rn_vret rfl rfl) ⟨rfl, fun i hi => g1 i (by omega) hi, g2⟩
    have hTp := hT (by omega)
    have ei : nI (L - d) - 1 = nI (L - d - 1) := nI_m (by omega)
    rw [ei]
    refine RQ_b rfl (fun z => ?_) (fun _ => ?_)
    · have z : nI (L - d - 1) < nI 0 := z
      have := (zq_lt (a := L - d - 1) (b := 0) rfl rfl (by omega) (by omega)).mp z
      omega
    obtain ⟨x, hx⟩ : ∃ x, x = w / zgT G ^ d := ⟨_, rfl⟩
    have hxw : x < 2 ^ 31 := by
      have := Nat.div_le_self w (zgT G ^ d)
      omega
    have hne : ¬ nI (zgT G) = 0 := fun z => by
      have := (zq_eq (a := zgT G) (b := 0) rfl rfl (by omega) (by omega)).mp z
      omega
    have e2 : nI x - nI x / nI (zgT G) * nI (zgT G) = nI (x % zgT G) := nI_rem hxw hTp (by omega)
    have e1 : nI x / nI (zgT G) = nI (x / zgT G) := pk_div hxw hTp (by omega)
    rw [← hx]
    have eT : v.1 17 = nI (zgT G) := (g2.1 17 (by decide)).trans hG.2.1.2.2
    refine RQ_n ZR_ok 6 rfl trivial ?_
    rw [eT]
    refine RQ_n ZR_ok 1 rfl ⟨hne, trivial⟩ ?_
    rw [e2]
    refine RQ_n ZR_ok 1 rfl ⟨nI_in (by omega) (by omega), trivial⟩ ?_
    rw [nI_clamp (show L - d - 1 < 2 ^ 31 by omega)]
    obtain ⟨v2, hv2⟩ : ∃ y : SM, y = (v.1, updA v.2.1 56 (L - d - 1) (nI (x % zgT G)), v.2.2) := ⟨_, rfl⟩
    rw [← hv2]
    have f2 : frM [] [56] v v2 := by rw [hv2]; exact frM.a 56 (by decide)
    have h56 : v2.2.1 56 = upd (v.2.1 56) (L - d - 1) (nI (x % zgT G)) := by rw [hv2]; rfl
    refine RQ_n ZR_ok 3 rfl trivial ?_
    rw [f2.1 17 (by decide), eT]
    refine RQ_n ZR_ok 1 rfl ⟨hne, trivial⟩ ?_
    rw [e1]
    refine RQ_n ZR_ok 3 rfl trivial ?_
    refine ih (by omega) () _ _ ⟨rfl, rfl, rfl, ?_, ?_, trivial⟩ ⟨fun i h1 h2 => ?_, g2.tr f2⟩
    · rw [Nat.pow_succ, ← Nat.div_div_eq_div_mul, ← hx]
    · show Value.int (nI (L - (d + 1)) - 1) = Value.int (nI (L - d - 1) + -1)
      rw [← Int32.sub_eq_add_neg, Nat.sub_sub]
    · rw [h56]
      by_cases q : i = L - d - 1
      · rw [q, upd_at]
        unfold zdg
        rw [show L - 1 - (L - d - 1) = d by omega, ← hx]
      · rw [upd_ne q]; exact g1 i (by omega) h2
  rw [e0] at hst
  exact hst
theorem zdg_lt {T L w i : Nat} (h : 0 < T) : zdg T L w i < T := Nat.mod_lt _ h
theorem m_codeOf (f : Nat → Nat) {L : Nat} (hL : L ≤ 24) (hf : ∀ i, i < L → s.2.1 56 i = nI (f i)) : Ev ZR mX12_codeOf [.ref 0, .int (nI L)] s (some (.int (zwn f L))) s := by
  refine EQ_ev ?_
  refine EQ_V vX12_codeOf rfl ?_
  refine RQ_n ZR_ok 4 rfl trivial ?_
  refine loopU L (fun i (_ : Unit) => [some (.ref 0), some (.int (nI L)), some (.int (zwn f i)), some (.int (nI i))]) (fun i _ v => v = s) ?_ 0 () s (by omega) rfl
  intro i _ v hi hJ ih
  subst hJ
  refine RQ_n ZR_ok 2 rfl trivial ?_
  refine RQ_b rfl (fun z => ?_) (fun z => ?_)
  · have z := (zq_le (a := L) (b := i) rfl rfl (by omega) (by omega)).mp z
    have hie : i = L := by omega
    refine RQ_n ZR_ok 1 rfl trivial ?_
    exact RQ_to (Rn_iret rfl rfl) ⟨by rw [hie], rfl⟩
  have z := (not_congr (zq_le (a := L) (b := i) rfl rfl (by omega) (by omega))).mp z
  refine RQ_n ZR_ok 6 rfl trivial ?_
  refine RQ_n ZR_ok 1 rfl ⟨nI_in (by omega) (by omega), trivial⟩ ?_
  rw [nI_clamp (show i < 2 ^ 31 by omega), hf i (by omega)]
  refine RQ_n ZR_ok 6 rfl trivial ?_
  exact ih (by omega) () _ _ ⟨rfl, rfl, rfl, nIs i, trivial⟩ rfl
set_option maxHeartbeats 1000000 in
theorem m_isWell (hk3 : kd < 3) (hZ : ∀ kd, kd < 3 → ZAt G kd (os kd)) (h : RGr G os s) (h30 : s.2.1 30 kd = 1) (ho : os kd = some A) {L w : Nat} (hL : L ≤ 24) (hT : 0 < L → 0 < zgT G) (hw : w < 2 ^ 31) :
    EvQ ZR mX12_isWell [.ref 0, .int (nI kd), .int (nI L), .int (nI w)] s (fun x v => x = some (.int (bI (decide ((zcan G (zN A) (s.1 24) 0 L (zdg (zgT G) L w)).1 = 1)))) ∧ RGr G os v ∧ frM [57, 62, 63, 64, 65, 71] [56, 58, 59, 60, 61, 66, 67, 68, 69, 70] s v) := by
  have hb := h.1.b
  obtain ⟨b1, b2⟩ := h.a hk3 h30 ho
  have hF := zN_F (ZAt_all h.1.1 b2 (ho ▸ hZ kd hk3)) (show ZAt G kd (some A) from ho ▸ hZ kd hk3).2
  have hok : ∀ i, i < L → zdg (zgT G) L w i ≤ zgT G ∨ zdg (zgT G) L w i = 99 := fun i hi => Or.inl (Nat.le_of_lt (zdg_lt (hT (by omega))))
  refine EQ_V vX12_isWell rfl ?_
  refine RQ_n ZR_ok 3 rfl trivial ?_
  obtain ⟨v1, hv1⟩ : ∃ x : SM, x = (updS s.1 57 (nI L), s.2) := ⟨_, rfl⟩
  show RnQ ZR mX12_isWell (5, _, _, ((updS s.1 57 (nI L), s.2) : SM)) _
  rw [← hv1]
  have f1 : frM [57] [] s v1 := by rw [hv1]; exact frM.i 57 (by decide)
  have e57 : v1.1 57 = nI L := by rw [hv1]; rfl
  refine RQ_n ZR_ok 3 rfl trivial ?_
  refine RQ_V vX12_laySigns (m_laySigns (h.1.fr f1 rfl) hL hT hw) rfl k12_533 rfl rfl rfl rfl (fun _ _ _ => rfl) (fun r2 v2 h2 => ?_)
  obtain ⟨rfl, q1, q2⟩ := h2
  have F2 : frM [57] [56] s v2 := (f1.up (by decide) (by decide)).tr (q2.up (by decide) (by decide))
  have g2 : RGr G os v2 := h.fr F2 (by decide) (by decide)
  refine RQ_n ZR_ok 3 rfl trivial ?_
  refine RQ_V vX12_readAll (m_readAll (md := 0) (p := s.1 24) (len := L) (inp := zdg (zgT G) L w) g2.1 hF hk3 (b1.fr F2 (by decide)) (by omega) ((q2.1 57 (by decide)).trans e57) (by omega) q1 hok) rfl k12_503 rfl rfl rfl rfl (fun _ _ _ => rfl) (fun r4 v4 h4 => ?_)
  obtain ⟨rfl, -, -, r3⟩ := h4
  have g4 : RGr G os v4 := g2.fr r3 (by decide) (by decide)
  have F4 : frM [57, 62, 63, 64, 65, 71] [56, 58, 59, 60, 61, 66, 67, 68, 69, 70] s v4 := (F2.up (by decide) (by decide)).tr (r3.up (by decide) (by decide))
  have ee : (rrt G (zN A) (s.1 24) 0 L (zdg (zgT G) L w) v2).1 = (zcan G (zN A) (s.1 24) 0 L (zdg (zgT G) L w)).1 := (xr_rr (p := s.1 24) (md := 0) h.1.1 hF hok sX0 v2).1.symm.trans (xr_rr (p := s.1 24) (md := 0) h.1.1 hF hok sX0 zt0).1
  have hlt : (zcan G (zN A) (s.1 24) 0 L (zdg (zgT G) L w)).1 < 3 := by
    unfold zcan rrt
    exact (zrt_end h.1.1 hF hok 301 _ ⟨rr0_W hF.1.1 zt0, (rr0_W hF.1.1 zt0).k, Nat.zero_le _⟩ (fun _ => rfl)).1
  rw [ee]
  obtain ⟨e, he⟩ : ∃ e, e = (zcan G (zN A) (s.1 24) 0 L (zdg (zgT G) L w)).1 := ⟨_, rfl⟩
  rw [← he] at hlt ⊢
  refine RQ_n ZR_ok 1 rfl trivial ?_
  by_cases y : e = 1
  · refine RQ_b rfl (fun q => absurd ((zq_eq (a := e) (b := 1) rfl rfl (by omega) (by omega)).mpr y) q) (fun _ => ?_)
    refine RQ_n ZR_ok 2 rfl trivial ?_
    exact RQ_to (Rn_zret rfl rfl (Or.inr rfl)) ⟨by rw [decide_eq_true y]; rfl, g4, F4⟩
  · refine RQ_b rfl (fun _ => ?_) (fun q => absurd ((zq_eq (a := e) (b := 1) rfl rfl (by omega) (by omega)).mp (Classical.not_not.mp q)) y)
    refine RQ_n ZR_ok 1 rfl trivial ?_
    exact RQ_to (Rn_zret rfl rfl (Or.inl rfl)) ⟨by rw [decide_eq_false y]; rfl, g4, F4⟩
end MWell
