/-! rule, the class's side, where it returns. -/
theorem zx3 {MX : MD} (sX : SX) (h : MX.1 = 5) : zrc ZX MX sX 3 = true := by
  show (Nat.beq 5 MX.1 && Nat.blt 3 (3 * sX.2.2.2.2.1 + 99)) = true
  rw [h, Bool.and_eq_true]
  exact ⟨rfl, Nat.ble_eq_true_of_le (by omega)⟩
def xisR (s : SX) (r : Int32) : Bool := decide (0 ≤ r) && decide (r < s.1 3 0)
theorem x_isRuleB (s : SX) (x : Int32) : Ev ZX mX11_isRule [.ref 0, .int x] s (some (.int (bI (xisR s x)))) s := by
  refine Ev_V vX11_isRule rfl ?_
  refine Rn_n ZX_ok 1 rfl trivial ?_
  refine Rn_b rfl (fun q => ?_) (fun q => ?_)
  · have q : ¬ (0 : Int32) ≤ x := Int32.not_le.mpr q
    refine Rn_n ZX_ok 1 rfl trivial ?_
    exact Rn_to (Rn_zret rfl rfl (Or.inl rfl)) (by rw [xisR, decide_eq_false q, Bool.false_and]; rfl) rfl
  · have q : (0 : Int32) ≤ x := Int32.not_lt.mp q
    refine Rn_n ZX_ok 4 rfl trivial ?_
    refine Rn_b rfl (fun q2 => ?_) (fun q2 => ?_)
    · have q2 : ¬ x < s.1 3 0 := Int32.not_lt.mpr q2
      refine Rn_n ZX_ok 1 rfl trivial ?_
      exact Rn_to (Rn_zret rfl rfl (Or.inl rfl)) (by rw [xisR, decide_eq_false q2, Bool.and_false]; rfl) rfl
    · have q2 : x < s.1 3 0 := Int32.not_le.mp q2
      refine Rn_n ZX_ok 2 rfl trivial ?_
      exact Rn_to (Rn_zret rfl rfl (Or.inr rfl)) (by rw [xisR, decide_eq_true q, decide_eq_true q2]; rfl) rfl
def xinB (s : SX) (r : Int32) : Bool := !decide (s.1 3 3 >>> (r &&& 31) &&& 1 = 0)
theorem x_isIn (s : SX) (r : Int32) : Ev ZX mX5_isIn [.ref 3, .int r] s (some (.int (bI (xinB s r)))) s := by
  refine Ev_V vX5_isIn rfl ?_
  refine Rn_n ZX_ok 6 rfl trivial ?_
  refine Rn_b rfl (fun q => ?_) (fun q => ?_)
  · have q : s.1 3 3 >>> (r &&& 31) &&& 1 = 0 := q
    refine Rn_n ZX_ok 1 rfl trivial ?_
    exact Rn_to (Rn_zret rfl rfl (Or.inl rfl)) (by rw [xinB, decide_eq_true q]; rfl) rfl
  · have q : ¬ s.1 3 3 >>> (r &&& 31) &&& 1 = 0 := q
    refine Rn_n ZX_ok 2 rfl trivial ?_
    exact Rn_to (Rn_zret rfl rfl (Or.inr rfl)) (by rw [xinB, decide_eq_false q]; rfl) rfl
def xunB (s : SX) (r : Int32) : Bool := decide (s.2.1 5 r.toNatClampNeg = 1) && decide (8 ≤ s.2.1 6 (r * 5).toNatClampNeg)
theorem x_isUnit (s : SX) (r : Int32) (h1 : vp_in r 17) (h2 : vp_in (r * 5) 85) : Ev ZX mX5_isUnit [.ref 3, .int r] s (some (.int (bI (xunB s r)))) s := by
  refine Ev_V vX5_isUnit rfl ?_
  refine Rn_n ZX_ok 5 rfl ⟨h1, trivial⟩ ?_
  refine Rn_b rfl (fun q => ?_) (fun q => ?_)
  · have q : ¬ s.2.1 5 r.toNatClampNeg = 1 := q
    refine Rn_n ZX_ok 1 rfl trivial ?_
    exact Rn_to (Rn_zret rfl rfl (Or.inl rfl)) (by rw [xunB, decide_eq_false q, Bool.false_and]; rfl) rfl
  · have q : s.2.1 5 r.toNatClampNeg = 1 := Classical.not_not.mp q
    refine Rn_n ZX_ok 7 rfl ⟨h2, trivial⟩ ?_
    refine Rn_b rfl (fun q2 => ?_) (fun q2 => ?_)
    · have q2 : ¬ (8 : Int32) ≤ s.2.1 6 (r * 5).toNatClampNeg := Int32.not_le.mpr q2
      refine Rn_n ZX_ok 1 rfl trivial ?_
      exact Rn_to (Rn_zret rfl rfl (Or.inl rfl)) (by rw [xunB, decide_eq_false q2, Bool.and_false]; rfl) rfl
    · have q2 : (8 : Int32) ≤ s.2.1 6 (r * 5).toNatClampNeg := Int32.not_lt.mp q2
      refine Rn_n ZX_ok 2 rfl trivial ?_
      exact Rn_to (Rn_zret rfl rfl (Or.inr rfl)) (by rw [xunB, decide_eq_true q, decide_eq_true q2]; rfl) rfl
theorem w03 {w : Int32} (h0 : 0 ≤ w) (h3 : w ≤ 3) : w = 0 ∨ w = 1 ∨ w = 2 ∨ w = 3 := by
  have a := Int32.le_iff_toInt_le.mp h0
  have b := Int32.le_iff_toInt_le.mp h3
  have a' : (0 : Int) ≤ w.toInt := a
  have b' : w.toInt ≤ 3 := b
  have : w.toInt = 0 ∨ w.toInt = 1 ∨ w.toInt = 2 ∨ w.toInt = 3 := by omega
  rcases this with h | h | h | h
  · exact Or.inl (Int32.toInt_inj.mp h)
  · exact Or.inr (Or.inl (Int32.toInt_inj.mp h))
  · exact Or.inr (Or.inr (Or.inl (Int32.toInt_inj.mp h)))
  · exact Or.inr (Or.inr (Or.inr (Int32.toInt_inj.mp h)))
def xrul (s : SX) (r w : Int32) : Int32 := if w = 0 then s.2.1 4 r.toNatClampNeg else if w = 1 then s.2.1 5 r.toNatClampNeg else if w = 2 then bI (xinB s r) else bI (xunB s r)
theorem x_rule (s : SX) (r w : Int32) (h : xisR s r = true) (h0 : 0 ≤ w) (h3 : w ≤ 3) (h1 : vp_in r 17) (h2 : vp_in (r * 5) 85) : Ev ZX mX11_rule [.ref 0, .int r, .int w] s (some (.int (xrul s r w))) s := by
  refine Ev_V vX11_rule rfl ?_
  refine Rn_n ZX_ok 2 rfl trivial ?_
  refine Rn_V vX11_isRule (x_isRuleB s r) rfl k11_139 rfl rfl rfl (zx0 s rfl) rfl ?_
  refine Rn_b rfl (fun q => absurd q (by rw [h]; show ¬ ((1 : Int32) = 0); decide)) (fun _ => ?_)
  refine Rn_n ZX_ok 1 rfl trivial ?_
  refine Rn_b rfl (fun q => absurd q (Int32.not_lt.mpr h0)) (fun _ => ?_)
  refine Rn_n ZX_ok 2 rfl trivial ?_
  refine Rn_b rfl (fun _ => ?_) (fun q => absurd h3 q)
  refine Rn_n ZX_ok 1 rfl trivial ?_
  rcases w03 h0 h3 with rfl | rfl | rfl | rfl
  · refine Rn_swI (off := 28) (tgt := 56) rfl (by decide) (by decide) rfl rfl ?_
    refine Rn_n ZX_ok 5 rfl ⟨h1, trivial⟩ ?_
    exact Rn_to (Rn_iret rfl rfl) (by rw [xrul, if_pos rfl]) rfl
  · refine Rn_swI (off := 38) (tgt := 66) rfl (by decide) (by decide) rfl rfl ?_
    refine Rn_n ZX_ok 5 rfl ⟨h1, trivial⟩ ?_
    exact Rn_to (Rn_iret rfl rfl) (by rw [xrul, if_neg (by decide), if_pos rfl]) rfl
  · refine Rn_swI (off := 48) (tgt := 76) rfl (by decide) (by decide) rfl rfl ?_
    refine Rn_n ZX_ok 3 rfl trivial ?_
    refine Rn_V vX5_isIn (x_isIn s r) rfl k11_155 rfl rfl rfl (zx3 s rfl) rfl ?_
    refine Rn_b rfl (fun q => ?_) (fun q => ?_)
    · refine Rn_n ZX_ok 1 rfl trivial ?_
      exact Rn_to (Rn_iret rfl rfl) (by rw [xrul, if_neg (by decide), if_neg (by decide), if_pos rfl, show bI (xinB s r) = 0 from q]) rfl
    · refine Rn_n ZX_ok 2 rfl trivial ?_
      exact Rn_to (Rn_iret rfl rfl) (by rw [xrul, if_neg (by decide), if_neg (by decide), if_pos rfl, bI_t q]; rfl) rfl
  · refine Rn_swO (tgt := 93) rfl (Or.inr (by decide)) rfl ?_
    refine Rn_n ZX_ok 3 rfl trivial ?_
    refine Rn_V vX5_isUnit (x_isUnit s r h1 h2) rfl k11_158 rfl rfl rfl (zx3 s rfl) rfl ?_
    refine Rn_b rfl (fun q => ?_) (fun q => ?_)
    · refine Rn_n ZX_ok 1 rfl trivial ?_
      exact Rn_to (Rn_iret rfl rfl) (by rw [xrul, if_neg (by decide), if_neg (by decide), if_neg (by decide), show bI (xunB s r) = 0 from q]) rfl
    · refine Rn_n ZX_ok 2 rfl trivial ?_
      exact Rn_to (Rn_iret rfl rfl) (by rw [xrul, if_neg (by decide), if_neg (by decide), if_neg (by decide), bI_t q]; rfl) rfl
def mrul (s : SM) (r w : Int32) : Int32 := if w = 0 then s.2.1 18 r.toNatClampNeg else if w = 1 then s.2.1 19 r.toNatClampNeg else if w = 2 then bI (!(hasB (s.1 23) r)) else bI (unB s r)
theorem m_rule (s : SM) (r w : Int32) (h1 : inB r 0 (s.1 15 - 1) = true) (h0 : 0 ≤ w) (h3 : w ≤ 3) (hr : vp_in r 17) (h5 : vp_in (5 * r + 0) 85) : Ev ZR mX12_rule [.ref 0, .int r, .int w] s (some (.int (mrul s r w))) (updS s.1 0 0, s.2) := by
  refine Ev_V vX12_rule rfl ?_
  refine Rn_n ZR_ok 3 rfl trivial ?_
  refine Rn_V vX12_isRule (e_isRule s r) rfl k12_266 rfl rfl rfl rfl rfl ?_
  refine Rn_b rfl (fun q => absurd q (by rw [h1]; show ¬ ((1 : Int32) = 0); decide)) (fun _ => ?_)
  refine Rn_n ZR_ok 3 rfl trivial ?_
  refine Rn_S vX12_in (e_in s w 0 3) rfl k12_170 rfl rfl rfl rfl ?_
  have hw : inB w 0 3 = true := by rw [inB, decide_eq_true h0, decide_eq_true h3]; rfl
  refine Rn_b rfl (fun q => absurd q (by rw [hw]; show ¬ ((1 : Int32) = 0); decide)) (fun _ => ?_)
  refine Rn_n ZR_ok 6 rfl trivial ?_
  refine Rn_b rfl (fun _ => ?_) (fun q => absurd (by show ¬ ((0 : Int32) = 1); decide) q)
  refine Rn_n ZR_ok 1 rfl trivial ?_
  rcases w03 h0 h3 with rfl | rfl | rfl | rfl
  · refine Rn_b rfl (fun q => absurd rfl q) (fun _ => ?_)
    refine Rn_n ZR_ok 5 rfl ⟨hr, trivial⟩ ?_
    exact Rn_to (Rn_iret rfl rfl) (by rw [mrul, if_pos rfl]) rfl
  · refine Rn_b rfl (fun _ => ?_) (fun q => absurd (by show ¬ ((1 : Int32) = 0); decide) q)
    refine Rn_n ZR_ok 2 rfl trivial ?_
    refine Rn_b rfl (fun q => absurd rfl q) (fun _ => ?_)
    refine Rn_n ZR_ok 5 rfl ⟨hr, trivial⟩ ?_
    exact Rn_to (Rn_iret rfl rfl) (by rw [mrul, if_neg (by decide), if_pos rfl]) rfl
  · refine Rn_b rfl (fun _ => ?_) (fun q => absurd (by show ¬ ((2 : Int32) = 0); decide) q)
    refine Rn_n ZR_ok 2 rfl trivial ?_
    refine Rn_b rfl (fun _ => ?_) (fun q => absurd (by show ¬ ((2 : Int32) = 1); decide) q)
    refine Rn_n ZR_ok 2 rfl trivial ?_
    refine Rn_b rfl (fun q => absurd rfl q) (fun _ => ?_)
    refine Rn_n ZR_ok 2 rfl trivial ?_
    refine Rn_V vX12_isIn (e_isIn (updS s.1 0 0, s.2) r) rfl k12_269 rfl rfl rfl rfl rfl ?_
    refine Rn_b rfl (fun q => ?_) (fun q => ?_)
    · refine Rn_n ZR_ok 2 rfl trivial ?_
      exact Rn_to (Rn_iret rfl rfl) (by rw [mrul, if_neg (by decide), if_neg (by decide), if_pos rfl, show bI (!(hasB (s.1 23) r)) = 0 from q]) rfl
    · refine Rn_n ZR_ok 2 rfl trivial ?_
      exact Rn_to (Rn_iret rfl rfl) (by rw [mrul, if_neg (by decide), if_neg (by decide), if_pos rfl, show (!(hasB (s.1 23) r)) = true from bI_t q]; rfl) rfl
  · refine Rn_b rfl (fun _ => ?_) (fun q => absurd (by show ¬ ((3 : Int32) = 0); decide) q)
    refine Rn_n ZR_ok 2 rfl trivial ?_
    refine Rn_b rfl (fun _ => ?_) (fun q => absurd (by show ¬ ((3 : Int32) = 1); decide) q)
    refine Rn_n ZR_ok 2 rfl trivial ?_
    refine Rn_b rfl (fun _ => ?_) (fun q => absurd (by show ¬ ((3 : Int32) = 2); decide) q)
    refine Rn_n ZR_ok 2 rfl trivial ?_
    refine Rn_V vX12_isUnit (e_isUnit (updS s.1 0 0, s.2) r hr h5) rfl k12_272 rfl rfl rfl rfl rfl ?_
    refine Rn_b rfl (fun q => ?_) (fun q => ?_)
    · refine Rn_n ZR_ok 1 rfl trivial ?_
      exact Rn_to (Rn_iret rfl rfl) (by rw [mrul, if_neg (by decide), if_neg (by decide), if_neg (by decide), show bI (unB s r) = 0 from q]) rfl
    · refine Rn_n ZR_ok 2 rfl trivial ?_
      exact Rn_to (Rn_iret rfl rfl) (by rw [mrul, if_neg (by decide), if_neg (by decide), if_neg (by decide), show unB s r = true from bI_t q]; rfl) rfl
