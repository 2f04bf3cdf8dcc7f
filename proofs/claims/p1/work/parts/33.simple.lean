/-! end, count, image's and back's counts: both sides, in every state. -/
theorem m_inMany (s : SM) : Ev ZR mX12_inMany [.ref 0] s (some (.int (s.1 15 - bitC (s.1 23)))) s := by
  refine Ev_V vX12_inMany rfl ?_
  refine Rn_n ZR_ok 4 rfl trivial ?_
  refine Rn_S vJ6_bitCount_0f7a4 (e_bitCount ZR_ok s (s.1 23)) rfl k12_197 rfl rfl rfl rfl ?_
  refine Rn_n ZR_ok 1 rfl trivial ?_
  exact Rn_iret rfl rfl
theorem m_end_t (s : SM) (n : Int32) (h : inB n 0 (s.1 2) = true) : Ev ZR mX12_end [.ref 0, .int n] s (some (.int 1)) (updS s.1 2 n, s.2.1, s.2.2) := by
  refine Ev_V vX12_end rfl ?_
  refine Rn_n ZR_ok 4 rfl trivial ?_
  refine Rn_S vX12_in (e_in s n 0 (s.1 2)) rfl k12_170 rfl rfl rfl rfl ?_
  refine Rn_b rfl (fun _ => ?_) (fun q => absurd (by rw [h]; show ¬ ((1 : Int32) = 0); decide) q)
  refine Rn_n ZR_ok 4 rfl trivial ?_
  exact Rn_zret rfl rfl (Or.inr rfl)
theorem m_end_f (s : SM) (n : Int32) (h : inB n 0 (s.1 2) = false) : Ev ZR mX12_end [.ref 0, .int n] s (some (.int 0)) s := by
  refine Ev_V vX12_end rfl ?_
  refine Rn_n ZR_ok 4 rfl trivial ?_
  refine Rn_S vX12_in (e_in s n 0 (s.1 2)) rfl k12_170 rfl rfl rfl rfl ?_
  refine Rn_b rfl (fun q => absurd (by rw [h]; rfl) q) (fun _ => ?_)
  refine Rn_n ZR_ok 1 rfl trivial ?_
  exact Rn_zret rfl rfl (Or.inl rfl)
theorem x_end_t (s : SX) (n : Int32) (h : inB n 0 (s.1 1 1) = true) : Ev ZX mX11_end [.ref 0, .int n] s (some (.int 1)) (updI s.1 1 1 n, s.2) := by
  unfold inB at h
  rw [Bool.and_eq_true, decide_eq_true_eq, decide_eq_true_eq] at h
  refine Ev_V vX11_end rfl ?_
  refine Rn_n ZX_ok 1 rfl trivial ?_
  refine Rn_b rfl (fun q => absurd q (Int32.not_lt.mpr h.1)) (fun _ => ?_)
  refine Rn_n ZX_ok 4 rfl trivial ?_
  refine Rn_b rfl (fun _ => ?_) (fun q => absurd h.2 q)
  refine Rn_n ZX_ok 5 rfl trivial ?_
  exact Rn_zret rfl rfl (Or.inr rfl)
theorem x_end_f (s : SX) (n : Int32) (h : inB n 0 (s.1 1 1) = false) : Ev ZX mX11_end [.ref 0, .int n] s (some (.int 0)) s := by
  unfold inB at h
  rw [Bool.and_eq_false_iff, decide_eq_false_iff_not, decide_eq_false_iff_not] at h
  refine Ev_V vX11_end rfl ?_
  refine Rn_n ZX_ok 1 rfl trivial ?_
  refine Rn_b rfl (fun q => ?_) (fun q => ?_)
  · refine Rn_n ZX_ok 1 rfl trivial ?_
    exact Rn_zret rfl rfl (Or.inl rfl)
  · refine Rn_n ZX_ok 4 rfl trivial ?_
    refine Rn_b rfl (fun q2 => ?_) (fun _ => ?_)
    · rcases h with h | h
      · exact absurd (Int32.not_lt.mp q) h
      · exact absurd q2 h
    · refine Rn_n ZX_ok 1 rfl trivial ?_
      exact Rn_zret rfl rfl (Or.inl rfl)
theorem m_count_0 (s : SM) : Ev ZR mX12_count [.ref 0, .int 0] s (some (.int (s.1 15))) s := by
  refine Ev_V vX12_count rfl ?_
  refine Rn_n ZR_ok 1 rfl trivial ?_
  refine Rn_swI (off := 43) (tgt := 44) rfl (by decide) (by decide) rfl rfl ?_
  refine Rn_n ZR_ok 2 rfl trivial ?_
  exact Rn_iret rfl rfl
theorem x_count_0 (s : SX) : Ev ZX mX11_count [.ref 0, .int 0] s (some (.int (s.1 3 0))) s := by
  refine Ev_V vX11_count rfl ?_
  refine Rn_n ZX_ok 1 rfl trivial ?_
  refine Rn_swI (off := 43) (tgt := 44) rfl (by decide) (by decide) rfl rfl ?_
  refine Rn_n ZX_ok 3 rfl trivial ?_
  exact Rn_iret rfl rfl
theorem m_count_1 (s : SM) : Ev ZR mX12_count [.ref 0, .int 1] s (some (.int (s.1 16))) s := by
  refine Ev_V vX12_count rfl ?_
  refine Rn_n ZR_ok 1 rfl trivial ?_
  refine Rn_swI (off := 48) (tgt := 49) rfl (by decide) (by decide) rfl rfl ?_
  refine Rn_n ZR_ok 2 rfl trivial ?_
  exact Rn_iret rfl rfl
theorem x_count_1 (s : SX) : Ev ZX mX11_count [.ref 0, .int 1] s (some (.int (s.1 3 1))) s := by
  refine Ev_V vX11_count rfl ?_
  refine Rn_n ZX_ok 1 rfl trivial ?_
  refine Rn_swI (off := 51) (tgt := 52) rfl (by decide) (by decide) rfl rfl ?_
  refine Rn_n ZX_ok 3 rfl trivial ?_
  exact Rn_iret rfl rfl
theorem m_count_2 (s : SM) : Ev ZR mX12_count [.ref 0, .int 2] s (some (.int (s.1 17))) s := by
  refine Ev_V vX12_count rfl ?_
  refine Rn_n ZR_ok 1 rfl trivial ?_
  refine Rn_swI (off := 53) (tgt := 54) rfl (by decide) (by decide) rfl rfl ?_
  refine Rn_n ZR_ok 2 rfl trivial ?_
  exact Rn_iret rfl rfl
theorem x_count_2 (s : SX) : Ev ZX mX11_count [.ref 0, .int 2] s (some (.int (s.1 3 2))) s := by
  refine Ev_V vX11_count rfl ?_
  refine Rn_n ZX_ok 1 rfl trivial ?_
  refine Rn_swI (off := 59) (tgt := 60) rfl (by decide) (by decide) rfl rfl ?_
  refine Rn_n ZX_ok 3 rfl trivial ?_
  exact Rn_iret rfl rfl
theorem m_count_3 (s : SM) : Ev ZR mX12_count [.ref 0, .int 3] s (some (.int (s.1 14))) s := by
  refine Ev_V vX12_count rfl ?_
  refine Rn_n ZR_ok 1 rfl trivial ?_
  refine Rn_swI (off := 58) (tgt := 59) rfl (by decide) (by decide) rfl rfl ?_
  refine Rn_n ZR_ok 2 rfl trivial ?_
  exact Rn_iret rfl rfl
theorem x_count_3 (s : SX) : Ev ZX mX11_count [.ref 0, .int 3] s (some (.int (s.1 11 0))) s := by
  refine Ev_V vX11_count rfl ?_
  refine Rn_n ZX_ok 1 rfl trivial ?_
  refine Rn_swI (off := 67) (tgt := 68) rfl (by decide) (by decide) rfl rfl ?_
  refine Rn_n ZX_ok 3 rfl trivial ?_
  exact Rn_iret rfl rfl
theorem m_count_4 (s : SM) : Ev ZR mX12_count [.ref 0, .int 4] s (some (.int (s.1 2))) s := by
  refine Ev_V vX12_count rfl ?_
  refine Rn_n ZR_ok 1 rfl trivial ?_
  refine Rn_swI (off := 63) (tgt := 64) rfl (by decide) (by decide) rfl rfl ?_
  refine Rn_n ZR_ok 2 rfl trivial ?_
  exact Rn_iret rfl rfl
theorem x_count_4 (s : SX) : Ev ZX mX11_count [.ref 0, .int 4] s (some (.int (s.1 1 1))) s := by
  refine Ev_V vX11_count rfl ?_
  refine Rn_n ZX_ok 1 rfl trivial ?_
  refine Rn_swI (off := 75) (tgt := 76) rfl (by decide) (by decide) rfl rfl ?_
  refine Rn_n ZX_ok 3 rfl trivial ?_
  exact Rn_iret rfl rfl
theorem m_count_5 (s : SM) : Ev ZR mX12_count [.ref 0, .int 5] s (some (.int (s.1 15 - bitC (s.1 23)))) s := by
  refine Ev_V vX12_count rfl ?_
  refine Rn_n ZR_ok 1 rfl trivial ?_
  refine Rn_swI (off := 68) (tgt := 69) rfl (by decide) (by decide) rfl rfl ?_
  refine Rn_n ZR_ok 1 rfl trivial ?_
  refine Rn_V vX12_inMany (m_inMany s) rfl k12_576 rfl rfl rfl rfl rfl ?_
  exact Rn_iret rfl rfl
theorem x_count_5 (s : SX) : Ev ZX mX11_count [.ref 0, .int 5] s (some (.int (bitC (s.1 3 3)))) s := by
  refine Ev_V vX11_count rfl ?_
  refine Rn_n ZX_ok 1 rfl trivial ?_
  refine Rn_swI (off := 83) (tgt := 84) rfl (by decide) (by decide) rfl rfl ?_
  refine Rn_n ZX_ok 3 rfl trivial ?_
  refine Rn_S vJ6_bitCount_0f7a4 (e_bitCount ZX_ok s (s.1 3 3)) rfl k11_295 rfl rfl rfl rfl ?_
  exact Rn_iret rfl rfl
theorem m_count_6 (s : SM) : Ev ZR mX12_count [.ref 0, .int 6] s (some (.int (s.1 37))) s := by
  refine Ev_V vX12_count rfl ?_
  refine Rn_n ZR_ok 1 rfl trivial ?_
  refine Rn_swI (off := 73) (tgt := 74) rfl (by decide) (by decide) rfl rfl ?_
  refine Rn_n ZR_ok 2 rfl trivial ?_
  exact Rn_iret rfl rfl
theorem x_count_6 (s : SX) : Ev ZX mX11_count [.ref 0, .int 6] s (some (.int (s.1 23 0))) s := by
  refine Ev_V vX11_count rfl ?_
  refine Rn_n ZX_ok 1 rfl trivial ?_
  refine Rn_swI (off := 94) (tgt := 95) rfl (by decide) (by decide) rfl rfl ?_
  refine Rn_n ZX_ok 3 rfl trivial ?_
  exact Rn_iret rfl rfl
theorem m_count_no (s : SM) (x : Int32) (h : x.toInt < 0 ∨ 6 < x.toInt) : Ev ZR mX12_count [.ref 0, .int x] s (some (.int (-1000000))) s := by
  refine Ev_V vX12_count rfl ?_
  refine Rn_n ZR_ok 1 rfl trivial ?_
  refine Rn_swO (tgt := 79) rfl h rfl ?_
  refine Rn_n ZR_ok 1 rfl trivial ?_
  exact Rn_iret rfl rfl
theorem x_count_no (s : SX) (x : Int32) (h : x.toInt < 0 ∨ 6 < x.toInt) : Ev ZX mX11_count [.ref 0, .int x] s (some (.int (-1000000))) s := by
  refine Ev_V vX11_count rfl ?_
  refine Rn_n ZX_ok 1 rfl trivial ?_
  refine Rn_swO (tgt := 103) rfl h rfl ?_
  refine Rn_n ZX_ok 1 rfl trivial ?_
  exact Rn_iret rfl rfl
