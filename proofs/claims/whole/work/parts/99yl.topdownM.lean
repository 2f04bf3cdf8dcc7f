/-! selects, isTopDown: the reference. -/
section MTd
variable {G : ZGT} {s : SM}
theorem SLM.w (hG : GW G) (h : SLM G s) : ∀ n, n < 6 → s.2.1 27 n = zW0 G n := by
  obtain ⟨c1, c2, c3, c4⟩ := h.c
  have h5 := h.2.2.1
  have h2 := h.2.1
  rw [c3] at h5 h2
  exact zW0_eq hG h2 h5
theorem m_selects (hG : ZGM G s) (h : SLM G s) {r : Nat} (hr : r < zgR G) : Ev ZR mX12_selects [.ref 0, .int (nI r)] s (some (.int (zS0 G r))) s := by
  have hb := hG.b
  obtain ⟨c1, c2, c3, c4⟩ := h.c
  have hW := h.w hG.1
  have hl6 : zgl G r < 6 := by have := hG.1.2.1 r hr; omega
  refine EQ_ev ?_
  refine EQ_V vX12_selects rfl ?_
  refine RQ_n ZR_ok 3 rfl trivial ?_
  have hff := m_firstFrom hG (r := r) (i := 0) (by omega) (by omega)
  rw [c3, zFF_cg hG.1 (show r ≤ zgR G by omega) c4] at hff
  refine RQ_v vX12_firstFrom hff rfl k12_297 rfl rfl rfl rfl rfl ?_
  refine RQ_n ZR_ok 3 rfl trivial ?_
  have hem := m_isEmptyFrom hG (r := r) (i := 0) (by omega) (by omega)
  rw [c3] at hem
  refine RQ_v vX12_isEmptyFrom hem rfl k12_294 rfl rfl rfl rfl rfl ?_
  have e0 : zS0 G r = zFF G (zE0 G) (zF0 G) r 0 ||| (if zAE G (zE0 G) r 0 = true then zW0 G (zgl G r) else 0) := rfl
  cases e : zAE G (zE0 G) r 0 with
  | false =>
    rw [e] at e0
    refine RQ_b rfl (fun _ => ?_) (fun q => absurd rfl q)
    refine RQ_n ZR_ok 2 rfl trivial ?_
    exact RQ_to (Rn_iret rfl rfl) ⟨by rw [e0]; rfl, rfl⟩
  | true =>
    rw [e] at e0
    refine RQ_b rfl (fun q => absurd (show (1 : Int32) = 0 from q) (by decide)) (fun _ => ?_)
    refine RQ_n ZR_ok 5 rfl trivial ?_
    refine RQ_n ZR_ok 1 rfl ⟨nI_in (by omega) (by omega), trivial⟩ ?_
    rw [nI_clamp (show r < 2 ^ 31 by omega), (hG.2.2.1 r hr).1]
    refine RQ_n ZR_ok 1 rfl ⟨nI_in (by omega) (by omega), trivial⟩ ?_
    rw [nI_clamp (show zgl G r < 2 ^ 31 by omega), hW _ hl6]
    refine RQ_n ZR_ok 2 rfl trivial ?_
    exact RQ_to (Rn_iret rfl rfl) ⟨by rw [e0]; rfl, rfl⟩
set_option maxHeartbeats 1000000 in
theorem m_isTopDown (hG : ZGM G s) (h : SLM G s) : Ev ZR mX12_isTopDown [.ref 0] s (some (.int (bI (ztd G (zS0 G) (zgR G))))) s := by
  have hb := hG.b
  obtain ⟨S, hS⟩ : ∃ S, S = zS0 G := ⟨_, rfl⟩
  refine EQ_ev ?_
  rw [← hS]
  refine EQ_V vX12_isTopDown rfl ?_
  refine RQ_n ZR_ok 2 rfl trivial ?_
  refine loopU (zgR G) (fun a (_ : Unit) => [some (.ref 0), some (.int (nI a)), none]) (fun a _ w => w = s ∧ ∀ a', a' < a → ∀ b, b < a' → zgi G a' = true → zgi G b = true → zgl G a' = zgl G b → S a' &&& S b = 0) ?_ 0 () s (by omega) ⟨rfl, fun a' ha => by omega⟩
  intro a _ w ha hJ ih
  obtain ⟨rfl, g1⟩ := hJ
  refine RQ_n ZR_ok 3 rfl trivial ?_
  rw [hG.2.1.1]
  refine RQ_b rfl (fun z => ?_) (fun z => ?_)
  · have z := (zq_le (a := zgR G) (b := a) rfl rfl (by omega) (by omega)).mp z
    refine RQ_n ZR_ok 1 rfl trivial ?_
    refine RQ_to (Rn_zret rfl rfl (Or.inr rfl)) ⟨?_, rfl⟩
    rw [(ztd_iff (G := G) (S := S) (zgR G)).mpr (fun a' h1 => g1 a' (by omega))]; rfl
  have z := (not_congr (zq_le (a := zgR G) (b := a) rfl rfl (by omega) (by omega))).mp z
  refine RQ_n ZR_ok 2 rfl trivial ?_
  refine loopU a (fun b (_ : Unit) => [some (.ref 0), some (.int (nI a)), some (.int (nI b))]) (fun b _ v => v = w ∧ ∀ b', b' < b → zgi G a = true → zgi G b' = true → zgl G a = zgl G b' → S a &&& S b' = 0) ?_ 0 () w (by omega) ⟨rfl, fun b' hb => by omega⟩
  intro b _ v hba hJ ih2
  obtain ⟨rfl, g2⟩ := hJ
  refine RQ_n ZR_ok 2 rfl trivial ?_
  refine RQ_b rfl (fun x => ?_) (fun x => ?_)
  · have x := (zq_le (a := a) (b := b) rfl rfl (by omega) (by omega)).mp x
    refine RQ_n ZR_ok 2 rfl trivial ?_
    refine ih (by omega) () _ _ ⟨rfl, nIs a, trivial⟩ ⟨rfl, fun a' h1 b' h2 => ?_⟩
    by_cases y : a' = a
    · subst y; exact g2 b' (by omega)
    · exact g1 a' (by omega) b' h2
  have x := (not_congr (zq_le (a := a) (b := b) rfl rfl (by omega) (by omega))).mp x
  have p64 : (zgi G a = true → zgi G b = true → zgl G a = zgl G b → S a &&& S b = 0) → RnQ ZR mX12_isTopDown (64, [some (.ref 0), some (.int (nI a)), some (.int (nI b))], [], v) (fun r u => r = some (.int (bI (ztd G S (zgR G)))) ∧ u = v) := by
    intro hq
    refine RQ_n ZR_ok 2 rfl trivial ?_
    refine ih2 (by omega) () _ _ ⟨rfl, rfl, nIs b, trivial⟩ ⟨rfl, fun b' h1 => ?_⟩
    by_cases y : b' = b
    · rw [y]; exact hq
    · exact g2 b' (by omega)
  refine RQ_n ZR_ok 2 rfl trivial ?_
  refine RQ_v vX12_isIn (m_isIn hG (show a < zgR G by omega)) rfl k12_269 rfl rfl rfl rfl rfl ?_
  cases ea : zgi G a with
  | false => exact RQ_b rfl (fun _ => p64 (fun q => by rw [ea] at q; cases q)) (fun q => absurd rfl q)
  | true =>
  refine RQ_b rfl (fun q => absurd (show (1 : Int32) = 0 from q) (by decide)) (fun _ => ?_)
  refine RQ_n ZR_ok 2 rfl trivial ?_
  refine RQ_v vX12_isIn (m_isIn hG (show b < zgR G by omega)) rfl k12_269 rfl rfl rfl rfl rfl ?_
  cases eb : zgi G b with
  | false => exact RQ_b rfl (fun _ => p64 (fun _ q => by rw [eb] at q; cases q)) (fun q => absurd rfl q)
  | true =>
  refine RQ_b rfl (fun q => absurd (show (1 : Int32) = 0 from q) (by decide)) (fun _ => ?_)
  refine RQ_n ZR_ok 3 rfl trivial ?_
  refine RQ_n ZR_ok 1 rfl ⟨nI_in (by omega) (by omega), trivial⟩ ?_
  rw [nI_clamp (show a < 2 ^ 31 by omega), (hG.2.2.1 a (by omega)).1]
  refine RQ_n ZR_ok 3 rfl trivial ?_
  refine RQ_n ZR_ok 1 rfl ⟨nI_in (by omega) (by omega), trivial⟩ ?_
  rw [nI_clamp (show b < 2 ^ 31 by omega), (hG.2.2.1 b (by omega)).1]
  have la := hG.1.2.1 a (by omega)
  have lb := hG.1.2.1 b (by omega)
  by_cases el : zgl G a = zgl G b
  rotate_left
  · exact RQ_b rfl (fun _ => p64 (fun _ _ q => absurd q el)) (fun q => absurd ((zq_eq (a := zgl G a) (b := zgl G b) rfl rfl (by omega) (by omega)).mp (Classical.not_not.mp q)) el)
  refine RQ_b rfl (fun q => absurd ((zq_eq (a := zgl G a) (b := zgl G b) rfl rfl (by omega) (by omega)).mpr el) q) (fun _ => ?_)
  refine RQ_n ZR_ok 2 rfl trivial ?_
  have sa := m_selects hG h (r := a) (by omega)
  have sb := m_selects hG h (r := b) (by omega)
  rw [← hS] at sa sb
  refine RQ_v vX12_selects sa rfl k12_515 rfl rfl rfl rfl rfl ?_
  refine RQ_n ZR_ok 2 rfl trivial ?_
  refine RQ_v vX12_selects sb rfl k12_515 rfl rfl rfl rfl rfl ?_
  refine RQ_n ZR_ok 1 rfl trivial ?_
  by_cases y : S a &&& S b = 0
  · exact RQ_b rfl (fun _ => p64 (fun _ _ _ => y)) (fun q => absurd y q)
  refine RQ_b rfl (fun q => absurd q y) (fun _ => ?_)
  refine RQ_n ZR_ok 1 rfl trivial ?_
  refine RQ_to (Rn_zret rfl rfl (Or.inl rfl)) ⟨?_, rfl⟩
  have : ztd G S (zgR G) = false := by
    cases e : ztd G S (zgR G) with
    | false => rfl
    | true =>
      rw [ztd_iff] at e
      exact absurd (e a (by omega) b (by omega) ea eb el) y
  rw [this]; rfl
end MTd
