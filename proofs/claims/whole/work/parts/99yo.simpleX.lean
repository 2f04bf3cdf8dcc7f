/-! followsSettle: the class. -/
section XSim
variable {P : YP} {G : ZGT} {N : ZNM} {C W : Nat → Int32} {u : SX} {k : Nat}
theorem zal_iff {q : Nat → Bool} : ∀ n, zal q n = true ↔ ∀ i, i < n → q i = true
  | 0 => ⟨fun _ i hi => by omega, fun _ => rfl⟩
  | n + 1 => by
    rw [zal, Bool.and_eq_true, zal_iff n]
    refine ⟨fun h i hi => ?_, fun h => ⟨fun i hi => h i (by omega), h n (by omega)⟩⟩
    by_cases y : i = n
    · rw [y]; exact h.2
    · exact h.1 i (by omega)
theorem zlW_mk {E : Int32} {F : Nat → Int32} (hG : GW G) (hF : ∀ n, n < 6 → bsub (F n) (zmk (zgT G))) (h : zlW G E F W) : ∀ n, n < 6 → bsub (W n) (zmk (zgT G + 1)) := by
  have hT := hG.1.2.2.2.2
  refine h.2 (fun _ => zmk (zgT G + 1)) ⟨(zmk_sub (by omega)).mpr (fun t ht => ?_), fun r hr _ i hi _ => zLB_mk hG hF (by omega) bsub_rf⟩
  rw [b1_bt (by omega)] at ht
  have := of_decide_eq_true ht
  omega
theorem zcw_wS (hG : GW G) (hF : ZNF G N) (hk : k < N.1) (hW : ∀ n, n < 6 → W n = zW0 G n) (t : Nat) : zcw G (zlf (N.2.2 k) 14 &&& 255) (zlkf G true W C) (zSf G C) t = zwS G C (N.2.2 k) t := by
  unfold zcw zwS
  rw [zsh_bt hG hF hk t, zcnt_cg (p := fun r => zSf G C r && bt (zlkf G true W C r) t) (p' := fun r => zSf G C r && bt (zlkf G true (zW0 G) C r) t) _ (fun i hi => ?_)]
  have e : zlkf G true W C i = zlkf G true (zW0 G) C i := by
    unfold zlkf
    rw [if_pos rfl, if_pos rfl]
    by_cases y : i = zgR G
    · rw [if_pos y, if_pos y]
    · have := hG.2.1 i (by omega)
      have := hG.1.2.2.2.1
      rw [if_neg y, if_neg y, hW _ (by omega)]
  show (zSf G C i && bt (zlkf G true W C i) t) = (zSf G C i && bt (zlkf G true (zW0 G) C i) t)
  rw [e]
theorem zwS_hi (hG : GW G) (hW : ∀ n, n < 6 → bsub (zW0 G n) (zmk (zgT G + 1))) {t : Nat} (h1 : zgT G < t) {g : Nat → Option Nat} : zwS G C g t = 0 := by
  have hT := hG.1.2.2.2.2
  have hno : ∀ r, r ≤ zgR G → bt (zlkf G true (zW0 G) C r) t = false := fun r hr => by
    unfold zlkf
    rw [if_pos rfl]
    by_cases y : r = zgR G
    · rw [if_pos y, b1_bt (by omega), decide_eq_false (by omega)]
    · have := hG.2.1 r (by omega)
      have := hG.1.2.2.2.1
      rw [if_neg y]
      cases hb : bt (zW0 G (zgl G r)) t with
      | false => rfl
      | true =>
        have := (zmk_sub (by omega)).mp (hW _ (by omega)) t hb
        omega
  have h0 : ∀ n, n ≤ zgR G + 1 → zcnt (fun r => zSf G C r && bt (zlkf G true (zW0 G) C r) t) n = 0 := fun n => by
    induction n with
    | zero => intro _; rfl
    | succ n ih => intro hn; rw [zcnt, ih (by omega), hno n (by omega), Bool.and_false]; rfl
  unfold zwS zsh
  rw [if_neg (show ¬ t < zgT G by omega), h0 _ (Nat.le_refl _)]
  rfl
set_option maxHeartbeats 1000000 in
theorem y_followsSettle (h : ZFX G u) (hF : ZNF G N) (hV : XV G N u) : EvQ (ZY P) mX0_followsSettle [.ref 47] u (fun x v => x = some (.int (bI (zal (zsk G N) N.1))) ∧ frX [(47, 7), (47, 8), (47, 9)] [51] u v) := by
  have hb := h.1.b
  have hN := hF.1.2
  obtain ⟨c1, c2, c3, c4⟩ := h.c
  have hW := h.w
  have hWm : ∀ n, n < 6 → bsub (zW0 G n) (zmk (zgT G + 1)) := fun n hn => by
    have h5 := h.2.2.2.2.1
    rw [← hW n hn]
    exact zlW_mk h.1.1 (zlF_mk h.1.1 h.2.2.1) h5 n hn
  refine EQ_V vX0_followsSettle rfl ?_
  refine RQ_n (ZY_ok P) 2 rfl trivial ?_
  refine loopU N.1 (fun k (_ : Unit) => [some (.ref 47), some (.int (nI k))]) (fun k _ w => zal (zsk G N) k = true ∧ frX [(47, 7), (47, 8), (47, 9)] [51] u w) ?_ 0 () u (by omega) ⟨rfl, frX.rf⟩
  intro k _ w hk hJ ih
  obtain ⟨g1, g2⟩ := hJ
  have Vw := hV.fr g2 (by decide) (by decide)
  have Gw := h.1.fr g2 rfl
  refine RQ_n (ZY_ok P) 4 rfl trivial ?_
  rw [Vw.1]
  refine RQ_b rfl (fun z => ?_) (fun z => ?_)
  · have z := (zq_le (a := N.1) (b := k) rfl rfl (by omega) (by omega)).mp z
    rw [show k = N.1 by omega] at g1
    refine RQ_n (ZY_ok P) 1 rfl trivial ?_
    exact RQ_to (Rn_zret rfl rfl (Or.inr rfl)) ⟨by rw [g1]; rfl, g2⟩
  have z := (not_congr (zq_le (a := N.1) (b := k) rfl rfl (by omega) (by omega))).mp z
  have hkn : k < N.1 := by omega
  refine RQ_n (ZY_ok P) 3 rfl trivial ?_
  refine RQ_V vX0_weigh (y_weigh Gw hF Vw hkn true) rfl k0_49 rfl rfl rfl (zy47 _ rfl) (fun _ s1 q => by show 3 * s1.2.2.2.2.1 + 99 = 3 * w.2.2.2.2.1 + 99; rw [q.2.2.2.2]) ?_
  rintro r2 v2 ⟨rfl, X2, f2⟩
  rw [g2.2.1 16 (by decide)] at X2
  have hbt : ∀ t, t < 32 → bt (v2.1 47 8) t = decide (2 ≤ zwS G (zcl G (zE0 G) (zF0 G) (N.2.1 k)) (N.2.2 k) t) := fun t ht => by rw [X2.2.1 t ht, zcw_wS h.1.1 hF hkn hW]
  have hz : v2.1 47 8 = 0 ↔ zsk G N k = true := by
    unfold zsk
    rw [zal_iff]
    constructor
    · intro e t ht
      have := hbt t (by omega)
      rw [e, b_0] at this
      have := of_decide_eq_false this.symm
      exact decide_eq_true (by omega)
    · intro e
      refine b_ext (fun t ht => ?_)
      rw [hbt t ht, b_0]
      refine decide_eq_false (fun y => ?_)
      by_cases x : t < zgT G + 1
      · have := of_decide_eq_true (e t x)
        omega
      · rw [zwS_hi h.1.1 hWm (by omega)] at y
        omega
  refine RQ_n (ZY_ok P) 2 rfl trivial ?_
  by_cases y : v2.1 47 8 = 0
  · refine RQ_b rfl (fun _ => ?_) (fun q => absurd y q)
    refine RQ_n (ZY_ok P) 2 rfl trivial ?_
    exact ih (by omega) () _ _ ⟨rfl, nIs k, trivial⟩ ⟨by rw [zal, g1, hz.mp y]; rfl, g2.tr f2⟩
  · refine RQ_b rfl (fun q => absurd q y) (fun _ => ?_)
    refine RQ_n (ZY_ok P) 1 rfl trivial ?_
    refine RQ_to (Rn_zret rfl rfl (Or.inl rfl)) ⟨?_, g2.tr f2⟩
    have e : zsk G N k = false := by
      cases e : zsk G N k with
      | false => rfl
      | true => exact absurd (hz.mpr e) y
    rw [zal_no (i := k + 1) (by rw [zal, e, Bool.and_false]) N.1 (by omega)]; rfl
end XSim
