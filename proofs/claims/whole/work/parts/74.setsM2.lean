/-! The reference: layOnce, layFollowOnce, laySets. -/
def sum6 (S : Nat → Nat) : Nat := S 0 + S 1 + S 2 + S 3 + S 4 + S 5
theorem sum6_le {S S' : Nat → Nat} (h : ∀ n, n < 6 → S' n ≤ S n) : sum6 S' ≤ sum6 S := by
  have h0 := h 0 (by omega)
  have h1 := h 1 (by omega)
  have h2 := h 2 (by omega)
  have h3 := h 3 (by omega)
  have h4 := h 4 (by omega)
  have h5 := h 5 (by omega)
  unfold sum6
  omega
theorem sum6_lt {S S' : Nat → Nat} (h : ∀ n, n < 6 → S' n ≤ S n) {k : Nat} (hk : k < 6) (hl : S' k < S k) : sum6 S' < sum6 S := by
  have h0 := h 0 (by omega)
  have h1 := h 1 (by omega)
  have h2 := h 2 (by omega)
  have h3 := h 3 (by omega)
  have h4 := h 4 (by omega)
  have h5 := h 5 (by omega)
  unfold sum6
  have : k = 0 ∨ k = 1 ∨ k = 2 ∨ k = 3 ∨ k = 4 ∨ k = 5 := by omega
  rcases this with z | z | z | z | z | z <;> subst z <;> omega
/-- what is left to add, at most -/
def muO (E : Int32) (F : Nat → Int32) (S : Nat → Nat) : Nat := (32 - ctI E 32) + (192 - ct6 F) + sum6 S
theorem muO_le {E E' : Int32} {F F' : Nat → Int32} {S S' : Nat → Nat} (hE : bsub E E') (hF : ∀ n, n < 6 → bsub (F n) (F' n)) (hS : ∀ n, n < 6 → S' n ≤ S n) : muO E' F' S' ≤ muO E F S := by
  have h1 := ctI_up hE
  have h2 := ct6_up hF
  have h3 := sum6_le hS
  unfold muO
  omega
theorem muO_lt {E E' : Int32} {F F' : Nat → Int32} {S S' : Nat → Nat} (hE : bsub E E') (hF : ∀ n, n < 6 → bsub (F n) (F' n)) (hS : ∀ n, n < 6 → S' n ≤ S n) (h : E ≠ E' ∨ (∃ n, n < 6 ∧ F n ≠ F' n) ∨ ∃ n, n < 6 ∧ S' n < S n) : muO E' F' S' < muO E F S := by
  have h1 := ctI_up hE
  have h2 := ct6_up hF
  have h3 := sum6_le hS
  have h4 := ctI_le E' 32
  have h5 := ct6_le F'
  unfold muO
  rcases h with h | ⟨n, hn, h⟩ | ⟨n, hn, h⟩
  · have := ctI_ne hE h; omega
  · have := ct6_lt hF hn h; omega
  · have := sum6_lt hS hn h; omega
/-- all that is told of the sets as they grow -/
def grO (G : ZGT) (E : Int32) (F : Nat → Int32) (S : Nat → Nat) : Prop := (∀ E', zcE G E' → bsub E E') ∧ (∀ E' F', zcE G E' → zcF G E' F' → ∀ n, n < 6 → bsub (F n) (F' n)) ∧ ∀ S', zcS G S' → (∀ n, n < 6 → S' n ≤ 1000000) → ∀ n, n < 6 → S' n ≤ S n
/-- is a rule closed -/
def clO (G : ZGT) (E : Int32) (F : Nat → Int32) (S : Nat → Nat) (r : Nat) : Prop := zgi G r = true → (zAE G E r 0 = true → bt E (zgl G r) = true) ∧ bsub (zFF G E F r 0) (F (zgl G r)) ∧ S (zgl G r) ≤ zSM G S r
def loQ (G : ZGT) (E : Int32) (F : Nat → Int32) (S : Nat → Nat) (s : SM) (b : Bool) (S' : Nat → Nat) (r : Nat) (v : SM) : Prop :=
  (frM [25] [26, 28] s v ∧ SRM S' v ∧ grO G (v.1 25) (v.2.1 26) S') ∧ (bsub E (v.1 25) ∧ (∀ n, n < 6 → bsub (F n) (v.2.1 26 n)) ∧ ∀ n, n < 6 → S' n ≤ S n) ∧ (b = true → muO (v.1 25) (v.2.1 26) S' < muO E F S) ∧ (b = false → v.1 25 = E ∧ v.2.1 26 = F ∧ S' = S ∧ ∀ r', r' < r → clO G E F S r')
set_option maxHeartbeats 2000000 in
theorem m_layOnce {G : ZGT} {s : SM} {S : Nat → Nat} (h : ZGM G s) (hS : SRM S s) (hg : grO G (s.1 25) (s.2.1 26) S) : EvQ ZR mX12_layOnce [.ref 0] s (fun x v => ∃ b S', x = some (.int (bI b)) ∧ loQ G (s.1 25) (s.2.1 26) S s b S' (zgR G) v) := by
  have hb := h.b
  obtain ⟨E, hE⟩ : ∃ E, E = s.1 25 := ⟨_, rfl⟩
  obtain ⟨F, hF⟩ : ∃ F, F = s.2.1 26 := ⟨_, rfl⟩
  rw [← hE, ← hF] at hg ⊢
  refine EQ_V vX12_layOnce rfl ?_
  refine RQ_n ZR_ok 4 rfl trivial ?_
  refine loopU (zgR G) (fun r (x : Bool × (Nat → Nat)) => [some (.ref 0), some (.int (bI x.1)), some (.int (nI r)), none, none, none, none]) (fun r x v => loQ G E F S s x.1 x.2 r v) ?_ 0 (false, S) s (by omega) ⟨⟨frM.rf, hS, by rw [← hE, ← hF]; exact hg⟩, ⟨by rw [← hE]; exact bsub_rf, fun n _ => (by rw [← hF]; exact bsub_rf), fun n _ => Nat.le_refl _⟩, fun z => (by cases z), fun _ => ⟨hE.symm, hF.symm, rfl, fun r' hr' => by omega⟩⟩
  intro r x v hr hJ ih
  obtain ⟨x, S1⟩ := x
  obtain ⟨⟨g1, g2, g3⟩, ⟨g4, g5, g6⟩, g7, g8⟩ := hJ
  dsimp only at g2 g3 g6 g7 g8 ⊢
  have hv : ZGM G v := h.fr g1 (by decide)
  refine RQ_n ZR_ok 3 rfl trivial ?_
  refine RQ_b rfl (fun q => ?_) (fun q => ?_)
  · have q := (zq_le hv.R rfl (by omega) (by omega)).mp q
    have : r = zgR G := by omega
    subst this
    refine RQ_n ZR_ok 1 rfl trivial ?_
    exact RQ_to (Rn_zret rfl rfl (bI_01 _)) ⟨x, S1, rfl, ⟨g1, g2, g3⟩, ⟨g4, g5, g6⟩, g7, g8⟩
  have q := (not_congr (zq_le hv.R rfl (by omega) (by omega))).mp q
  have hrR : r < zgR G := by omega
  have hl6 := h.1.l hrR
  have hrc : (nI r).toNatClampNeg = r := nI_clamp (by omega)
  have e18 : v.2.1 18 (nI r).toNatClampNeg = nI (zgl G r) := by rw [hrc]; exact hv.l hrR
  refine RQ_n ZR_ok 2 rfl trivial ?_
  refine RQ_v vX12_isIn (m_isIn hv hrR) rfl k12_269 rfl rfl rfl rfl rfl ?_
  refine RQ_b rfl (fun q2 => ?_) (fun q2 => ?_)
  · have q2 := bI_0.mp q2
    refine RQ_n ZR_ok 2 rfl trivial ?_
    refine ih hrR (x, S1) _ _ ⟨rfl, rfl, nIs r, trivial⟩ ⟨⟨g1, g2, g3⟩, ⟨g4, g5, g6⟩, g7, fun z => ?_⟩
    obtain ⟨a1, a2, a3, a4⟩ := g8 z
    refine ⟨a1, a2, a3, fun r' hr' => ?_⟩
    by_cases y : r' = r
    · subst y; intro z; rw [q2] at z; cases z
    · exact a4 r' (by omega)
  have q2 := bI_t q2
  have hlc : (v.2.1 18 (nI r).toNatClampNeg).toNatClampNeg = zgl G r := by rw [e18, nI_clamp (by omega)]
  have hlin : vp_in (v.2.1 18 (nI r).toNatClampNeg) 6 := by rw [e18]; exact nI_in (by omega) (by omega)
  refine RQ_n ZR_ok 24 rfl ⟨nI_in (by omega) (by omega), hlin, hlin, trivial⟩ ?_
  refine RQ_v vX12_isEmptyFrom (m_isEmptyFrom hv (i := 0) (by omega) (by omega)) rfl k12_294 rfl rfl rfl rfl rfl ?_
  -- the set of empty names is known
  obtain ⟨E1, hE1⟩ : ∃ E1, E1 = v.1 25 ||| (if zAE G (v.1 25) r 0 = true then b1 (zgl G r) else 0) := ⟨_, rfl⟩
  have body : RnQ ZR mX12_layOnce (71, [some (.ref 0), some (.int (bI x)), some (.int (nI r)), some (.int (v.2.1 18 (nI r).toNatClampNeg)), some (.int (v.1 25)), some (.int (v.2.1 26 (v.2.1 18 (nI r).toNatClampNeg).toNatClampNeg)), some (.int (v.2.1 28 (v.2.1 18 (nI r).toNatClampNeg).toNatClampNeg))], [.int E1, .ref 0], v) (fun x v => ∃ b S', x = some (.int (bI b)) ∧ loQ G E F S s b S' (zgR G) v) := by
    rw [hlc]
    obtain ⟨v1, hv1⟩ : ∃ v1 : SM, v1 = (updS v.1 25 E1, v.2) := ⟨_, rfl⟩
    have f1 : frM [25] [] v v1 := by rw [hv1]; exact frM.i 25 (by decide)
    have hv1X : ZGM G v1 := hv.fr f1 (by decide)
    have e25 : v1.1 25 = E1 := by rw [hv1]; rfl
    refine RQ_n ZR_ok 9 rfl ⟨hlin, trivial⟩ ?_
    show RnQ ZR mX12_layOnce (84, _, _, (updS v.1 25 E1, v.2)) _
    rw [← hv1]
    have hff := m_firstFrom hv1X (r := r) (i := 0) (by omega) (by omega)
    rw [e25] at hff
    refine RQ_v vX12_firstFrom hff rfl k12_297 rfl rfl rfl rfl rfl ?_
    have e26 : v1.2.1 26 = v.2.1 26 := f1.2.1 26 (by decide)
    obtain ⟨y, hy⟩ : ∃ y, y = zFF G E1 (v1.2.1 26) r 0 := ⟨_, rfl⟩
    rw [← hy]
    have hlin1 : vp_in (v1.2.1 18 (nI r).toNatClampNeg) 6 := by rw [f1.2.1 18 (by decide)]; exact hlin
    have e18b : (v.2.1 18 (nI r).toNatClampNeg) = nI (zgl G r) := e18
    rw [e18b]
    have hnin : vp_in (nI (zgl G r)) 6 := nI_in (by omega) (by omega)
    have hnc : (nI (zgl G r)).toNatClampNeg = zgl G r := nI_clamp (by omega)
    have e26b : (updS v.1 25 E1, v.2).2.1 26 (nI (zgl G r)).toNatClampNeg = v1.2.1 26 (zgl G r) := by rw [hnc, hv1]
    refine RQ_n ZR_ok 11 rfl ⟨hnin, hnin, trivial⟩ ?_
    obtain ⟨v2, hv2⟩ : ∃ v2 : SM, v2 = (v1.1, updA v1.2.1 26 (zgl G r) (v1.2.1 26 (zgl G r) ||| y), v1.2.2) := ⟨_, rfl⟩
    have f2 : frM [] [26] v1 v2 := by rw [hv2]; exact frM.a 26 (by decide)
    have hv2X : ZGM G v2 := hv1X.fr f2 (by decide)
    rw [hnc, ← hv2]
    have hS2 : SRM S1 v2 := fun n hn => by rw [f2.2.1 28 (by decide), f1.2.1 28 (by decide)]; exact g2 n hn
    refine RQ_v vX12_shortestOf (m_shortestOf hv2X hS2 (r := r) (by omega)) rfl k12_300 rfl rfl rfl rfl rfl ?_
    have e28 : v2.2.1 28 (zgl G r) = nI (S1 (zgl G r)) := (hS2 _ hl6).1
    have hsl : S1 (zgl G r) ≤ 1000000 := (hS2 _ hl6).2
    have hsm : zSM G S1 r ≤ 1000000 := Nat.min_le_left _ _
    rw [e28]
    refine RQ_min rfl k12_289 rfl ?_
    rw [nI_min (by omega) (by omega)]
    refine RQ_n ZR_ok 2 rfl ⟨hnin, trivial⟩ ?_
    rw [hnc]
    obtain ⟨v3, hv3⟩ : ∃ v3 : SM, v3 = (v2.1, updA v2.2.1 28 (zgl G r) (nI (min (S1 (zgl G r)) (zSM G S1 r))), v2.2.2) := ⟨_, rfl⟩
    rw [← hv3]
    have f3 : frM [] [28] v2 v3 := by rw [hv3]; exact frM.a 28 (by decide)
    have f13 : frM [25] [26, 28] v v3 := ((f1.up (by decide) (by decide)).tr (f2.up (by decide) (by decide))).tr (f3.up (by decide) (by decide))
    have c25 : v3.1 25 = E1 := by rw [f3.1 25 (by decide), f2.1 25 (by decide)]; exact e25
    have c26 : v3.2.1 26 = upd (v.2.1 26) (zgl G r) (v.2.1 26 (zgl G r) ||| y) := by
      rw [f3.2.1 26 (by decide), hv2, ← e26]
      rfl
    have c28 : v3.2.1 28 = upd (v2.2.1 28) (zgl G r) (nI (min (S1 (zgl G r)) (zSM G S1 r))) := by rw [hv3]; rfl
    have hE1s : bsub (v.1 25) E1 := by rw [hE1]; exact bsub_l
    rw [e26] at hy
    have hF3 : ∀ n, n < 6 → bsub (v.2.1 26 n) (v3.2.1 26 n) := by
      intro n hn
      rw [c26]
      by_cases z : n = zgl G r
      · subst z; rw [upd_at]; exact bsub_l
      · rw [upd_ne z]; exact bsub_rf
    obtain ⟨S2, hS2d⟩ : ∃ S2, S2 = updN S1 (zgl G r) (min (S1 (zgl G r)) (zSM G S1 r)) := ⟨_, rfl⟩
    have hS3 : ∀ n, n < 6 → S2 n ≤ S1 n := by
      intro n hn
      rw [hS2d]
      by_cases z : n = zgl G r
      · subst z; rw [updN_at]; omega
      · rw [updN_ne z]; exact Nat.le_refl _
    have hSR : SRM S2 v3 := by
      intro n hn
      rw [c28, hS2d]
      by_cases z : n = zgl G r
      · subst z; rw [upd_at, updN_at]; exact ⟨rfl, by omega⟩
      · rw [upd_ne z, updN_ne z]; exact hS2 n hn
    have hEc : ∀ E', zcE G E' → bsub E1 E' := by
      intro E' hE'
      rw [hE1]
      refine bsub_or (g3.1 E' hE') ?_
      by_cases z : zAE G (v.1 25) r 0 = true
      · rw [if_pos z]
        exact b1_sub (by omega) (hE' r hrR q2 (zae_up (g3.1 E' hE') z))
      · rw [if_neg z]; exact bsub_0
    have hgr : grO G (v3.1 25) (v3.2.1 26) S2 := by
      refine ⟨by rw [c25]; exact hEc, fun E' F' hE' hF' n hn => ?_, fun S' a1 a2 n hn => ?_⟩
      · rw [c26]
        by_cases z : n = zgl G r
        · subst z
          rw [upd_at, hy]
          exact bsub_or (g3.2.1 E' F' hE' hF' _ hl6) (bsub_tr (zFF_up h.1 (by omega) (hEc E' hE') (g3.2.1 E' F' hE' hF')) (hF' r hrR q2))
        · rw [upd_ne z]; exact g3.2.1 E' F' hE' hF' n hn
      · rw [hS2d]
        by_cases z : n = zgl G r
        · subst z
          rw [updN_at]
          have h1 := g3.2.2 S' a1 a2 _ hl6
          have h2 := a1 r hrR q2
          have h3 := zsu_up (G := G) (r := r) (S := S1) (S' := S') (d := zgn G r) (i := 0) (g3.2.2 S' a1 a2) (fun k _ hk => (h.1.t (r := r) (by omega) (by omega)).1)
          unfold zSM at h2 ⊢
          omega
        · rw [updN_ne z]; exact g3.2.2 S' a1 a2 n hn
    have fin : ∀ b : Bool, (b = true → x = true ∨ v.1 25 ≠ E1 ∨ v.2.1 26 (zgl G r) ≠ v3.2.1 26 (zgl G r) ∨ S1 (zgl G r) ≠ min (S1 (zgl G r)) (zSM G S1 r)) → (b = false → x = false ∧ v.1 25 = E1 ∧ v.2.1 26 (zgl G r) = v3.2.1 26 (zgl G r) ∧ S1 (zgl G r) = min (S1 (zgl G r)) (zSM G S1 r)) →
        RnQ ZR mX12_layOnce (149, [some (.ref 0), some (.int (bI x)), some (.int (nI r)), some (.int (nI (zgl G r))), some (.int (v.1 25)), some (.int (v.2.1 26 (zgl G r))), some (.int (v.2.1 28 (zgl G r)))], [.int (bI b)], v3) (fun x v => ∃ b S', x = some (.int (bI b)) ∧ loQ G E F S s b S' (zgR G) v) := by
      intro b hb1 hb2
      refine RQ_n ZR_ok 3 rfl trivial ?_
      refine ih hrR (b, S2) _ _ ⟨rfl, rfl, nIs r, trivial⟩ ⟨⟨g1.tr f13, hSR, hgr⟩, ⟨by rw [c25]; exact bsub_tr g4 hE1s, fun n hn => bsub_tr (g5 n hn) (hF3 n hn), fun n hn => Nat.le_trans (hS3 n hn) (g6 n hn)⟩, fun z => ?_, fun z => ?_⟩
      · have m1 : muO (v3.1 25) (v3.2.1 26) S2 ≤ muO (v.1 25) (v.2.1 26) S1 := muO_le (by rw [c25]; exact hE1s) hF3 hS3
        have m2 : muO (v.1 25) (v.2.1 26) S1 ≤ muO E F S := muO_le g4 g5 g6
        rcases hb1 z with y | y | y | y
        · have := g7 y; dsimp only; omega
        · have := muO_lt (E := v.1 25) (E' := v3.1 25) (by rw [c25]; exact hE1s) hF3 hS3 (Or.inl (by rw [c25]; exact y))
          dsimp only; omega
        · have := muO_lt (E := v.1 25) (E' := v3.1 25) (by rw [c25]; exact hE1s) hF3 hS3 (Or.inr (Or.inl ⟨_, hl6, y⟩))
          dsimp only; omega
        · have := muO_lt (E := v.1 25) (E' := v3.1 25) (by rw [c25]; exact hE1s) hF3 hS3 (Or.inr (Or.inr ⟨_, hl6, by rw [hS2d, updN_at]; omega⟩))
          dsimp only; omega
      · obtain ⟨y1, y2, y3, y4⟩ := hb2 z
        obtain ⟨a1, a2, a3, a4⟩ := g8 y1
        have d26 : v3.2.1 26 = F := by
          rw [c26] at y3 ⊢
          rw [upd_at] at y3
          rw [← y3, a2]
          funext n
          by_cases w : n = zgl G r
          · subst w; rw [upd_at]
          · rw [upd_ne w]
        have dS : S2 = S := by
          rw [hS2d, ← y4, a3]
          funext n
          by_cases w : n = zgl G r
          · subst w; rw [updN_at]
          · rw [updN_ne w]
        refine ⟨by rw [c25, ← y2, a1], d26, dS, fun r' hr' => ?_⟩
        by_cases w : r' = r
        · subst w
          intro _
          rw [← y2, a1] at hE1 hy
          rw [a2] at hy y3
          rw [a3] at y4
          refine ⟨fun e => ?_, ?_, by omega⟩
          · rw [hE1, if_pos e, b_or, b1_at (by omega), Bool.or_true]
          · have : F (zgl G r') = F (zgl G r') ||| y := by
              rw [c26, upd_at, a2] at y3
              exact y3
            rw [this, hy]
            exact bsub_r
        · exact a4 r' (by omega)
    have yes : (x = true ∨ v.1 25 ≠ E1 ∨ v.2.1 26 (zgl G r) ≠ v3.2.1 26 (zgl G r) ∨ S1 (zgl G r) ≠ min (S1 (zgl G r)) (zSM G S1 r)) → RnQ ZR mX12_layOnce (144, [some (.ref 0), some (.int (bI x)), some (.int (nI r)), some (.int (nI (zgl G r))), some (.int (v.1 25)), some (.int (v.2.1 26 (zgl G r))), some (.int (v.2.1 28 (zgl G r)))], [], v3) (fun x v => ∃ b S', x = some (.int (bI b)) ∧ loQ G E F S s b S' (zgR G) v) := by
      intro hy
      refine RQ_n ZR_ok 2 rfl trivial ?_
      exact fin true (fun _ => hy) (fun z => by cases z)
    refine RQ_b rfl (fun q3 => yes (Or.inl (bI_t q3))) (fun q3 => ?_)
    have q3 := bI_0.mp (Classical.not_not.mp q3)
    refine RQ_n ZR_ok 3 rfl trivial ?_
    refine RQ_b rfl (fun q4 => yes (Or.inr (Or.inl (by have q4 : ¬ v.1 25 = v3.1 25 := q4; rw [c25] at q4; exact q4)))) (fun q4 => ?_)
    have q4 : v.1 25 = v3.1 25 := Classical.not_not.mp q4
    rw [c25] at q4
    refine RQ_n ZR_ok 5 rfl ⟨hnin, trivial⟩ ?_
    rw [hnc]
    refine RQ_b rfl (fun q5 => yes (Or.inr (Or.inr (Or.inl q5)))) (fun q5 => ?_)
    have q5 : v.2.1 26 (zgl G r) = v3.2.1 26 (zgl G r) := Classical.not_not.mp q5
    refine RQ_n ZR_ok 5 rfl ⟨hnin, trivial⟩ ?_
    rw [hnc]
    have e6 : (v.2.1 28 (zgl G r) = v3.2.1 28 (zgl G r)) ↔ S1 (zgl G r) = min (S1 (zgl G r)) (zSM G S1 r) := by
      rw [c28, upd_at, (g2 _ hl6).1]
      exact nI_eq (by omega) (by omega)
    refine RQ_b rfl (fun q6 => ?_) (fun q6 => yes (Or.inr (Or.inr (Or.inr (fun w => q6 (e6.mpr w))))))
    have q6 := e6.mp q6
    refine RQ_n ZR_ok 1 rfl trivial ?_
    exact fin false (fun z => by cases z) (fun _ => ⟨q3, q4, q5, q6⟩)
  refine RQ_b rfl (fun q3 => ?_) (fun q3 => ?_)
  · have q3 := bI_0.mp q3
    refine RQ_n ZR_ok 2 rfl trivial ?_
    rw [q3, if_neg (by decide)] at hE1
    rw [hE1] at body
    exact body
  · have q3 := bI_t q3
    refine RQ_n ZR_ok 5 rfl trivial ?_
    rw [q3, if_pos rfl] at hE1
    rw [hE1] at body
    rw [e18] at body ⊢
    exact body
