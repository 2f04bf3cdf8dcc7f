/-! The reference: layPath. -/
def lpJ (c : Nat → Nat) (e : Nat) (v : SM) : Prop := (∀ j, j < c e → v.2.1 50 j = nI j) ∧ (∀ t, t < 200 → (t = 0 ∨ c e ≤ t) → v.2.1 53 t = -1) ∧ ∀ t, 1 ≤ t → t < c e → v.2.1 53 t = nI (zfr c t) ∧ v.2.1 54 t = nI (zfb c t)
def lpQ (c : Nat → Nat) (k : Nat) (s : SM) (x : Option Value) (v : SM) : Prop := x = some (.int (nI (zpl c k))) ∧ (∀ i, i < zpl c k → v.2.1 55 i = nI (zlm (zfb c (zanc c (zpl c k - 1 - i) k)))) ∧ frM [] [50, 53, 54, 55] s v
-- METHOD X12_layPath
set_option maxHeartbeats 2000000 in
theorem m_layPath2 {N : ZNM} {c : Nat → Nat} {s u : SM} {kd k : Nat} {x3 x4 x5 x6 : Option Value} (hO : ZNO N.1 N.2.2 c) (hk : k < N.1) (hJ : lpJ c (14 * N.1) u) (f : frM [] [50, 53, 54] s u) : RnQ ZR mX12_layPath (128, [some (.ref 0), some (.int (nI kd)), some (.int (nI k)), x3, x4, x5, x6], [], u) (lpQ c k s) := by
  have hn := hO.2.1
  have hce := hO.2.2.2.2.2.1
  have hple := zpl_le hO k hk
  obtain ⟨-, -, j3⟩ := hJ
  rw [hce] at j3
  refine RQ_le (l' := [some (.ref 0), some (.int (nI kd)), some (.int (nI k)), none, none, none, none]) ⟨rfl, rfl, rfl, trivial⟩ ?_
  refine RQ_n ZR_ok 4 rfl trivial ?_
  have hanc : ∀ j, j ≤ zpl c k → zanc c j k < N.1 ∧ (zanc c j k = 0 ↔ j = zpl c k) := fun j hj => by
    obtain ⟨a1, a2⟩ := zanc_pl hO j k hk hj
    refine ⟨a1, fun y => ?_, fun y => ?_⟩
    · rw [y, zpl_0] at a2; omega
    · exact (zpl_pos hO a1).mp (by rw [a2]; omega)
  -- the letters
  have p161 : ∀ d j v, j + d = zpl c k → (∀ i, zpl c k - j ≤ i → i < zpl c k → v.2.1 55 i = nI (zlm (zfb c (zanc c (zpl c k - 1 - i) k)))) → frM [] [55] u v → RnQ ZR mX12_layPath (161, [some (.ref 0), some (.int (nI kd)), some (.int (nI k)), none, some (.int (nI (zpl c k))), some (.int (nI (zpl c k - j))), some (.int (nI (zanc c j k)))], [], v) (lpQ c k s) := by
    intro d
    induction d with
    | zero =>
      intro j v hj h55 hf
      refine RQ_n ZR_ok 1 rfl trivial ?_
      rw [(hanc j (by omega)).2.mpr (by omega)]
      refine RQ_b rfl (fun _ => ?_) (fun z => absurd rfl z)
      refine RQ_n ZR_ok 1 rfl trivial ?_
      exact RQ_to (Rn_iret rfl rfl) ⟨rfl, fun i hi => h55 i (by omega) hi, (f.up (by decide) (by decide)).tr (hf.up (by decide) (by decide))⟩
    | succ d ih =>
      intro j v hj h55 hf
      obtain ⟨a1, a2⟩ := hanc j (by omega)
      have a3 : 1 ≤ zanc c j k := by
        rcases Nat.eq_zero_or_pos (zanc c j k) with y | y
        · have := a2.mp y; omega
        · exact y
      obtain ⟨b1, b2⟩ := j3 _ a3 a1
      have hb14 : zfb c (zanc c j k) < 14 := Nat.mod_lt _ (by omega)
      have hin : vp_in (nI (zanc c j k)) 200 := nI_in (by omega) (by omega)
      have hic : (nI (zanc c j k)).toNatClampNeg = zanc c j k := nI_clamp (by omega)
      have e54 : v.2.1 54 = u.2.1 54 := hf.2.1 54 (by decide)
      have e53 : v.2.1 53 = u.2.1 53 := hf.2.1 53 (by decide)
      refine RQ_n ZR_ok 1 rfl trivial ?_
      refine RQ_b rfl (fun z => ?_) (fun _ => ?_)
      · have := (zq_eq (a := zanc c j k) (b := 0) rfl rfl (by omega) (by omega)).mp z
        omega
      have em : nI (zpl c k - j) + (-1) = nI (zpl c k - (j + 1)) := by
        rw [← Int32.sub_eq_add_neg, show (1 : Int32) = nI 1 from rfl, nI_sub (by omega)]; congr 1
      refine RQ_n ZR_ok 7 rfl trivial ?_
      rw [em]
      refine RQ_n ZR_ok 1 rfl ⟨hin, trivial⟩ ?_
      rw [hic, e54, b2]
      refine RQ_n ZR_ok 1 rfl trivial ?_
      have p210 : ∀ x : Int32, x = nI (zlm (zfb c (zanc c j k))) → RnQ ZR mX12_layPath (210, [some (.ref 0), some (.int (nI kd)), some (.int (nI k)), none, some (.int (nI (zpl c k))), some (.int (nI (zpl c k - (j + 1)))), some (.int (nI (zanc c j k)))], [.int x, .int (nI (zpl c k - (j + 1))), .ref 38], v) (lpQ c k s) := by
        intro x hx
        refine RQ_n ZR_ok 1 rfl ⟨nI_in (by omega) (by omega), trivial⟩ ?_
        rw [nI_clamp (show zpl c k - (j + 1) < 2 ^ 31 by omega)]
        obtain ⟨v1, hv1⟩ : ∃ w : SM, w = (v.1, updA v.2.1 55 (zpl c k - (j + 1)) x, v.2.2) := ⟨_, rfl⟩
        rw [← hv1]
        have f1 : frM [] [55] v v1 := by rw [hv1]; exact frM.a 55 (by decide)
        have g55 : v1.2.1 55 = upd (v.2.1 55) (zpl c k - (j + 1)) x := by rw [hv1]; rfl
        refine RQ_n ZR_ok 3 rfl trivial ?_
        refine RQ_n ZR_ok 1 rfl ⟨hin, trivial⟩ ?_
        rw [hic, f1.2.1 53 (by decide), e53, b1, ← zanc_s]
        refine RQ_n ZR_ok 2 rfl trivial ?_
        refine ih (j + 1) v1 (by omega) (fun i h1 h2 => ?_) (hf.tr f1)
        rw [g55]
        by_cases y : i = zpl c k - (j + 1)
        · rw [y, upd_at, hx, show zpl c k - 1 - (zpl c k - (j + 1)) = j by omega]
        · rw [upd_ne y]; exact h55 i (by omega) h2
      refine RQ_b rfl (fun z => ?_) (fun z => ?_)
      · have z := (zq_le (a := 8) (b := zfb c (zanc c j k)) rfl rfl (by omega) (by omega)).mp z
        refine RQ_n ZR_ok 4 rfl trivial ?_
        refine RQ_n ZR_ok 1 rfl ⟨hin, trivial⟩ ?_
        rw [hic, e54, b2]
        refine RQ_n ZR_ok 3 rfl trivial ?_
        refine p210 _ ?_
        rw [show (100 : Int32) = nI 100 from rfl, nI_add, show (8 : Int32) = nI 8 from rfl, nI_sub (by omega)]
        unfold zlm
        rw [if_neg (by omega), show 100 + zfb c (zanc c j k) - 8 = 92 + zfb c (zanc c j k) by omega]
      · have z := (not_congr (zq_le (a := 8) (b := zfb c (zanc c j k)) rfl rfl (by omega) (by omega))).mp z
        refine RQ_n ZR_ok 3 rfl trivial ?_
        refine RQ_n ZR_ok 1 rfl ⟨hin, trivial⟩ ?_
        rw [hic, e54, b2]
        refine RQ_n ZR_ok 1 rfl trivial ?_
        refine p210 _ ?_
        unfold zlm
        rw [if_pos (by omega)]
  have p134 : ∀ d j, j + d = zpl c k → RnQ ZR mX12_layPath (134, [some (.ref 0), some (.int (nI kd)), some (.int (nI k)), none, some (.int (nI j)), some (.int (nI (zanc c j k))), none], [], u) (lpQ c k s) := by
    intro d
    induction d with
    | zero =>
      intro j hj
      refine RQ_n ZR_ok 1 rfl trivial ?_
      rw [(hanc j (by omega)).2.mpr (by omega)]
      refine RQ_b rfl (fun _ => ?_) (fun z => absurd rfl z)
      refine RQ_n ZR_ok 4 rfl trivial ?_
      have := p161 (zpl c k) 0 u (by omega) (fun i h1 h2 => by omega) frM.rf
      rw [show j = zpl c k by omega]
      exact this
    | succ d ih =>
      intro j hj
      obtain ⟨a1, a2⟩ := hanc j (by omega)
      have a3 : 1 ≤ zanc c j k := by
        rcases Nat.eq_zero_or_pos (zanc c j k) with y | y
        · have := a2.mp y; omega
        · exact y
      refine RQ_n ZR_ok 1 rfl trivial ?_
      refine RQ_b rfl (fun z => ?_) (fun _ => ?_)
      · have := (zq_eq (a := zanc c j k) (b := 0) rfl rfl (by omega) (by omega)).mp z
        omega
      refine RQ_n ZR_ok 4 rfl trivial ?_
      refine RQ_n ZR_ok 1 rfl ⟨nI_in (by omega) (by omega), trivial⟩ ?_
      rw [nI_clamp (show zanc c j k < 2 ^ 31 by omega), (j3 _ a3 a1).1, ← zanc_s, show nI j + 1 = nI (j + 1) from nI_add j 1]
      refine RQ_n ZR_ok 2 rfl trivial ?_
      exact ih (j + 1) (by omega)
  exact p134 (zpl c k) 0 (by omega)
set_option maxHeartbeats 2000000 in
theorem m_layPath {N : ZNM} {c : Nat → Nat} {s : SM} {kd k : Nat} (hk3 : kd < 3) (hO : ZNO N.1 N.2.2 c) (hR : RMn kd N s) (hk : k < N.1) : EvQ ZR mX12_layPath [.ref 0, .int (nI kd), .int (nI k)] s (lpQ c k s) := by
  have hn := hO.2.1
  refine EQ_V vX12_layPath rfl ?_
  refine RQ_n ZR_ok 2 rfl trivial ?_
  refine loopU 200 (fun i (_ : Unit) => [some (.ref 0), some (.int (nI kd)), some (.int (nI k)), some (.int (nI i)), none, none, none]) (fun i _ w => (∀ j, j < i → w.2.1 53 j = -1) ∧ frM [] [50, 53, 54] s w) ?_ 0 () s (by omega) ⟨fun j hj => by omega, frM.rf⟩
  intro i _ w hi hJ ih
  obtain ⟨g1, g2⟩ := hJ
  refine RQ_n ZR_ok 2 rfl trivial ?_
  refine RQ_b rfl (fun z => ?_) (fun z => ?_)
  rotate_left
  · have z := (not_congr (zq_le (a := 200) (b := i) rfl rfl (by omega) (by omega))).mp z
    refine RQ_n ZR_ok 4 rfl trivial ?_
    refine RQ_n ZR_ok 1 rfl ⟨nI_in (by omega) (by omega), trivial⟩ ?_
    rw [nI_clamp (show i < 2 ^ 31 by omega)]
    obtain ⟨v1, hv1⟩ : ∃ w1 : SM, w1 = (w.1, updA w.2.1 53 i (-1), w.2.2) := ⟨_, rfl⟩
    rw [← hv1]
    have f3 : frM [] [50, 53, 54] w v1 := by rw [hv1]; exact frM.a 53 (by decide)
    have h53 : v1.2.1 53 = upd (w.2.1 53) i (-1) := by rw [hv1]; rfl
    refine RQ_n ZR_ok 2 rfl trivial ?_
    refine ih (by omega) () _ _ ⟨rfl, rfl, rfl, nIs i, trivial⟩ ⟨fun j hj => ?_, g2.tr f3⟩
    rw [h53]
    by_cases y : j = i
    · rw [y, upd_at]
    · rw [upd_ne y]; exact g1 j (by omega)
  have z := (zq_le (a := 200) (b := i) rfl rfl (by omega) (by omega)).mp z
  have : i = 200 := by omega
  subst this
  clear ih
  refine RQ_le (l' := [some (.ref 0), some (.int (nI kd)), some (.int (nI k)), none, none, none, none]) ⟨rfl, rfl, rfl, trivial⟩ ?_
  refine RQ_n ZR_ok 4 rfl trivial ?_
  refine RQ_n ZR_ok 1 rfl ⟨nI_in (c := 0) (by omega) (by omega), trivial⟩ ?_
  refine RQ_n ZR_ok 4 rfl trivial ?_
  obtain ⟨w1, hw1⟩ : ∃ v : SM, v = (w.1, updA w.2.1 50 0 0, w.2.2) := ⟨_, rfl⟩
  show RnQ ZR mX12_layPath (34, _, _, ((w.1, updA w.2.1 50 0 0, w.2.2) : SM)) _
  rw [← hw1]
  have f1 : frM [] [50, 53, 54] s w1 := g2.tr (by rw [hw1]; exact frM.a 50 (by decide))
  have h50 : w1.2.1 50 = upd (w.2.1 50) 0 0 := by rw [hw1]; rfl
  have h53 : w1.2.1 53 = w.2.1 53 := by rw [hw1]; rfl
  have hc0 : c 0 = 1 := hO.2.2.1
  have J0 : lpJ c 0 w1 := by
    refine ⟨fun j hj => ?_, fun t ht _ => by rw [h53]; exact g1 t ht, fun t h1 h2 => by omega⟩
    rw [show j = 0 by omega, h50, upd_at]; rfl
  have key : ∀ d kk b v (l6 : Option Value), 15 * kk + b + d = 3015 → b ≤ 14 → kk < N.1 → lpJ c (14 * kk + b) v → frM [] [50, 53, 54] s v → RnQ ZR mX12_layPath (43, [some (.ref 0), some (.int (nI kd)), some (.int (nI k)), some (.int (nI (c (14 * kk + b)))), some (.int (nI kk)), some (.int (nI b)), l6], [], v) (lpQ c k s) := by
    intro d
    induction d with
    | zero => intro kk b v l6 hd hb hk hJ hf; omega
    | succ d ih =>
      intro kk b v l6 hd hb hkn hJ hf
      have hk1 : kk < c (14 * kk + b) := Nat.lt_of_lt_of_le (hO.2.2.2.2.1 kk hkn) (hO.mono (by omega))
      have hcn : c (14 * kk + b) ≤ N.1 := by
        have := hO.mono (show 14 * kk + b ≤ 14 * N.1 by omega)
        rw [hO.2.2.2.2.2.1] at this
        exact this
      refine RQ_n ZR_ok 2 rfl trivial ?_
      refine RQ_b rfl (fun z => ?_) (fun z => ?_)
      · have z := (zq_le (a := 14) (b := b) rfl rfl (by omega) (by omega)).mp z
        have hb14 : b = 14 := by omega
        subst hb14
        have e14 : 14 * kk + 14 = 14 * (kk + 1) := by omega
        rw [e14] at hJ hcn ⊢
        refine RQ_n ZR_ok 2 rfl trivial ?_
        rw [show nI kk + 1 = nI (kk + 1) from nI_add kk 1]
        refine RQ_n ZR_ok 2 rfl trivial ?_
        refine RQ_b rfl (fun z => ?_) (fun z => ?_)
        · have z := (zq_le (a := c (14 * (kk + 1))) (b := kk + 1) rfl rfl (by omega) (by omega)).mp z
          have he : N.1 = kk + 1 := by
            refine Nat.le_antisymm (Classical.byContradiction fun y => ?_) hkn
            have := hO.2.2.2.2.1 (kk + 1) (by omega)
            omega
          exact m_layPath2 hO hk (by rw [he]; exact hJ) hf
        · have z := (not_congr (zq_le (a := c (14 * (kk + 1))) (b := kk + 1) rfl rfl (by omega) (by omega))).mp z
          refine RQ_n ZR_ok 2 rfl trivial ?_
          exact ih (kk + 1) 0 v _ (by omega) (by omega) (by omega) hJ hf
      · have z := (not_congr (zq_le (a := 14) (b := b) rfl rfl (by omega) (by omega))).mp z
        obtain ⟨q1, q2, q3⟩ := id hJ
        have hgb := m_goesBy v hk3 (show kk < 200 by omega) (show b < 14 by omega)
        rw [show v.2.1 40 (14 * (200 * kd + kk) + b) = fI (N.2.2 kk b) by rw [hf.2.1 40 (by decide)]; exact hR.2.2 kk hkn b (by omega)] at hgb
        refine RQ_n ZR_ok 5 rfl trivial ?_
        refine RQ_n ZR_ok 1 rfl ⟨nI_in (by omega) (by omega), trivial⟩ ?_
        rw [nI_clamp (show kk < 2 ^ 31 by omega), q1 kk hk1]
        refine RQ_n ZR_ok 1 rfl trivial ?_
        refine RQ_v vX12_goesBy hgb rfl k12_386 rfl rfl rfl rfl rfl ?_
        refine RQ_n ZR_ok 2 rfl trivial ?_
        have nb : nI b + 1 = nI (b + 1) := nI_add b 1
        have fin : ∀ (y : Option Value) (w : SM), lpJ c (14 * kk + b + 1) w → frM [] [50, 53, 54] s w → RnQ ZR mX12_layPath (116, [some (.ref 0), some (.int (nI kd)), some (.int (nI k)), some (.int (nI (c (14 * kk + b + 1)))), some (.int (nI kk)), some (.int (nI b)), y], [], w) (lpQ c k s) := by
          intro y w hw fw
          refine RQ_n ZR_ok 2 rfl trivial ?_
          rw [nb]
          exact ih kk (b + 1) w _ (by omega) (by omega) hkn hw fw
        have same : c (14 * kk + b + 1) = c (14 * kk + b) → lpJ c (14 * kk + b + 1) v := fun e => by unfold lpJ; rw [e]; exact hJ
        have hst := hO.2.2.2.2.2.2 kk b hkn (by omega)
        have hc1 : 1 ≤ c (14 * kk + b) := by have := hO.mono (show 0 ≤ 14 * kk + b by omega); omega
        rcases hst with ⟨e1, e2⟩ | ⟨t, e1, e2⟩
        · rw [e1]
          refine RQ_b rfl (fun _ => ?_) (fun y => absurd (show (-1 : Int32) ≤ 0 by decide) y)
          rw [← e2]
          exact fin _ v (same e2) hf
        · rw [e1]
          have htl : t < 200 := by
            rcases e2 with e2 | e2
            · omega
            · have := hO.mono (show 14 * kk + b + 1 ≤ 14 * N.1 by omega)
              rw [hO.2.2.2.2.2.1] at this
              omega
          refine RQ_b rfl (fun y => ?_) (fun y => ?_)
          · have y := (zq_le (a := t) (b := 0) rfl rfl (by omega) (by omega)).mp y
            have e3 : c (14 * kk + b + 1) = c (14 * kk + b) := by omega
            rw [← e3]
            exact fin _ v (same e3) hf
          · have y := (not_congr (zq_le (a := t) (b := 0) rfl rfl (by omega) (by omega))).mp y
            have hit : vp_in (nI t) 200 := nI_in (by omega) (by omega)
            have hct : (nI t).toNatClampNeg = t := nI_clamp (by omega)
            refine RQ_n ZR_ok 3 rfl trivial ?_
            refine RQ_n ZR_ok 1 rfl ⟨hit, trivial⟩ ?_
            rw [show (fI (some t)).toNatClampNeg = t from hct]
            refine RQ_n ZR_ok 1 rfl trivial ?_
            rcases e2 with ⟨e2, e3⟩ | ⟨e2, e3⟩
            · obtain ⟨r1, r2⟩ := q3 t (by omega) e2
              rw [r1]
              have hfr : zfr c t < 200 := by
                obtain ⟨-, -, -, a, -⟩ := zfst0_ok hO (t := t) (by omega) (by omega)
                omega
              refine RQ_b rfl (fun _ => ?_) (fun q => absurd (Classical.not_not.mp q) (nI_m1 (by omega)))
              rw [← e3]
              exact fin _ v (same e3) hf
            · rw [q2 t htl (Or.inr (by omega))]
              refine RQ_b rfl (fun q => absurd rfl q) (fun _ => ?_)
              have hek := zfst0_eq hO (t := t) (f := 14 * kk + b) (by omega) e2.symm (by omega)
              have hfr : zfr c t = kk := by unfold zfr; rw [hek]; omega
              have hfb : zfb c t = b := by unfold zfb; rw [hek]; omega
              refine RQ_n ZR_ok 6 rfl trivial ?_
              refine RQ_n ZR_ok 1 rfl ⟨nI_in (by omega) (by omega), trivial⟩ ?_
              rw [nI_clamp (show kk < 2 ^ 31 by omega), q1 kk hk1]
              refine RQ_n ZR_ok 1 rfl ⟨hit, trivial⟩ ?_
              rw [show (fI (some t)).toNatClampNeg = t from hct]
              refine RQ_n ZR_ok 4 rfl trivial ?_
              refine RQ_n ZR_ok 1 rfl ⟨hit, trivial⟩ ?_
              rw [show (fI (some t)).toNatClampNeg = t from hct]
              refine RQ_n ZR_ok 4 rfl trivial ?_
              have hl2 : c (14 * kk + b) < 200 := by omega
              refine RQ_n ZR_ok 1 rfl ⟨nI_in hl2 (by omega), trivial⟩ ?_
              rw [nI_clamp (show c (14 * kk + b) < 2 ^ 31 by omega)]
              obtain ⟨v4, hv4⟩ : ∃ w : SM, w = (v.1, updA (updA (updA v.2.1 53 t (nI kk)) 54 t (nI b)) 50 (c (14 * kk + b)) (nI t), v.2.2) := ⟨_, rfl⟩
              show RnQ ZR mX12_layPath (_, _, _, ((v.1, updA (updA (updA v.2.1 53 t (nI kk)) 54 t (nI b)) 50 (c (14 * kk + b)) (nI t), v.2.2) : SM)) _
              rw [← hv4]
              have f4 : frM [] [50, 53, 54] v v4 := by
                rw [hv4]
                exact ((frM.a 53 (by decide)).tr (frM.a (s := (v.1, updA v.2.1 53 t (nI kk), v.2.2)) 54 (by decide))).tr (frM.a (s := (v.1, updA (updA v.2.1 53 t (nI kk)) 54 t (nI b), v.2.2)) 50 (by decide))
              have k53 : v4.2.1 53 = upd (v.2.1 53) t (nI kk) := by rw [hv4]; rfl
              have k54 : v4.2.1 54 = upd (v.2.1 54) t (nI b) := by rw [hv4]; rfl
              have k50 : v4.2.1 50 = upd (v.2.1 50) (c (14 * kk + b)) (nI t) := by rw [hv4]; rfl
              refine RQ_n ZR_ok 1 rfl trivial ?_
              rw [show nI (c (14 * kk + b)) + 1 = nI (c (14 * kk + b + 1)) by rw [e3]; exact nI_add _ 1]
              refine fin _ v4 ⟨fun j hj => ?_, fun q hq hq2 => ?_, fun q h1 h2 => ?_⟩ (hf.tr f4)
              · rw [k50]
                by_cases x : j = c (14 * kk + b)
                · rw [x, upd_at, e2]
                · rw [upd_ne x]; exact q1 j (by omega)
              · rw [k53, upd_ne (by omega)]; exact q2 q hq (by omega)
              · rw [k53, k54]
                by_cases x : q = t
                · rw [x, upd_at, upd_at, hfr, hfb]; exact ⟨rfl, rfl⟩
                · rw [upd_ne x, upd_ne x]; exact q3 q h1 (by omega)
  refine RQ_n ZR_ok 2 rfl trivial ?_
  refine RQ_b rfl (fun z => absurd (show (1 : Int32) ≤ 0 from z) (by decide)) (fun _ => ?_)
  refine RQ_n ZR_ok 2 rfl trivial ?_
  have := key 3015 0 0 w1 none (by omega) (by omega) (by have := hO.1; omega) J0 f1
  rw [show c (14 * 0 + 0) = 1 from hc0] at this
  exact this
