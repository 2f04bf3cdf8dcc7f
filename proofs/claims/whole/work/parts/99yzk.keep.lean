/-! keep: both sides. -/
theorem frKp.rf {u : SX} : frKp u u := ⟨fun _ _ _ => rfl, fun _ _ => rfl, fun _ _ => rfl, rfl⟩
/-- what keep leaves of the reference -/
def frVk (s v : SM) : Prop := (∀ k, k ∈ [2, 15, 16, 17, 23, 24, 37, 75, 76, 77] → v.1 k = s.1 k) ∧ ∀ a, a ∈ [1, 18, 19, 20, 21, 22, 35, 36] → v.2.1 a = s.2.1 a
theorem frV.vk {s v : SM} (f : frV s v) : frVk s v := ⟨fun k hk => f.1 k (by simp only [List.mem_cons, List.not_mem_nil, or_false] at hk ⊢; omega), fun a ha => f.2 a (by simp only [List.mem_cons, List.not_mem_nil, or_false] at ha ⊢; omega)⟩
theorem frVk.tr {s v w : SM} (h1 : frVk s v) (h2 : frVk v w) : frVk s w := ⟨fun k hk => (h2.1 k hk).trans (h1.1 k hk), fun a ha => (h2.2 a ha).trans (h1.2 a ha)⟩
theorem frM.vk {ks as : List Nat} {s v : SM} (f : frM ks as s v) (h1 : ∀ k ∈ ks, k ∉ [2, 15, 16, 17, 23, 24, 37, 75, 76, 77]) (h2 : ∀ a ∈ as, a ∉ [1, 18, 19, 20, 21, 22, 35, 36]) : frVk s v := ⟨fun k hk => f.1 k (fun y => h1 k y hk), fun a ha => f.2.1 a (fun y => h2 a y ha)⟩
section KepX
variable {G : ZGT} {u : SX} {m : Nat} {ln : Nat → Nat} {yy : Nat → Nat → Nat} {nb : Nat → Int32} {sl : Nat → Nat} {s : SM} {os : Nat → Option ZAS}
theorem zkp_4 {z : Int64} (h : m = 4) : zkp G m z = none := by unfold zkp; rw [if_pos h]
theorem zkp_n {z : Int64} (h : zwd G (zSh G) z = none) : zkp G m z = none := by
  unfold zkp
  split
  · rfl
  · rw [h]
theorem zkp_l {z : Int64} {l : Nat} {w : Nat → Nat} (h : zwd G (zSh G) z = some (l, w)) (hl : 24 < l) : zkp G m z = none := by
  unfold zkp
  split
  · rfl
  · rw [h]
    dsimp only
    rw [if_pos hl]
theorem zkp_s {z : Int64} {l : Nat} {w : Nat → Nat} (hm : m ≠ 4) (h : zwd G (zSh G) z = some (l, w)) (hl : ¬ 24 < l) : zkp G m z = some (l, w) := by
  unfold zkp
  rw [if_neg hm, h]
  dsimp only
  rw [if_neg hl]
theorem y_keepG (h : ZFX G u) (hS : SnX m ln yy u) (hT : TXc G nb sl u) (z : Int64) : EvQ (ZY YP0) mX11_keep [.ref 0, .long z] u (fun x v => x = some (.int (kpv (zkp G m z) m)) ∧ SnX (kpm (zkp G m z) m) (kpl (zkp G m z) m ln) (kpy (zkp G m z) m sl yy) v ∧ frKp u v) := by
  have hb := h.1.b
  obtain ⟨hSB, hR⟩ := h.sh
  have h4 := hS.2.1
  refine EQ_V vX11_keep rfl ?_
  refine RQ_n (ZY_ok YP0) 3 rfl trivial ?_
  rw [h.1.2.1.1]
  refine RQ_b rfl (fun q => ?_) (fun _ => ?_)
  · have := (zq_eq (a := zgR G) (b := 0) rfl rfl (by omega) (by omega)).mp q
    omega
  refine RQ_n (ZY_ok YP0) 4 rfl trivial ?_
  rw [hS.1]
  by_cases hm : m = 4
  · rw [zkp_4 hm]
    refine RQ_b rfl (fun q => absurd (show nI m = 4 by rw [hm]; rfl) q) (fun _ => ?_)
    refine RQ_n (ZY_ok YP0) 1 rfl trivial ?_
    exact RQ_to (Rn_iret rfl rfl) ⟨rfl, hS, frKp.rf⟩
  refine RQ_b rfl (fun _ => ?_) (fun q => absurd (fun y => hm ((nI_eq (by omega) (by omega)).mp (show nI m = nI 4 from y))) q)
  refine RQ_n (ZY_ok YP0) 3 rfl trivial ?_
  refine RQ_V vX3_make (y_make h.1 hSB hR z) rfl k11_411 rfl rfl rfl (zy97 _ rfl) (fun _ s1 q => by show 3 * s1.2.2.2.2.1 + 99 = 3 * u.2.2.2.2.1 + 99; rw [q.2.2.2.2.2]) ?_
  rintro r1 v ⟨rfl, q1, q2⟩
  have hSv := hS.dw q2
  have no : zkp G m z = none → RnQ (ZY YP0) mX11_keep (46, [some (.ref 0), some (.long z), none, none], [], v) (fun x v => x = some (.int (kpv (zkp G m z) m)) ∧ SnX (kpm (zkp G m z) m) (kpl (zkp G m z) m ln) (kpy (zkp G m z) m sl yy) v ∧ frKp u v) := by
    intro e
    rw [e]
    refine RQ_n (ZY_ok YP0) 1 rfl trivial ?_
    exact RQ_to (Rn_iret rfl rfl) ⟨rfl, hSv, q2.kp⟩
  cases e : zwd G (zSh G) z with
  | none => exact RQ_b rfl (fun _ => no (zkp_n e)) (fun q => absurd rfl q)
  | some lw =>
  obtain ⟨l, w⟩ := lw
  obtain ⟨⟨w1, w2⟩, w3, w4⟩ := q1 l w e
  refine RQ_b rfl (fun q => absurd (show (1 : Int32) = 0 from q) (by decide)) (fun _ => ?_)
  refine RQ_n (ZY_ok YP0) 4 rfl trivial ?_
  rw [w1]
  by_cases hl : 24 < l
  · refine RQ_b rfl (fun q => ?_) (fun _ => no (zkp_l e hl))
    have q := (zq_le (a := l) (b := 24) rfl rfl (by omega) (by omega)).mp q
    omega
  refine RQ_b rfl (fun _ => ?_) (fun q => absurd ((zq_le (a := l) (b := 24) rfl rfl (by omega) (by omega)).mpr (by omega)) q)
  rw [zkp_s hm e hl]
  refine RQ_n (ZY_ok YP0) 2 rfl trivial ?_
  have ho := x_open v m hSv.1 (by omega)
  rw [← ZY_0] at ho
  refine RQ_V vX9_open ho rfl k11_131 rfl rfl rfl (zy11 _ rfl) (fun _ s1 q => by show 3 * s1.2.2.2.2.1 + 99 = 3 * v.2.2.2.2.1 + 99; rw [q.2.1.2.2]) ?_
  rintro r2 v1 ⟨rfl, p1, p2, p3, p4⟩
  refine RQ_n (ZY_ok YP0) 2 rfl trivial ?_
  refine loopU (M := mX11_keep) (pc := 57) l (fun i (_ : Unit) => [some (.ref 0), some (.long z), none, some (.int (nI i))]) (fun i _ x => (x.1 11 0 = nI (m + 1) ∧ x.2.1 12 m = nI i) ∧ frX [] [12, 13] v1 x ∧ (∀ j, j ≠ m → x.2.1 12 j = v1.2.1 12 j) ∧ (∀ j, j < 24 * m → x.2.1 13 j = v1.2.1 13 j) ∧ ∀ j, j < i → x.2.1 13 (24 * m + j) = nI (sl (w j))) ?_ 0 () v1 (by omega) ⟨⟨p2, p3⟩, frX.rf, fun _ _ => rfl, fun _ _ => rfl, fun j hj => absurd hj (Nat.not_lt_zero _)⟩
  intro i _ x hi hJ ih
  obtain ⟨⟨j1, j2⟩, j3, j4, j5, j6⟩ := hJ
  have e97 : x.1 97 3 = nI l := by rw [j3.1 97 3 (by decide), p1.1 97 3 (by decide)]; exact w1
  have e98 : x.2.1 98 = v.2.1 98 := by rw [j3.2.1 98 (by decide), p1.2.1 98 (by decide)]
  have e9 : x.2.1 9 = u.2.1 9 := by rw [j3.2.1 9 (by decide), p1.2.1 9 (by decide), q2.2.1 9 (by decide)]
  refine RQ_n (ZY_ok YP0) 4 rfl trivial ?_
  rw [e97]
  refine RQ_b rfl (fun q => ?_) (fun q => ?_)
  · have q := (zq_le (a := l) (b := i) rfl rfl (by omega) (by omega)).mp q
    have hil : i = l := by omega
    subst hil
    refine RQ_n (ZY_ok YP0) 5 rfl trivial ?_
    rw [j1, nI_pred]
    refine RQ_to (Rn_iret rfl rfl) ⟨rfl, ⟨j1, by show m + 1 ≤ 4; omega, fun k hk => ?_⟩, ?_⟩
    · have hk : k < m + 1 := hk
      show x.2.1 12 k = nI (if k = m then i else ln k) ∧ (if k = m then i else ln k) ≤ 24 ∧ ∀ j, j < (if k = m then i else ln k) → x.2.1 13 (24 * k + j) = nI (if k = m then sl (w j) else yy k j) ∧ (if k = m then sl (w j) else yy k j) < 26
      by_cases ek : k = m
      · rw [if_pos ek]
        refine ⟨by rw [ek]; exact j2, by omega, fun j hj => ?_⟩
        rw [if_pos ek, ek]
        exact ⟨j6 j hj, (hT.2.1 (w j) (w4 j hj)).2⟩
      · obtain ⟨s1, s2, s3⟩ := hS.2.2 k (by omega)
        rw [if_neg ek]
        refine ⟨?_, s2, fun j hj => ?_⟩
        · rw [j4 k ek, p4 k ek, q2.2.1 12 (by decide)]; exact s1
        · rw [if_neg ek, j5 (24 * k + j) (by omega), p1.2.1 13 (by decide), q2.2.1 13 (by decide)]; exact s3 j hj
    · exact q2.kp.tr ((frKp.of (p1.up (by decide) (by decide))).tr (frKp.of (j3.up (by decide) (by decide))))
  have q := (not_congr (zq_le (a := l) (b := i) rfl rfl (by omega) (by omega))).mp q
  have hwi := w4 i (by omega)
  refine RQ_n (ZY_ok YP0) 10 rfl ⟨nI_in (by omega) (by omega), trivial⟩ ?_
  rw [nI_clamp (by omega), e98, w2 i (by omega)]
  refine RQ_n (ZY_ok YP0) 1 rfl ⟨nI_in (by omega) (by omega), trivial⟩ ?_
  rw [nI_clamp (by omega), e9, (hT.2.1 (w i) hwi).1]
  have hp := x_putL x m i (nI (sl (w i))) j1 (by omega) j2 (by omega)
  rw [← ZY_0] at hp
  refine RQ_V vX9_put hp rfl k11_138 rfl rfl rfl (zy11 _ rfl) (fun _ s1 q => by show 3 * s1.2.2.2.2.1 + 99 = 3 * x.2.2.2.2.1 + 99; rw [q.2.1.2.2]) ?_
  rintro r3 x1 ⟨rfl, g1, ⟨g2, g3⟩, g4, g5⟩
  refine RQ_n (ZY_ok YP0) 2 rfl trivial ?_
  refine ih (by omega) () _ _ ⟨rfl, rfl, nIs i, trivial⟩ ⟨⟨by rw [g1.1 11 0 (by decide)]; exact j1, g2⟩, j3.tr g1, fun j hj => (g3 j hj).trans (j4 j hj), fun j hj => (g5 j (by omega)).trans (j5 j hj), fun j hj => ?_⟩
  by_cases ej : j = i
  · rw [ej]; exact g4
  · rw [g5 _ (by omega)]; exact j6 j (by omega)
theorem m_keepG (h : RGr G os s) (hS : SnM m ln yy s) (hT : TMc G nb sl s) (hsl : ∀ k, k < zgT G → sl k < 26) (z : Int64) : EvQ ZR mX12_keep [.ref 0, .long z] s (fun x v => x = some (.int (kpv (zkp G m z) m)) ∧ RGr G os v ∧ SnM (kpm (zkp G m z) m) (kpl (zkp G m z) m ln) (kpy (zkp G m z) m sl yy) v ∧ frVk s v) := by
  have hb := h.1.b
  have h4 := hS.2.1
  refine EQ_V vX12_keep rfl ?_
  refine RQ_n ZR_ok 2 rfl trivial ?_
  refine RQ_V vX12_layWord (m_layWord h z) rfl k12_566 rfl rfl rfl rfl (fun _ _ _ => rfl) ?_
  rintro r1 v ⟨rfl, q1, q2, q3⟩
  have e14 : v.1 14 = nI m := by rw [q3.1 14 (by decide)]; exact hS.1
  have hSv : SnM m ln yy v := by
    unfold SnM at hS ⊢
    rw [q3.1 14 (by decide), q3.2 13 (by decide), q3.2 12 (by decide)]; exact hS
  have no : zkp G m z = none → RnQ ZR mX12_keep (25, [some (.ref 0), some (.long z), none, none], [], v) (fun x v => x = some (.int (kpv (zkp G m z) m)) ∧ RGr G os v ∧ SnM (kpm (zkp G m z) m) (kpl (zkp G m z) m ln) (kpy (zkp G m z) m sl yy) v ∧ frVk s v) := by
    intro e
    rw [e]
    refine RQ_n ZR_ok 1 rfl trivial ?_
    exact RQ_to (Rn_iret rfl rfl) ⟨rfl, q2, hSv, q3.vk⟩
  cases e : zwd G (zSh G) z with
  | none => exact RQ_b rfl (fun _ => no (zkp_n e)) (fun q => absurd rfl q)
  | some lw =>
  obtain ⟨l, w⟩ := lw
  obtain ⟨⟨w1, w2⟩, w3, w4⟩ := q1 l w e
  refine RQ_b rfl (fun q => absurd (show (1 : Int32) = 0 from q) (by decide)) (fun _ => ?_)
  refine RQ_n ZR_ok 3 rfl trivial ?_
  rw [w1]
  by_cases hl : 24 < l
  · refine RQ_b rfl (fun _ => no (zkp_l e hl)) (fun q => ?_)
    exact absurd ((zq_lt (a := 24) (b := l) rfl rfl (by omega) (by omega)).mpr hl) q
  refine RQ_b rfl (fun q => ?_) (fun _ => ?_)
  · have q := (zq_lt (a := 24) (b := l) rfl rfl (by omega) (by omega)).mp q
    omega
  refine RQ_n ZR_ok 3 rfl trivial ?_
  rw [e14]
  by_cases hm : m = 4
  · refine RQ_b rfl (fun q => absurd (show nI m = 4 by rw [hm]; rfl) q) (fun _ => no (zkp_4 hm))
  refine RQ_b rfl (fun _ => ?_) (fun q => absurd (fun y => hm ((nI_eq (by omega) (by omega)).mp (show nI m = nI 4 from y))) q)
  rw [zkp_s hm e hl]
  refine RQ_n ZR_ok 2 rfl trivial ?_
  refine loopU (M := mX12_keep) (pc := 29) l (fun i (_ : Unit) => [some (.ref 0), some (.long z), none, some (.int (nI i))]) (fun i _ x => frM [] [12] v x ∧ (∀ j, j < 24 * m → x.2.1 12 j = v.2.1 12 j) ∧ ∀ j, j < i → x.2.1 12 (24 * m + j) = nI (97 + sl (w j))) ?_ 0 () v (by omega) ⟨frM.rf, fun _ _ => rfl, fun j hj => absurd hj (Nat.not_lt_zero _)⟩
  intro i _ x hi hJ ih
  obtain ⟨j3, j5, j6⟩ := hJ
  have x73 : x.1 73 = nI l := by rw [j3.1 73 (by decide)]; exact w1
  have x14 : x.1 14 = nI m := by rw [j3.1 14 (by decide)]; exact e14
  have x72 : x.2.1 72 = v.2.1 72 := j3.2.1 72 (by decide)
  have x22 : x.2.1 22 = s.2.1 22 := by rw [j3.2.1 22 (by decide), q3.2 22 (by decide)]
  refine RQ_n ZR_ok 3 rfl trivial ?_
  rw [x73]
  refine RQ_b rfl (fun q => ?_) (fun q => ?_)
  · have q := (zq_le (a := l) (b := i) rfl rfl (by omega) (by omega)).mp q
    have hil : i = l := by omega
    subst hil
    refine RQ_n ZR_ok 17 rfl ⟨by rw [x14]; exact nI_in (by omega) (by omega), trivial⟩ ?_
    have ecl : (x.1 14).toNatClampNeg = m := by rw [x14]; exact nI_clamp (by omega)
    refine RQ_to (Rn_iret rfl rfl) ⟨?_, ?_, ⟨?_, by show m + 1 ≤ 4; omega, fun k hk => ?_⟩, ?_⟩
    · show some (Value.int (x.1 14 + 1 - 1)) = some (.int (nI m))
      rw [x14, nI_1, nI_pred]
    · exact ((q2.fr j3 (by decide) (by decide)).fr (frM.a (ks := []) (as := [13]) 13 (by decide)) (by decide) (by decide)).fr (frM.i (ks := [14]) (as := []) 14 (by decide)) (by decide) (by decide)
    · show x.1 14 + 1 = nI (m + 1)
      rw [x14, nI_1]
    · have hk : k < m + 1 := hk
      show upd (x.2.1 13) (x.1 14).toNatClampNeg (x.1 73) k = nI (if k = m then i else ln k) ∧ (if k = m then i else ln k) ≤ 24 ∧ ∀ j, j < (if k = m then i else ln k) → x.2.1 12 (24 * k + j) = nI (97 + if k = m then sl (w j) else yy k j) ∧ (if k = m then sl (w j) else yy k j) < 26
      rw [ecl]
      by_cases ek : k = m
      · rw [if_pos ek]
        refine ⟨by rw [ek, upd_at]; exact x73, by omega, fun j hj => ?_⟩
        rw [if_pos ek, ek]
        exact ⟨j6 j hj, hsl (w j) (w4 j hj)⟩
      · obtain ⟨s1, s2, s3⟩ := hSv.2.2 k (by omega)
        rw [if_neg ek]
        refine ⟨?_, s2, fun j hj => ?_⟩
        · rw [upd_ne ek, j3.2.1 13 (by decide)]; exact s1
        · rw [if_neg ek, j5 (24 * k + j) (by omega)]; exact s3 j hj
    · exact q3.vk.tr ((j3.vk (by decide) (by decide)).tr ((frM.vk (frM.a (ks := []) (as := [13]) 13 (by decide)) (by decide) (by decide)).tr (frM.vk (frM.i (ks := [14]) (as := []) 14 (by decide)) (by decide) (by decide))))
  have q := (not_congr (zq_le (a := l) (b := i) rfl rfl (by omega) (by omega))).mp q
  have hwi := w4 i (by omega)
  refine RQ_n ZR_ok 14 rfl ⟨nI_in (by omega) (by omega), trivial⟩ ?_
  rw [nI_clamp (by omega), x72, w2 i (by omega), zlm_8 (by omega)]
  refine RQ_n ZR_ok 1 rfl ⟨nI_in (by omega) (by omega), trivial⟩ ?_
  rw [nI_clamp (by omega), x22, hT.2 (w i) hwi, x14, show (24 : Int32) * nI m + nI i = nI (24 * m + i) by rw [show (24 : Int32) = nI 24 from rfl, nI_mul, nI_add]]
  refine RQ_n ZR_ok 3 rfl ⟨nI_in (by omega) (by omega), trivial⟩ ?_
  rw [nI_clamp (by omega)]
  refine ih (by omega) () _ _ ⟨rfl, rfl, nIs i, trivial⟩ ⟨j3.tr (frM.a 12 (by decide)), fun j hj => ?_, fun j hj => ?_⟩
  · exact (upd_ne (f := x.2.1 12) (by omega)).trans (j5 j hj)
  · by_cases ej : j = i
    · rw [ej]; exact upd_at
    · exact (upd_ne (f := x.2.1 12) (by omega)).trans (j6 j (by omega))
end KepX
