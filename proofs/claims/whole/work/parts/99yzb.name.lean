/-! name, names: both sides. -/
/-- what calls of the reference leave -/
def frV (s v : SM) : Prop := (∀ k, k ∈ [2, 14, 15, 16, 17, 23, 24, 37, 75, 76, 77] → v.1 k = s.1 k) ∧ ∀ a, a ∈ [1, 12, 13, 18, 19, 20, 21, 22, 35, 36] → v.2.1 a = s.2.1 a
theorem frM.v {ks as : List Nat} {s v : SM} (f : frM ks as s v) (h1 : ∀ k ∈ ks, k ∉ [2, 14, 15, 16, 17, 23, 24, 37, 75, 76, 77]) (h2 : ∀ a ∈ as, a ∉ [1, 12, 13, 18, 19, 20, 21, 22, 35, 36]) : frV s v := ⟨fun k hk => f.1 k (fun y => h1 k y hk), fun a ha => f.2.1 a (fun y => h2 a y ha)⟩
theorem frV.tr {s v w : SM} (h1 : frV s v) (h2 : frV v w) : frV s w := ⟨fun k hk => (h2.1 k hk).trans (h1.1 k hk), fun a ha => (h2.2 a ha).trans (h1.2 a ha)⟩
theorem frV.rf {s : SM} : frV s s := ⟨fun _ _ => rfl, fun _ _ => rfl⟩
theorem frR.v {s v : SM} (f : frR s v) : frV s v := frM.v f (by decide) (by decide)
def rfV (G : ZGT) (os : Nat → Option ZAS) (u : SM) (r : Int32) (x : Option Value) (v : SM) : Prop := x = some (.int r) ∧ RGr G os v ∧ frV u v
noncomputable def zSh (G : ZGT) : Nat → Nat := @Classical.epsilon (Nat → Nat) ⟨fun _ => 0⟩ (zlS G)
theorem zSh_eq {G : ZGT} {S : Nat → Nat} (h : zlS G S) {n : Nat} (hn : n < 6) : S n = zSh G n := zlS_un h (@Classical.epsilon_spec (Nat → Nat) (zlS G) ⟨S, h⟩) hn
theorem zEN_cg {S S' : Nat → Nat} : ∀ k, (∀ i, i < k → S i = S' i) → zEN S k = zEN S' k
  | 0, _ => rfl
  | k + 1, h => by rw [zEN, zEN, zEN_cg k (fun i hi => h i (by omega)), h k (by omega)]
noncomputable def zvNv (G : ZGT) (nb : Nat → Int32) (n j : Nat) : Int32 := if j = 0 then bI (bt (zE0 G) n) else if j = 1 then zF0 G n else if j = 2 then zW0 G n else if j = 3 then zSI (zSh G n) else nb n
noncomputable def zvNm (G : ZGT) (nb : Nat → Int32) (x y : Int32) : Int32 := match zix x (zgN G) with
  | none => -1
  | some n => match zix y 5 with
    | none => -1
    | some j => zvNv G nb n j
noncomputable def zvNs (G : ZGT) (x : Int32) : Int32 := match zix x 4 with
  | none => -1
  | some j => if j = 0 then zLN G (zE0 G) (zgN G) else if j = 1 then zRC G false (zE0 G) 0 ||| 1 else if j = 2 then zE0 G else zEN (zSh G) (zgN G)
theorem ZFX.all {G : ZGT} {u : SX} (h : ZFX G u) : u.1 14 1 = zE0 G ∧ (∀ n, n < 6 → u.2.1 15 n = zF0 G n) ∧ (∀ n, n < 6 → u.2.1 16 n = zW0 G n) ∧ (∀ n, n < 6 → u.2.1 17 n = zSI (zSh G n)) ∧ u.1 14 2 = zLN G (zE0 G) (zgN G) ∧ u.1 14 3 = zRC G false (zE0 G) 0 ||| 1 := by
  obtain ⟨-, -, c3, c4⟩ := h.c
  obtain ⟨h0, h1, h2, -, h3, ⟨S, s1, -, s2⟩, h4, h5⟩ := h
  rw [c3] at h2 h3 h4 h5
  exact ⟨c3, c4, zW0_eq h0.1 h2 h3, fun n hn => by rw [s2 n hn, zSh_eq s1 hn], h4, h5⟩
theorem SLM.all {G : ZGT} {s : SM} (hG : GW G) (h : SLM G s) : s.1 25 = zE0 G ∧ (∀ n, n < 6 → s.2.1 26 n = zF0 G n) ∧ (∀ n, n < 6 → s.2.1 27 n = zW0 G n) ∧ ∃ S, SRM S s ∧ ∀ n, n < 6 → S n = zSh G n := by
  obtain ⟨h1, h2, h3, S, h4, h5⟩ := h
  have e := zE0_eq h1
  rw [e] at h2 h3
  exact ⟨e, zF0_eq h2, zW0_eq hG h2 h3, S, h5, fun n hn => zSh_eq h4 hn⟩
section NamX
variable {P : YP} {G : ZGT} {u : SX} {s : SM} {nb : Nat → Int32} {sl : Nat → Nat} {os : Nat → Option ZAS}
theorem y_isEmptyName (u : SX) {n : Nat} (hn : n < 32) : Ev (ZY P) mX4_isEmptyName [.ref 14, .int (nI n)] u (some (.int (bI (bt (u.1 14 1) n)))) u := by
  refine EQ_ev ?_
  refine EQ_V vX4_isEmptyName rfl ?_
  refine RQ_n (ZY_ok P) 6 rfl trivial ?_
  rw [sh_bit _ hn]
  cases bt (u.1 14 1) n with
  | true =>
    refine RQ_b rfl (fun z => absurd (show (1 : Int32) = 0 from z) (by decide)) (fun _ => ?_)
    refine RQ_n (ZY_ok P) 2 rfl trivial ?_
    exact RQ_to (Rn_zret rfl rfl (Or.inr rfl)) ⟨rfl, rfl⟩
  | false =>
    refine RQ_b rfl (fun _ => ?_) (fun z => absurd rfl z)
    refine RQ_n (ZY_ok P) 1 rfl trivial ?_
    exact RQ_to (Rn_zret rfl rfl (Or.inl rfl)) ⟨rfl, rfl⟩
theorem y_endingNames (h : ZGX G u) {S : Nat → Nat} (hS : ∀ n, n < 6 → u.2.1 17 n = zSI (S n) ∧ S n ≤ 1000000) : Ev (ZY P) mX4_endingNames [.ref 14] u (some (.int (zEN S (zgN G)))) u := by
  have hb := h.b
  refine EQ_ev (EQ_V vX4_endingNames rfl ?_)
  refine RQ_n (ZY_ok P) 4 rfl trivial ?_
  refine loopU (zgN G) (fun k (_ : Unit) => [some (.ref 14), some (.int (zEN S k)), some (.int (nI k))]) (fun k _ v => v = u) ?_ 0 () u (by omega) rfl
  intro k _ v hk hJ ih
  subst hJ
  refine RQ_n (ZY_ok P) 4 rfl trivial ?_
  refine RQ_b rfl (fun q => ?_) (fun q => ?_)
  · have q := (zq_le h.2.1.2.1 rfl (by omega) (by omega)).mp q
    have : k = zgN G := by omega
    subst this
    refine RQ_n (ZY_ok P) 1 rfl trivial ?_
    exact RQ_to (Rn_iret rfl rfl) ⟨rfl, rfl⟩
  have q := (not_congr (zq_le h.2.1.2.1 rfl (by omega) (by omega))).mp q
  obtain ⟨hk1, hk2⟩ := hS k (by omega)
  refine RQ_n (ZY_ok P) 5 rfl ⟨nI_in (by omega) (by omega), trivial⟩ ?_
  rw [nI_clamp (show k < 2 ^ 31 by omega), hk1]
  by_cases hm : S k = 1000000
  · refine RQ_b rfl (fun _ => ?_) (fun q3 => absurd (show zSI (S k) = -1 by rw [zSI, if_pos hm]) q3)
    refine RQ_n (ZY_ok P) 2 rfl trivial ?_
    refine ih (by omega) () _ _ ⟨rfl, ?_, nIs k, trivial⟩ rfl
    show Value.int _ = Value.int _
    rw [zEN, if_neg (by omega)]
    congr 1
    exact b_ext (fun i _ => by rw [b_or, b_0, Bool.or_false])
  · refine RQ_b rfl (fun q3 => ?_) (fun _ => ?_)
    · have q3 : zSI (S k) = -1 := q3
      rw [zSI, if_neg hm] at q3
      exact absurd q3 (nI_m1 (by omega))
    refine RQ_n (ZY_ok P) 8 rfl trivial ?_
    refine ih (by omega) () _ _ ⟨rfl, ?_, nIs k, trivial⟩ rfl
    show Value.int _ = Value.int _
    rw [zEN, if_pos (by omega)]; rfl
theorem y_name (h : ZFX G u) (hTX : TXc G nb sl u) (x y : Int32) : Ev (ZY P) mX11_name [.ref 0, .int x, .int y] u (some (.int (zvNm G nb x y))) u := by
  have hb := h.1.b
  obtain ⟨a1, a2, a3, a4, -, -⟩ := h.all
  refine EQ_ev ?_
  refine EQ_V vX11_name rfl ?_
  refine RQ_n (ZY_ok P) 2 rfl trivial ?_
  refine RQ_v vX11_isName (y_isName h.1 x) rfl k11_176 rfl rfl rfl (zy0 _ rfl) rfl ?_
  unfold zvNm
  cases e : zix x (zgN G) with
  | none =>
    refine RQ_b rfl (fun z => absurd rfl z) (fun _ => ?_)
    refine RQ_n (ZY_ok P) 1 rfl trivial ?_
    exact RQ_to (Rn_iret rfl rfl) ⟨rfl, rfl⟩
  | some n =>
  obtain ⟨n1, n2⟩ := zix_s e
  subst n2
  have hin : vp_in (nI n) 6 := nI_in (by omega) (by omega)
  have hic : (nI n).toNatClampNeg = n := nI_clamp (by omega)
  refine RQ_b rfl (fun _ => ?_) (fun z => absurd (show ¬ (1 : Int32) = 0 by decide) z)
  refine RQ_n (ZY_ok P) 1 rfl trivial ?_
  dsimp only
  cases e2 : zix y 5 with
  | none =>
    obtain ⟨rr, ss, hq, hr⟩ : RnQ (ZY P) mX11_name (101, [some (.ref 0), some (.int (nI n)), some (.int y)], [], u) (fun z v => z = some (.int (-1)) ∧ v = u) := by
      refine RQ_n (ZY_ok P) 1 rfl trivial ?_
      exact RQ_to (Rn_iret rfl rfl) ⟨rfl, rfl⟩
    refine ⟨rr, ss, hq, Rn_swO (tgt := 101) rfl ?_ rfl hr⟩
    have := zix_out (by omega) e2
    omega
  | some j =>
  obtain ⟨j1, j2⟩ := zix_s e2
  rcases (show j = 0 ∨ j = 1 ∨ j = 2 ∨ j = 3 ∨ j = 4 by omega) with q | q | q | q | q <;> subst q <;> subst j2
  · obtain ⟨rr, ss, hq, hr⟩ : RnQ (ZY P) mX11_name (44, [some (.ref 0), some (.int (nI n)), some (.int (nI 0))], [], u) (fun z v => z = some (.int (bI (bt (zE0 G) n))) ∧ v = u) := by
      refine RQ_n (ZY_ok P) 3 rfl trivial ?_
      refine RQ_v vX4_isEmptyName (y_isEmptyName u (n := n) (by omega)) rfl k11_179 rfl rfl rfl (zyr (ci := 4) rfl rfl (by omega)) rfl ?_
      rw [a1]
      cases bt (zE0 G) n with
      | true =>
        refine RQ_b rfl (fun z => absurd (show (1 : Int32) = 0 from z) (by decide)) (fun _ => ?_)
        refine RQ_n (ZY_ok P) 2 rfl trivial ?_
        exact RQ_to (Rn_iret rfl rfl) ⟨rfl, rfl⟩
      | false =>
        refine RQ_b rfl (fun _ => ?_) (fun z => absurd rfl z)
        refine RQ_n (ZY_ok P) 1 rfl trivial ?_
        exact RQ_to (Rn_iret rfl rfl) ⟨rfl, rfl⟩
    exact ⟨rr, ss, hq, Rn_swI (off := 33) (tgt := 44) rfl (by decide) (by decide) rfl rfl hr⟩
  · obtain ⟨rr, ss, hq, hr⟩ : RnQ (ZY P) mX11_name (61, [some (.ref 0), some (.int (nI n)), some (.int (nI 1))], [], u) (fun z v => z = some (.int (zF0 G n)) ∧ v = u) := by
      refine RQ_n (ZY_ok P) 5 rfl ⟨hin, trivial⟩ ?_
      rw [hic, a2 n (by omega)]
      exact RQ_to (Rn_iret rfl rfl) ⟨rfl, rfl⟩
    exact ⟨rr, ss, hq, Rn_swI (off := 50) (tgt := 61) rfl (by decide) (by decide) rfl rfl hr⟩
  · obtain ⟨rr, ss, hq, hr⟩ : RnQ (ZY P) mX11_name (71, [some (.ref 0), some (.int (nI n)), some (.int (nI 2))], [], u) (fun z v => z = some (.int (zW0 G n)) ∧ v = u) := by
      refine RQ_n (ZY_ok P) 5 rfl ⟨hin, trivial⟩ ?_
      rw [hic, a3 n (by omega)]
      exact RQ_to (Rn_iret rfl rfl) ⟨rfl, rfl⟩
    exact ⟨rr, ss, hq, Rn_swI (off := 60) (tgt := 71) rfl (by decide) (by decide) rfl rfl hr⟩
  · obtain ⟨rr, ss, hq, hr⟩ : RnQ (ZY P) mX11_name (81, [some (.ref 0), some (.int (nI n)), some (.int (nI 3))], [], u) (fun z v => z = some (.int (zSI (zSh G n))) ∧ v = u) := by
      refine RQ_n (ZY_ok P) 5 rfl ⟨hin, trivial⟩ ?_
      rw [hic, a4 n (by omega)]
      exact RQ_to (Rn_iret rfl rfl) ⟨rfl, rfl⟩
    exact ⟨rr, ss, hq, Rn_swI (off := 70) (tgt := 81) rfl (by decide) (by decide) rfl rfl hr⟩
  · obtain ⟨rr, ss, hq, hr⟩ : RnQ (ZY P) mX11_name (91, [some (.ref 0), some (.int (nI n)), some (.int (nI 4))], [], u) (fun z v => z = some (.int (nb n)) ∧ v = u) := by
      refine RQ_n (ZY_ok P) 5 rfl ⟨hin, trivial⟩ ?_
      rw [hic, hTX.1 n n1]
      exact RQ_to (Rn_iret rfl rfl) ⟨rfl, rfl⟩
    exact ⟨rr, ss, hq, Rn_swI (off := 80) (tgt := 91) rfl (by decide) (by decide) rfl rfl hr⟩
theorem y_names (h : ZFX G u) (x : Int32) : Ev (ZY P) mX11_names [.ref 0, .int x] u (some (.int (zvNs G x))) u := by
  have hb := h.1.b
  obtain ⟨a1, -, -, a4, a5, a6⟩ := h.all
  have hS : ∀ n, n < 6 → u.2.1 17 n = zSI (zSh G n) ∧ zSh G n ≤ 1000000 := by
    obtain ⟨-, -, -, -, -, ⟨S, s1, -, -⟩, -⟩ := id h
    exact fun n hn => ⟨a4 n hn, by rw [← zSh_eq s1 hn]; exact s1.1.2 n hn⟩
  refine EQ_ev ?_
  refine EQ_V vX11_names rfl ?_
  refine RQ_n (ZY_ok P) 3 rfl trivial ?_
  rw [h.1.2.1.1]
  refine RQ_b rfl (fun _ => ?_) (fun z => absurd (fun y => by have := (zq_eq (a := zgR G) (b := 0) rfl rfl (by omega) (by omega)).mp y; omega) z)
  refine RQ_n (ZY_ok P) 1 rfl trivial ?_
  unfold zvNs
  cases e2 : zix x 4 with
  | none =>
    obtain ⟨rr, ss, hq, hr⟩ : RnQ (ZY P) mX11_names (76, [some (.ref 0), some (.int x)], [], u) (fun z v => z = some (.int (-1)) ∧ v = u) := by
      refine RQ_n (ZY_ok P) 1 rfl trivial ?_
      exact RQ_to (Rn_iret rfl rfl) ⟨rfl, rfl⟩
    refine ⟨rr, ss, hq, Rn_swO (tgt := 76) rfl ?_ rfl hr⟩
    have := zix_out (by omega) e2
    omega
  | some j =>
  obtain ⟨j1, j2⟩ := zix_s e2
  rcases (show j = 0 ∨ j = 1 ∨ j = 2 ∨ j = 3 by omega) with q | q | q | q <;> subst q <;> subst j2
  · obtain ⟨rr, ss, hq, hr⟩ : RnQ (ZY P) mX11_names (44, [some (.ref 0), some (.int (nI 0))], [], u) (fun z v => z = some (.int (zLN G (zE0 G) (zgN G))) ∧ v = u) := by
      refine RQ_n (ZY_ok P) 3 rfl trivial ?_
      rw [a5]
      exact RQ_to (Rn_iret rfl rfl) ⟨rfl, rfl⟩
    exact ⟨rr, ss, hq, Rn_swI (off := 31) (tgt := 44) rfl (by decide) (by decide) rfl rfl hr⟩
  · obtain ⟨rr, ss, hq, hr⟩ : RnQ (ZY P) mX11_names (52, [some (.ref 0), some (.int (nI 1))], [], u) (fun z v => z = some (.int (zRC G false (zE0 G) 0 ||| 1)) ∧ v = u) := by
      refine RQ_n (ZY_ok P) 3 rfl trivial ?_
      rw [a6]
      exact RQ_to (Rn_iret rfl rfl) ⟨rfl, rfl⟩
    exact ⟨rr, ss, hq, Rn_swI (off := 39) (tgt := 52) rfl (by decide) (by decide) rfl rfl hr⟩
  · obtain ⟨rr, ss, hq, hr⟩ : RnQ (ZY P) mX11_names (60, [some (.ref 0), some (.int (nI 2))], [], u) (fun z v => z = some (.int (zE0 G)) ∧ v = u) := by
      refine RQ_n (ZY_ok P) 3 rfl trivial ?_
      rw [a1]
      exact RQ_to (Rn_iret rfl rfl) ⟨rfl, rfl⟩
    exact ⟨rr, ss, hq, Rn_swI (off := 47) (tgt := 60) rfl (by decide) (by decide) rfl rfl hr⟩
  · obtain ⟨rr, ss, hq, hr⟩ : RnQ (ZY P) mX11_names (68, [some (.ref 0), some (.int (nI 3))], [], u) (fun z v => z = some (.int (zEN (zSh G) (zgN G))) ∧ v = u) := by
      refine RQ_n (ZY_ok P) 2 rfl trivial ?_
      refine RQ_v vX4_endingNames (y_endingNames h.1 hS) rfl k11_210 rfl rfl rfl (zyr (ci := 4) rfl rfl (by omega)) rfl ?_
      exact RQ_to (Rn_iret rfl rfl) ⟨rfl, rfl⟩
    exact ⟨rr, ss, hq, Rn_swI (off := 55) (tgt := 68) rfl (by decide) (by decide) rfl rfl hr⟩
end NamX
