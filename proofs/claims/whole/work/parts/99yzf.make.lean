/-! A word made: as a value; the class. -/
def zlfm (w : Nat → Nat) (len : Nat) : Option Nat := zfst (fun i => decide (8 ≤ w i)) len
def zruw (G : ZGT) (S : Nat → Nat) (t n : Nat) (z : Int64) : Option Nat := if t < 12 then zdr G n z else zbs G S n (zgR G)
def zrz (G : ZGT) (t n : Nat) (z : Int64) : Int64 := if t < 12 then zdz G n z else z
def zmkw (G : ZGT) (S : Nat → Nat) : Nat → Nat → Int64 → Nat → (Nat → Nat) → Option (Nat × (Nat → Nat))
  | 0, _, _, len, w => (match zlfm w len with | none => some (len, w) | some _ => none)
  | d + 1, t, z, len, w => (match zlfm w len with
    | none => some (len, w)
    | some a => (match zruw G S t (w a - 8) z with
      | none => none
      | some r => if 60 < len + zgn G r - 1 then none else zmkw G S d (t + 1) (zrz G t (w a - 8) z) (len + zgn G r - 1) (zrp G w a r)))
def zwd (G : ZGT) (S : Nat → Nat) (z : Int64) : Option (Nat × (Nat → Nat)) := zmkw G S 200 0 z 1 (fun _ => 8)
section Zmk
variable {G : ZGT} {S : Nat → Nat} {d t len a r : Nat} {z : Int64} {w : Nat → Nat}
theorem zmkw_n (h : zlfm w len = none) : zmkw G S d t z len w = some (len, w) := by
  cases d with
  | zero => unfold zmkw; rw [h]
  | succ d => unfold zmkw; rw [h]
theorem zmkw_0 (h : zlfm w len = some a) : zmkw G S 0 t z len w = none := by unfold zmkw; rw [h]
theorem zmkw_r (h : zlfm w len = some a) (h2 : zruw G S t (w a - 8) z = none) : zmkw G S (d + 1) t z len w = none := by
  unfold zmkw
  rw [h]
  dsimp only
  rw [h2]
theorem zmkw_l (h : zlfm w len = some a) (h2 : zruw G S t (w a - 8) z = some r) (h3 : 60 < len + zgn G r - 1) : zmkw G S (d + 1) t z len w = none := by
  unfold zmkw
  rw [h]
  dsimp only
  rw [h2]
  dsimp only
  rw [if_pos h3]
theorem zmkw_s (h : zlfm w len = some a) (h2 : zruw G S t (w a - 8) z = some r) (h3 : ¬ 60 < len + zgn G r - 1) : zmkw G S (d + 1) t z len w = zmkw G S d (t + 1) (zrz G t (w a - 8) z) (len + zgn G r - 1) (zrp G w a r) := by
  rw [zmkw]
  rw [h]
  dsimp only
  rw [h2]
  dsimp only
  rw [if_neg h3]
theorem zruw_lt (h : zruw G S t a z = some r) : r < zgR G := by
  unfold zruw at h
  split at h
  · exact zdr_lt h
  · exact zbs_lt _ _ h
def zok (G : ZGT) (x : Nat) : Prop := x < zgT G ∨ (8 ≤ x ∧ x < 8 + zgN G)
theorem zrp_ok (hG : GW G) (hr : r < zgR G) (hw : ∀ i, i < len → zok G (w i)) (ha : a < len) : ∀ i, i < len + zgn G r - 1 → zok G (zrp G w a r i) := by
  intro i hi
  unfold zrp
  by_cases h1 : i < a
  · rw [if_pos h1]; exact hw i (by omega)
  · rw [if_neg h1]
    by_cases h2 : i < a + zgn G r
    · rw [if_pos h2]; exact (hG.2.2.1 r (by omega)).2 (i - a) (by omega)
    · rw [if_neg h2]; exact hw _ (by omega)
end Zmk
/-- what Draw may change -/
def frDw (u v : SX) : Prop := (∀ b j, (b, j) ≠ (97, 3) → v.1 b j = u.1 b j) ∧ (∀ a, a ≠ 98 → v.2.1 a = u.2.1 a) ∧ (∀ b, b ≠ 97 → v.2.2.1 b = u.2.2.1 b) ∧ v.2.2.2 = u.2.2.2
theorem frDw.tr {u v w : SX} (h1 : frDw u v) (h2 : frDw v w) : frDw u w := ⟨fun b j hb => (h2.1 b j hb).trans (h1.1 b j hb), fun a ha => (h2.2.1 a ha).trans (h1.2.1 a ha), fun b hb => (h2.2.2.1 b hb).trans (h1.2.2.1 b hb), h2.2.2.2.trans h1.2.2.2⟩
theorem frDw.of {u v : SX} (f : frX [(97, 3)] [98] u v) : frDw u v := ⟨fun b j hb => f.1 b j (fun y => hb (List.mem_singleton.mp y)), fun a ha => f.2.1 a (fun y => ha (List.mem_singleton.mp y)), fun b _ => by rw [f.2.2], by rw [f.2.2]⟩
theorem ZGX.dw {G : ZGT} {u v : SX} (h : ZGX G u) (f : frDw u v) : ZGX G v := by
  unfold ZGX at h ⊢
  rw [f.1 3 0 (by decide), f.1 3 1 (by decide), f.1 3 2 (by decide), f.1 3 3 (by decide), f.2.1 4 (by decide), f.2.1 5 (by decide), f.2.1 6 (by decide)]
  exact h
theorem SR.dw {S : Nat → Nat} {u v : SX} (h : SR S u) (f : frDw u v) : SR S v := by
  unfold SR at h ⊢
  rw [f.2.1 17 (by decide)]; exact h
section MakX
variable {P : YP} {G : ZGT} {u : SX} {S : Nat → Nat}
set_option maxHeartbeats 1000000 in
theorem y_make (h : ZGX G u) (hS : SB S) (hR : SR S u) (z0 : Int64) : EvQ (ZY P) mX3_make [.ref 97, .long z0] u (fun x v => x = some (.int (bI (zwd G S z0).isSome)) ∧ (∀ l w, zwd G S z0 = some (l, w) → WX l w v ∧ l ≤ 60 ∧ ∀ i, i < l → w i < zgT G) ∧ frDw u v) := by
  have hb := h.b
  obtain ⟨Q, hQ⟩ : ∃ Q : Option Value → SX → Prop, Q = (fun x v => x = some (.int (bI (zwd G S z0).isSome)) ∧ (∀ l w, zwd G S z0 = some (l, w) → WX l w v ∧ l ≤ 60 ∧ ∀ i, i < l → w i < zgT G) ∧ frDw u v) := ⟨_, rfl⟩
  rw [← hQ]
  have qno : ∀ v, zwd G S z0 = none → frDw u v → Q (some (.int 0)) v := fun v e f => by
    rw [hQ]
    exact ⟨by rw [e]; rfl, fun l w e2 => (by rw [e] at e2; cases e2), f⟩
  refine EQ_V vX3_make rfl ?_
  refine RQ_n (ZY_ok P) 15 rfl ⟨nI_in (c := 0) (by omega) (by omega), trivial⟩ ?_
  obtain ⟨v0, hv0⟩ : ∃ v : SX, v = (updI u.1 97 3 1, updA u.2.1 98 0 8, updL u.2.2.1 97 0 z0, u.2.2.2) := ⟨_, rfl⟩
  show RnQ (ZY P) mX3_make (23, [some (.ref 97), some (.long z0), none, some (.int (nI 0)), some (.int (nI 0)), none, none], [], (updI u.1 97 3 1, updA u.2.1 98 0 8, updL u.2.2.1 97 0 z0, u.2.2.2)) Q
  rw [← hv0]
  have f0 : frDw u v0 := by
    rw [hv0]
    refine ⟨fun b j hb => ?_, fun a ha => updA_ne ha, fun b hb => updL_ne hb, rfl⟩
    exact (frX.i (s := u) (ks := [(97, 3)]) (as := []) 97 3 (by decide)).1 b j (fun y => hb (List.mem_singleton.mp y))
  have W0 : WX 1 (fun _ => 8) v0 := by
    rw [hv0]
    refine ⟨rfl, fun i hi => ?_⟩
    have : i = 0 := by omega
    subst this
    rfl
  have z00 : v0.2.2.1 97 0 = z0 := by rw [hv0]; rfl
  refine loopU 200 (fun t (x : Nat × Int64 × Nat × (Nat → Nat)) => [some (.ref 97), some (.long z0), none, some (.int (nI x.1)), some (.int (nI t)), none, none]) (fun t x v => frDw u v ∧ v.2.2.1 97 0 = x.2.1 ∧ WX x.2.2.1 x.2.2.2 v ∧ x.2.2.1 ≤ 60 ∧ (∀ i, i < x.2.2.1 → zok G (x.2.2.2 i)) ∧ (∀ i, i < x.1 → x.2.2.2 i < 8) ∧ x.1 ≤ x.2.2.1 ∧ zmkw G S (200 - t) t x.2.1 x.2.2.1 x.2.2.2 = zwd G S z0) ?_ 0 (0, z0, 1, fun _ => 8) v0 (by omega) ⟨f0, z00, W0, by show 1 ≤ 60; omega, fun i _ => Or.inr ⟨Nat.le_refl _, by show 8 < 8 + zgN G; omega⟩, fun i hi => absurd hi (Nat.not_lt_zero _), Nat.zero_le _, rfl⟩
  intro t x v ht hJ ih
  obtain ⟨at0, z, len, w⟩ := x
  obtain ⟨g1, g2, g3, g4, g5, g6, g7, g8⟩ := hJ
  dsimp only at g1 g2 g3 g4 g5 g6 g7 g8 ⊢
  have hGv := h.dw g1
  refine RQ_n (ZY_ok P) 2 rfl trivial ?_
  refine RQ_b rfl (fun q => ?_) (fun _ => ?_)
  · have q := (not_congr (zq_le (a := t) (b := 200) rfl rfl (by omega) (by omega))).mp (Int32.not_le.mpr q)
    omega
  -- at the leftmost name, or at the end
  have p56 : ∀ a, a ≤ len → (∀ i, i < a → w i < 8) → (a < len → 8 ≤ w a) → RnQ (ZY P) mX3_make (56, [some (.ref 97), some (.long z0), none, some (.int (nI a)), some (.int (nI t)), none, none], [], v) Q := by
    intro a ha1 ha2 ha3
    refine RQ_n (ZY_ok P) 3 rfl trivial ?_
    by_cases hal : a = len
    · have en : zlfm w len = none := zfst_n.mpr (fun b hb => decide_eq_false (by have := ha2 b (by omega); omega))
      rw [zmkw_n en] at g8
      refine RQ_b rfl (fun q => absurd (show nI a = v.1 97 3 by rw [g3.1, hal]) q) (fun _ => ?_)
      refine RQ_n (ZY_ok P) 1 rfl trivial ?_
      refine RQ_to (Rn_zret rfl rfl (Or.inr rfl)) ?_
      rw [hQ]
      refine ⟨by rw [← g8]; rfl, fun l w' e => ?_, g1⟩
      rw [← g8] at e
      cases e
      refine ⟨g3, g4, fun i hi => ?_⟩
      rcases g5 i hi with y | y
      · exact y
      · have := ha2 i (by omega); omega
    have hal2 : a < len := by omega
    have h8 := ha3 hal2
    have en : zlfm w len = some a := zfst_i hal2 (decide_eq_true h8) (fun b hb => decide_eq_false (by have := ha2 b hb; omega))
    have hwa : w a < 8 + zgN G := by
      rcases g5 a hal2 with y | y <;> omega
    refine RQ_b rfl (fun _ => ?_) (fun q => absurd (fun y => hal ((nI_eq (by omega) (by omega)).mp (show nI a = nI len by rw [← g3.1]; exact y))) q)
    refine RQ_n (ZY_ok P) 4 rfl ⟨nI_in (by omega) (by omega), trivial⟩ ?_
    rw [nI_clamp (by omega), g3.2 a hal2]
    refine RQ_n (ZY_ok P) 5 rfl trivial ?_
    rw [show nI (w a) - 8 = nI (w a - 8) from by rw [show (8 : Int32) = nI 8 from rfl, nI_sub h8]]
    obtain ⟨n, hn⟩ : ∃ n, n = w a - 8 := ⟨_, rfl⟩
    rw [← hn]
    have hn6 : n < 6 := by omega
    -- with the rule
    have p99 : ∀ v1, frDw v v1 → v1.2.2.1 97 0 = zrz G t n z → v1.1 97 3 = v.1 97 3 → v1.2.1 98 = v.2.1 98 → RnQ (ZY P) mX3_make (99, [some (.ref 97), some (.long z0), none, some (.int (nI a)), some (.int (nI t)), some (.int (nI n)), none], [.int (fI (zruw G S t n z))], v1) Q := by
      intro v1 f1 e1 e2 e3
      have hW1 : WX len w v1 := ⟨by rw [e2]; exact g3.1, fun i hi => by rw [e3]; exact g3.2 i hi⟩
      refine RQ_n (ZY_ok P) 3 rfl trivial ?_
      have no : ∀ y : Int32, zwd G S z0 = none → RnQ (ZY P) mX3_make (115, [some (.ref 97), some (.long z0), none, some (.int (nI a)), some (.int (nI t)), some (.int (nI n)), some (.int y)], [], v1) Q := by
        intro y e
        refine RQ_n (ZY_ok P) 1 rfl trivial ?_
        exact RQ_to (Rn_zret rfl rfl (Or.inl rfl)) (qno _ e (g1.tr f1))
      by_cases ht2 : t = 200
      · subst ht2
        have e0 : zwd G S z0 = none := by rw [← g8, Nat.sub_self]; exact zmkw_0 en
        refine RQ_b rfl (fun _ => no _ e0) (fun _ => ?_)
        refine RQ_n (ZY_ok P) 2 rfl trivial ?_
        exact RQ_b rfl (fun q => absurd rfl q) (fun _ => no _ e0)
      obtain ⟨d, hd⟩ : ∃ d, 200 - t = d + 1 := ⟨200 - t - 1, by omega⟩
      have hd1 : 200 - (t + 1) = d := by omega
      rw [hd] at g8
      cases er : zruw G S t n z with
      | none =>
        rw [hn] at er
        have e0 : zwd G S z0 = none := by rw [← g8]; exact zmkw_r en er
        exact RQ_b rfl (fun _ => no _ e0) (fun q => absurd rfl q)
      | some r =>
      have hr := zruw_lt er
      have hnr := h.1.n (show r ≤ zgR G by omega)
      rw [hn] at er
      refine RQ_b rfl (fun q => absurd (show nI r = -1 from q) (nI_m1 (by omega))) (fun _ => ?_)
      refine RQ_n (ZY_ok P) 2 rfl trivial ?_
      refine RQ_b rfl (fun _ => ?_) (fun q => absurd (fun y => ht2 ((nI_eq (by omega) (by omega)).mp (show nI t = nI 200 from y))) q)
      refine RQ_n (ZY_ok P) 3 rfl trivial ?_
      refine RQ_V vX3_replace (y_replace (hGv.dw f1) hW1 g4 hal2 hr) rfl k3_38 rfl rfl rfl (zy97 _ rfl) (fun _ s1 q => by show 3 * s1.2.2.2.2.1 + 99 = 3 * v1.2.2.2.2.1 + 99; rw [q.2.2.2.2]) ?_
      rintro r1 v2 ⟨rfl, q1, q2⟩
      have f2 := (g1.tr f1).tr (frDw.of q2)
      refine RQ_n (ZY_ok P) 3 rfl trivial ?_
      rw [q1.1]
      by_cases h60 : 60 < len + zgn G r - 1
      · have e0 : zwd G S z0 = none := by rw [← g8]; exact zmkw_l en er h60
        refine RQ_b rfl (fun q => ?_) (fun _ => ?_)
        · have q := (zq_le (a := len + zgn G r - 1) (b := 60) rfl rfl (by omega) (by omega)).mp q
          omega
        refine RQ_n (ZY_ok P) 1 rfl trivial ?_
        exact RQ_to (Rn_zret rfl rfl (Or.inl rfl)) (qno _ e0 f2)
      refine RQ_b rfl (fun _ => ?_) (fun q => absurd ((zq_le (a := len + zgn G r - 1) (b := 60) rfl rfl (by omega) (by omega)).mpr (by omega)) q)
      refine RQ_n (ZY_ok P) 2 rfl trivial ?_
      rw [zmkw_s en er h60] at g8
      refine ih (by omega) (a, zrz G t (w a - 8) z, len + zgn G r - 1, zrp G w a r) _ _ ⟨rfl, rfl, rfl, nIs t, trivial⟩ ⟨f2, ?_, q1, by show len + zgn G r - 1 ≤ 60; omega, zrp_ok h.1 hr g5 hal2, fun i hi => ?_, by show a ≤ len + zgn G r - 1; omega, by rw [hd1]; exact g8⟩
      · show v2.2.2.1 97 0 = _
        rw [q2.2.2, e1, hn]
      · show zrp G w a r i < 8
        have hi : i < a := hi
        unfold zrp
        rw [if_pos hi]; exact ha2 i hi
    by_cases ht12 : t < 12
    · refine RQ_b rfl (fun q => ?_) (fun _ => ?_)
      · have q := (zq_le (a := 12) (b := t) rfl rfl (by omega) (by omega)).mp q
        omega
      refine RQ_n (ZY_ok P) 2 rfl trivial ?_
      refine RQ_V vX3_drawnRule (y_drawnRule hGv hn6) rfl k3_31 rfl rfl rfl (zy97 _ rfl) (fun _ s1 q => by show 3 * s1.2.2.2.2.1 + 99 = 3 * v.2.2.2.2.1 + 99; rw [q.2.2.2.2.2]) ?_
      rintro r1 v1 ⟨rfl, q1, q2, q3, q4, q5⟩
      refine RQ_n (ZY_ok P) 1 rfl trivial ?_
      have e1 : zruw G S t n z = zdr G n (v.2.2.1 97 0) := by rw [g2]; unfold zruw; rw [if_pos ht12]
      rw [← e1]
      exact p99 v1 ⟨fun b j _ => by rw [q2], fun a _ => by rw [q3], q4, q5⟩ (by rw [q1, g2]; unfold zrz; rw [if_pos ht12]) (by rw [q2]) (by rw [q3])
    · refine RQ_b rfl (fun _ => ?_) (fun q => absurd ((zq_le (a := 12) (b := t) rfl rfl (by omega) (by omega)).mpr (by omega)) q)
      refine RQ_n (ZY_ok P) 2 rfl trivial ?_
      refine RQ_v vX3_shortestRule (y_shortestRule hGv hS (hR.dw g1) hn6) rfl k3_35 rfl rfl rfl (zy97 _ rfl) rfl ?_
      have e1 : zruw G S t n z = zbs G S n (zgR G) := by unfold zruw; rw [if_neg ht12]
      rw [← e1]
      exact p99 v ⟨fun _ _ _ => rfl, fun _ _ => rfl, fun _ _ => rfl, rfl⟩ (by rw [g2]; unfold zrz; rw [if_neg ht12]) rfl rfl
  -- signs are passed over
  refine loopU (M := mX3_make) (pc := 31) len (fun a (_ : Unit) => [some (.ref 97), some (.long z0), none, some (.int (nI a)), some (.int (nI t)), none, none]) (fun a _ v' => v' = v ∧ ∀ i, i < a → w i < 8) ?_ at0 () v g7 ⟨rfl, g6⟩
  intro a _ v' ha hJ2 ih2
  obtain ⟨rfl, k1⟩ := hJ2
  refine RQ_n (ZY_ok P) 3 rfl trivial ?_
  refine RQ_b rfl (fun q => ?_) (fun q => ?_)
  · have q := (zq_le (a := len) (b := a) g3.1 rfl (by omega) (by omega)).mp q
    exact p56 a ha k1 (fun y => by omega)
  have q := (not_congr (zq_le (a := len) (b := a) g3.1 rfl (by omega) (by omega))).mp q
  refine RQ_n (ZY_ok P) 5 rfl ⟨nI_in (by omega) (by omega), trivial⟩ ?_
  rw [nI_clamp (by omega), g3.2 a (by omega)]
  have hwa : w a < 14 := by rcases g5 a (by omega) with y | y <;> omega
  refine RQ_b rfl (fun q2 => ?_) (fun q2 => ?_)
  · have q2 := (zq_le (a := 8) (b := w a) rfl rfl (by omega) (by omega)).mp q2
    exact p56 a ha k1 (fun _ => q2)
  have q2 := (not_congr (zq_le (a := 8) (b := w a) rfl rfl (by omega) (by omega))).mp q2
  refine RQ_n (ZY_ok P) 2 rfl trivial ?_
  exact ih2 (by omega) () _ _ ⟨rfl, rfl, nIs a, rfl, trivial⟩ ⟨rfl, fun i hi => by
    by_cases y : i = a
    · rw [y]; omega
    · exact k1 i (by omega)⟩
end MakX
