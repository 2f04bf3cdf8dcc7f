/-! takeGrammar of the reference (part of the text is an earlier start's). -/
def sI : Option Nat → Int32
  | none => 99
  | some k => nI k
theorem m_nameOf (s : SM) (c : Nat) (x : Int32) (hc : s.1 16 = nI c) (h6 : c ≤ 6) : Ev ZR mX12_nameOf [.ref 0, .int x] s (some (.int (fI (fnd (s.2.1 21) x c)))) s := by
  refine Ev_V vX12_nameOf rfl ?_
  have key : ∀ d k, k + d = c → fnd (s.2.1 21) x k = none → Rn ZR mX12_nameOf (2, [some (.ref 0), some (.int x), some (.int (nI k))], [], s) (some (.int (fI (fnd (s.2.1 21) x c)))) s := by
    intro d
    induction d with
    | zero =>
      intro k hd hn
      have hk : k = c := by omega
      subst hk
      refine Rn_n ZR_ok 3 rfl trivial ?_
      refine Rn_b rfl (fun _ => ?_) (fun q => absurd (by show s.1 16 ≤ nI k; rw [hc]; exact Int32.le_refl _) q)
      refine Rn_n ZR_ok 1 rfl trivial ?_
      exact Rn_to (Rn_iret rfl rfl) (by rw [hn]; rfl) rfl
    | succ d ih =>
      intro k hd hn
      have hkc : (nI k).toNatClampNeg = k := nI_clamp (by omega)
      refine Rn_n ZR_ok 3 rfl trivial ?_
      refine Rn_b rfl (fun q => absurd (show s.1 16 ≤ nI k from q) (by rw [hc]; exact nI_ge (by omega) (by omega))) (fun _ => ?_)
      refine Rn_n ZR_ok 5 rfl ⟨nI_in (by omega) (by omega), trivial⟩ ?_
      refine Rn_b rfl (fun q => ?_) (fun q => ?_)
      · have q : ¬ s.2.1 21 k = x := by
          have q : ¬ s.2.1 21 (nI k).toNatClampNeg = x := q
          rw [hkc] at q; exact q
        refine Rn_n ZR_ok 2 rfl trivial ?_
        have h0 := ih (k + 1) (by omega) (by rw [(fnd_s _ _ _).2 hn, if_neg q])
        rw [nI_succ] at h0
        exact h0
      · have q : s.2.1 21 k = x := by
          have q : s.2.1 21 (nI k).toNatClampNeg = x := Classical.not_not.mp q
          rw [hkc] at q; exact q
        refine Rn_n ZR_ok 1 rfl trivial ?_
        have hs : fnd (s.2.1 21) x (k + 1) = some k := by rw [(fnd_s _ _ _).2 hn, if_pos q]
        have hs2 := fnd_up hs d
        rw [show k + 1 + d = c by omega] at hs2
        exact Rn_to (Rn_iret rfl rfl) (by rw [hs2]; rfl) rfl
  refine Rn_n ZR_ok 2 rfl trivial ?_
  exact key c 0 (by omega) rfl
theorem m_signOf (s : SM) (c : Nat) (x : Int32) (hc : s.1 17 = nI c) (h8 : c ≤ 8) : Ev ZR mX12_signOf [.ref 0, .int x] s (some (.int (sI (fnd (s.2.1 22) x c)))) s := by
  refine Ev_V vX12_signOf rfl ?_
  have key : ∀ d k, k + d = c → fnd (s.2.1 22) x k = none → Rn ZR mX12_signOf (2, [some (.ref 0), some (.int x), some (.int (nI k))], [], s) (some (.int (sI (fnd (s.2.1 22) x c)))) s := by
    intro d
    induction d with
    | zero =>
      intro k hd hn
      have hk : k = c := by omega
      subst hk
      refine Rn_n ZR_ok 3 rfl trivial ?_
      refine Rn_b rfl (fun _ => ?_) (fun q => absurd (by show s.1 17 ≤ nI k; rw [hc]; exact Int32.le_refl _) q)
      refine Rn_n ZR_ok 1 rfl trivial ?_
      exact Rn_to (Rn_iret rfl rfl) (by rw [hn]; rfl) rfl
    | succ d ih =>
      intro k hd hn
      have hkc : (nI k).toNatClampNeg = k := nI_clamp (by omega)
      refine Rn_n ZR_ok 3 rfl trivial ?_
      refine Rn_b rfl (fun q => absurd (show s.1 17 ≤ nI k from q) (by rw [hc]; exact nI_ge (by omega) (by omega))) (fun _ => ?_)
      refine Rn_n ZR_ok 5 rfl ⟨nI_in (by omega) (by omega), trivial⟩ ?_
      refine Rn_b rfl (fun q => ?_) (fun q => ?_)
      · have q : ¬ s.2.1 22 k = x := by
          have q : ¬ s.2.1 22 (nI k).toNatClampNeg = x := q
          rw [hkc] at q; exact q
        refine Rn_n ZR_ok 2 rfl trivial ?_
        have h0 := ih (k + 1) (by omega) (by rw [(fnd_s _ _ _).2 hn, if_neg q])
        rw [nI_succ] at h0
        exact h0
      · have q : s.2.1 22 k = x := by
          have q : s.2.1 22 (nI k).toNatClampNeg = x := Classical.not_not.mp q
          rw [hkc] at q; exact q
        refine Rn_n ZR_ok 1 rfl trivial ?_
        have hs : fnd (s.2.1 22) x (k + 1) = some k := by rw [(fnd_s _ _ _).2 hn, if_pos q]
        have hs2 := fnd_up hs d
        rw [show k + 1 + d = c by omega] at hs2
        exact Rn_to (Rn_iret rfl rfl) (by rw [hs2]; rfl) rfl
  refine Rn_n ZR_ok 2 rfl trivial ?_
  exact key c 0 (by omega) rfl
theorem m_changed (s : SM) : EvQ ZR mX12_changed [.ref 0] s (fun r u => r = none ∧ u.1 29 = 0 ∧ (u.2.1 30 0 = 0 ∧ u.2.1 30 1 = 0 ∧ u.2.1 30 2 = 0) ∧ frM [29] [30] s u) := by
  refine EQ_V vX12_changed rfl ?_
  refine RQ_n ZR_ok 5 rfl ⟨Or.inl rfl, trivial⟩ ?_
  refine loopU 3 (fun n (_ : Unit) => [some (.ref 0), some (.int (nI n))]) (fun n _ v => frM [29] [30] s v ∧ v.1 29 = 0 ∧ ∀ k, k < n → v.2.1 30 k = 0) ?_ 0 () _ (by omega) ⟨frM.i 29 (by decide), rfl, fun k hk => by omega⟩
  intro n _ v hn hJ ih
  obtain ⟨g1, g2, g3⟩ := hJ
  refine RQ_n ZR_ok 2 rfl trivial ?_
  refine RQ_b rfl (fun q => ?_) (fun q => ?_)
  · have q := (zq_le (a := 3) (b := n) rfl rfl (by omega) (by omega)).mp q
    exact RQ_to (Rn_vret rfl rfl) ⟨rfl, g2, ⟨g3 0 (by omega), g3 1 (by omega), g3 2 (by omega)⟩, g1⟩
  have q := (not_congr (zq_le (a := 3) (b := n) rfl rfl (by omega) (by omega))).mp q
  refine RQ_n ZR_ok 7 rfl ⟨nI_in (by omega) (by omega), trivial⟩ ?_
  refine ih (by omega) () _ _ ⟨rfl, nIs n, trivial⟩ ⟨g1.tr (frM.a 30 (by decide)), g2, fun k hk => ?_⟩
  show upd (v.2.1 30) (nI n).toNatClampNeg (vp_nar FieldType.boolean 0) k = 0
  rw [nI_clamp (by omega), show vp_nar FieldType.boolean 0 = 0 by decide]
  by_cases z : k = n
  · subst z; rw [upd_at]
  · rw [upd_ne z]; exact g3 k (by omega)
/-- a letter's number in the reference -/
def lM (q : NBt) (w : Int32) (x : Int32) : Int32 := if isNm x = true then 100 + fI (fnd q.2 x q.1) else sI (fnd (fun k => nI (97 + (sgs w 26).2 k)) x (sgs w 26).1)
def tgQ (s : SM) (D : pD) (w : Int32) (r : Option Value) (u : SM) : Prop :=
  r = some (.int (nI D.1)) ∧ (u.1 15 = nI D.1 ∧ u.1 16 = nI (nms D.2.1 D.1).1 ∧ u.1 17 = nI (sgs w 26).1 ∧ u.1 23 = 0 ∧ u.1 24 = 0 ∧ u.1 37 = 0 ∧ u.1 77 = 0 ∧ u.1 29 = 0) ∧ (u.2.1 30 0 = 0 ∧ u.2.1 30 1 = 0 ∧ u.2.1 30 2 = 0) ∧
  (∀ k, k < (nms D.2.1 D.1).1 → u.2.1 21 k = (nms D.2.1 D.1).2 k) ∧ (∀ k, k < (sgs w 26).1 → u.2.1 22 k = nI (97 + (sgs w 26).2 k)) ∧
  (∀ j, j < D.1 → u.2.1 18 j = fI (fnd (nms D.2.1 D.1).2 (D.2.1 j) (nms D.2.1 D.1).1) ∧ u.2.1 19 j = nI (D.2.2.1 j) ∧ ∀ k, k < D.2.2.1 j → u.2.1 20 (5 * j + k) = lM (nms D.2.1 D.1) w (D.2.2.2 j k)) ∧
  (u.2.1 18 D.1 = -1 ∧ u.2.1 19 D.1 = 1 ∧ u.2.1 20 (5 * D.1) = 100) ∧ frM [15, 16, 17, 23, 24, 37, 77, 29] [18, 19, 20, 21, 22, 30] s u
set_option maxHeartbeats 8000000 in
theorem m_takeGrammar (s : SM) (D : pD) (w : Int32) (hA : gA D s) (hw : s.1 11 = w) (h16 : D.1 ≤ 16) (h6 : (nms D.2.1 D.1).1 ≤ 6) (h8 : (sgs w 26).1 ≤ 8) : EvQ ZR mX12_takeGrammar [.ref 0] s (tgQ s D w) := by
  obtain ⟨R, L, N, T⟩ := D
  obtain ⟨hA1, hA2⟩ := hA
  dsimp only at hA1 hA2 h16 h6
  obtain ⟨q, hq⟩ : ∃ q, q = nms L R := ⟨_, rfl⟩
  obtain ⟨S, hS⟩ : ∃ S, S = sgs w 26 := ⟨_, rfl⟩
  rw [← hq] at h6
  rw [← hS] at h8
  refine EQ_V vX12_takeGrammar rfl ?_
  -- the third loop: rules
  have third : ∀ d r u, r + d = R → (u.1 15 = nI R ∧ u.1 16 = nI q.1 ∧ u.1 17 = nI S.1) → (∀ k, k < q.1 → u.2.1 21 k = q.2 k) → (∀ k, k < S.1 → u.2.1 22 k = nI (97 + S.2 k)) → (∀ j, j < r → u.2.1 18 j = fI (fnd q.2 (L j) q.1) ∧ u.2.1 19 j = nI (N j) ∧ ∀ k, k < N j → u.2.1 20 (5 * j + k) = lM q w (T j k)) → frM [15, 16, 17] [18, 19, 20, 21, 22] s u →
      RnQ ZR mX12_takeGrammar (123, [some (.ref 0), some (.int (nI r)), none, none], [], u) (tgQ s (R, L, N, T) w) := by
    intro d
    induction d with
    | zero =>
      intro r u hd hi h21 h22 hr hf
      have hrR : r = R := by omega
      subst hrR
      have hrc : (u.1 15).toNatClampNeg = r := by rw [hi.1]; exact nI_clamp (by omega)
      have hin : vp_in (u.1 15) 17 := by rw [hi.1]; exact nI_in (by omega) (by omega)
      have h5 : 5 * u.1 15 = nI (5 * r) := by rw [hi.1, nI_mul5]
      have h5c : (nI (5 * r)).toNatClampNeg = 5 * r := nI_clamp (by omega)
      refine RQ_n ZR_ok 3 rfl trivial ?_
      refine RQ_b rfl (fun _ => ?_) (fun z => absurd (by show u.1 15 ≤ nI r; rw [hi.1]; exact Int32.le_refl _) z)
      refine RQ_n ZR_ok 33 rfl ⟨hin, hin, by rw [h5]; exact nI_in (by omega) (by omega), Or.inl rfl, trivial⟩ ?_
      refine RQ_V vX12_changed (m_changed _) rfl k12_257 rfl rfl rfl rfl (fun _ _ _ => rfl) (fun r1 u1 h1 => ?_)
      obtain ⟨rfl, a1, a2, a3⟩ := h1
      refine RQ_n ZR_ok 2 rfl trivial ?_
      have e20 : u1.2.1 20 = upd (u.2.1 20) (5 * r) 100 := by
        rw [a3.2.1 20 (by decide)]
        show upd (u.2.1 20) (5 * u.1 15).toNatClampNeg 100 = _
        rw [h5, h5c]
      have e18 : u1.2.1 18 = upd (u.2.1 18) r (-1) := by
        rw [a3.2.1 18 (by decide)]
        show upd (u.2.1 18) (u.1 15).toNatClampNeg (-1) = _
        rw [hrc]
      have e19 : u1.2.1 19 = upd (u.2.1 19) r 1 := by
        rw [a3.2.1 19 (by decide)]
        show upd (u.2.1 19) (u.1 15).toNatClampNeg 1 = _
        rw [hrc]
      have e15 : u1.1 15 = nI r := by rw [a3.1 15 (by decide)]; exact hi.1
      refine RQ_to (Rn_iret rfl rfl) ⟨?_, ⟨e15, ?_, ?_, ?_, ?_, ?_, ?_, a1⟩, a2, ?_, ?_, ?_, ⟨?_, ?_, ?_⟩, ?_⟩
      · show some (Value.int (u1.1 15)) = _
        rw [e15]
      · rw [a3.1 16 (by decide), ← hq]; exact hi.2.1
      · rw [a3.1 17 (by decide), ← hS]; exact hi.2.2
      · rw [a3.1 23 (by decide)]; rfl
      · rw [a3.1 24 (by decide)]; rfl
      · rw [a3.1 37 (by decide)]; rfl
      · rw [a3.1 77 (by decide)]; rfl
      · intro k hk
        rw [a3.2.1 21 (by decide)]
        rw [← hq] at hk ⊢
        exact h21 k hk
      · intro k hk
        rw [a3.2.1 22 (by decide)]
        rw [← hS] at hk ⊢
        exact h22 k hk
      · intro j hj
        have hj : j < r := hj
        obtain ⟨b1, b2, b3⟩ := hr j hj
        have hNj := (hA2 j hj).2.2.1
        rw [e18, e19, e20, upd_ne (by omega), upd_ne (by omega), ← hq]
        refine ⟨b1, b2, fun k hk => ?_⟩
        have hk : k < N j := hk
        rw [upd_ne (by omega)]
        exact b3 k hk
      · rw [e18]; exact upd_at
      · rw [e19]; exact upd_at
      · rw [e20]; exact upd_at
      · refine frM.tr (s1 := u) (hf.up (by decide) (by decide)) ?_
        refine frM.tr ?_ (a3.up (by decide) (by decide))
        exact ((((((frM.a 18 (by decide)).tr (frM.a 19 (by decide))).tr (frM.a 20 (by decide))).tr (frM.i 23 (by decide))).tr (frM.i 24 (by decide))).tr (frM.i 37 (by decide))).tr (frM.i 77 (by decide))
    | succ d ih =>
      intro r u hd hi h21 h22 hr hf
      have hrc : (nI r).toNatClampNeg = r := nI_clamp (by omega)
      have hin16 : vp_in (nI r) 16 := nI_in (by omega) (by omega)
      have hin17 : vp_in (nI r) 17 := nI_in (by omega) (by omega)
      obtain ⟨g5, g6, g7, g8⟩ := hA2 r (by omega)
      have f5 : ∀ v : SM, frM [15, 16, 17] [18, 19, 20, 21, 22] s v → v.2.1 5 = s.2.1 5 ∧ v.2.1 6 = s.2.1 6 ∧ v.2.1 7 = s.2.1 7 := fun v hv => ⟨hv.2.1 5 (by decide), hv.2.1 6 (by decide), hv.2.1 7 (by decide)⟩
      have hu5 : u.2.1 5 (nI r).toNatClampNeg = L r := by rw [hrc, (f5 u hf).1]; exact g5
      refine RQ_n ZR_ok 3 rfl trivial ?_
      refine RQ_b rfl (fun z => absurd (show u.1 15 ≤ nI r from z) (by rw [hi.1]; exact nI_ge (by omega) (by omega))) (fun _ => ?_)
      refine RQ_n ZR_ok 8 rfl ⟨hin16, trivial⟩ ?_
      have hnm : fnd (u.2.1 21) (u.2.1 5 (nI r).toNatClampNeg) q.1 = fnd q.2 (L r) q.1 := by rw [hu5]; exact fnd_cong h21
      have evn := m_nameOf u q.1 (u.2.1 5 (nI r).toNatClampNeg) hi.2.1 h6
      rw [hnm] at evn
      refine RQ_v vX12_nameOf evn rfl k12_234 rfl rfl rfl rfl rfl ?_
      refine RQ_n ZR_ok 10 rfl ⟨hin17, hin16, hin17, trivial⟩ ?_
      -- the inner loop
      obtain ⟨u0, hu0⟩ : ∃ u0 : SM, u0 = (u.1, updA (updA u.2.1 18 (nI r).toNatClampNeg (fI (fnd q.2 (L r) q.1))) 19 (nI r).toNatClampNeg (u.2.1 6 (nI r).toNatClampNeg), u.2.2) := ⟨_, rfl⟩
      have inner : ∀ e k v, k + e = N r → (v.1 15 = nI R ∧ v.1 16 = nI q.1 ∧ v.1 17 = nI S.1) → (∀ j, j < q.1 → v.2.1 21 j = q.2 j) → (∀ j, j < S.1 → v.2.1 22 j = nI (97 + S.2 j)) → (∀ j, j < r → v.2.1 18 j = fI (fnd q.2 (L j) q.1) ∧ v.2.1 19 j = nI (N j) ∧ ∀ k, k < N j → v.2.1 20 (5 * j + k) = lM q w (T j k)) → (v.2.1 18 r = fI (fnd q.2 (L r) q.1) ∧ v.2.1 19 r = nI (N r) ∧ ∀ j, j < k → v.2.1 20 (5 * r + j) = lM q w (T r j)) → frM [15, 16, 17] [18, 19, 20, 21, 22] s v →
          RnQ ZR mX12_takeGrammar (161, [some (.ref 0), some (.int (nI r)), some (.int (nI k)), none], [], v) (tgQ s (R, L, N, T) w) := by
        intro e
        induction e with
        | zero =>
          intro k v he vi v21 v22 vr vk vf
          have hv6 : v.2.1 6 (nI r).toNatClampNeg = nI (N r) := by rw [hrc, (f5 v vf).2.1]; exact g6
          refine RQ_n ZR_ok 5 rfl ⟨hin16, trivial⟩ ?_
          refine RQ_b rfl (fun _ => ?_) (fun z => absurd (show v.2.1 6 (nI r).toNatClampNeg ≤ nI k by rw [hv6, show k = N r by omega]; exact Int32.le_refl _) z)
          refine RQ_n ZR_ok 2 rfl trivial ?_
          have h0 := ih (r + 1) v (by omega) vi v21 v22 (fun j hj => by
            by_cases z : j = r
            · subst z
              exact ⟨vk.1, vk.2.1, fun k' hk' => vk.2.2 k' (by omega)⟩
            · exact vr j (by omega)) vf
          rw [nI_succ] at h0
          exact RQ_le (zle_s (zle_s (zle_n (zle_n zle_0)))) h0
        | succ e ih2 =>
          intro k v he vi v21 v22 vr vk vf
          have hv6 : v.2.1 6 (nI r).toNatClampNeg = nI (N r) := by rw [hrc, (f5 v vf).2.1]; exact g6
          have hix : 5 * nI r + nI k = nI (5 * r + k) := by rw [nI_mul5, nI_add]
          have hic : (nI (5 * r + k)).toNatClampNeg = 5 * r + k := nI_clamp (by omega)
          have hv7 : v.2.1 7 (5 * nI r + nI k).toNatClampNeg = T r k := by rw [hix, hic, (f5 v vf).2.2]; exact g8 k (by omega)
          refine RQ_n ZR_ok 5 rfl ⟨hin16, trivial⟩ ?_
          refine RQ_b rfl (fun z => absurd (show v.2.1 6 (nI r).toNatClampNeg ≤ nI k from z) (by rw [hv6]; exact nI_ge (by omega) (by omega))) (fun _ => ?_)
          refine RQ_n ZR_ok 17 rfl ⟨by rw [hix]; exact nI_in (by omega) (by omega), trivial⟩ ?_
          obtain ⟨x, hx⟩ : ∃ x, x = T r k := ⟨_, rfl⟩
          show RnQ ZR mX12_takeGrammar (192, [some (.ref 0), some (.int (nI r)), some (.int (nI k)), some (.int (v.2.1 7 (5 * nI r + nI k).toNatClampNeg))], [.int (v.2.1 7 (5 * nI r + nI k).toNatClampNeg), .int (5 * nI r + nI k), .ref 9], v) _
          rw [hv7, ← hx]
          refine RQ_s vX12_isName (e_isName v x) rfl k12_184 rfl rfl rfl rfl ?_
          have fin : ∀ y, y = lM q w x → RnQ ZR mX12_takeGrammar (214, [some (.ref 0), some (.int (nI r)), some (.int (nI k)), some (.int x)], [.int y, .int (5 * nI r + nI k), .ref 9], v) (tgQ s (R, L, N, T) w) := by
            intro y hy
            refine RQ_n ZR_ok 3 rfl ⟨by rw [hix]; exact nI_in (by omega) (by omega), trivial⟩ ?_
            have h0 := ih2 (k + 1) (v.1, updA v.2.1 20 (5 * nI r + nI k).toNatClampNeg y, v.2.2) (by omega) vi v21 v22 (fun j hj => by
              obtain ⟨b1, b2, b3⟩ := vr j hj
              have hNj := (hA2 j (by omega)).2.2.1
              refine ⟨b1, b2, fun k' hk' => ?_⟩
              show upd (v.2.1 20) (5 * nI r + nI k).toNatClampNeg y (5 * j + k') = _
              rw [hix, hic, upd_ne (by omega)]
              exact b3 k' hk') ⟨vk.1, vk.2.1, fun j hj => by
              show upd (v.2.1 20) (5 * nI r + nI k).toNatClampNeg y (5 * r + j) = _
              rw [hix, hic]
              by_cases z : j = k
              · rw [z, upd_at, hy, hx]
              · rw [upd_ne (by omega)]
                exact vk.2.2 j (by omega)⟩ (vf.tr (frM.a 20 (by decide)))
            rw [nI_succ] at h0
            exact RQ_le (zle_s (zle_s (zle_s (zle_n zle_0)))) h0
          refine RQ_b rfl (fun z => ?_) (fun z => ?_)
          · have z := bI_0.mp z
            refine RQ_n ZR_ok 2 rfl trivial ?_
            have evs := m_signOf v S.1 x vi.2.2 h8
            rw [fnd_cong v22] at evs
            refine RQ_v vX12_signOf evs rfl k12_241 rfl rfl rfl rfl rfl ?_
            exact fin _ (by rw [lM, if_neg (by rw [z]; decide), ← hS])
          · have z := bI_t z
            refine RQ_n ZR_ok 3 rfl trivial ?_
            have evs := m_nameOf v q.1 x vi.2.1 h6
            rw [fnd_cong v21] at evs
            refine RQ_v vX12_nameOf evs rfl k12_234 rfl rfl rfl rfl rfl ?_
            refine RQ_n ZR_ok 2 rfl trivial ?_
            exact fin _ (by rw [lM, if_pos z])
      refine RQ_n ZR_ok 1 rfl trivial ?_
      refine RQ_le (l' := [some (.ref 0), some (.int (nI r)), some (.int (nI 0)), none]) (zle_s (zle_s (zle_s (zle_n zle_0)))) ?_
      refine inner (N r) 0 (u.1, updA (updA u.2.1 18 (nI r).toNatClampNeg (fI (fnd q.2 (L r) q.1))) 19 (nI r).toNatClampNeg (u.2.1 6 (nI r).toNatClampNeg), u.2.2) (by omega) hi h21 h22 (fun j hj => ?_) ⟨?_, ?_, fun j hj => absurd hj (Nat.not_lt_zero _)⟩ ?_
      · obtain ⟨b1, b2, b3⟩ := hr j hj
        refine ⟨?_, ?_, b3⟩
        · show upd (u.2.1 18) (nI r).toNatClampNeg _ j = _
          rw [hrc, upd_ne (by omega)]; exact b1
        · show upd (u.2.1 19) (nI r).toNatClampNeg _ j = _
          rw [hrc, upd_ne (by omega)]; exact b2
      · show upd (u.2.1 18) (nI r).toNatClampNeg _ r = _
        rw [hrc, upd_at]
      · show upd (u.2.1 19) (nI r).toNatClampNeg (u.2.1 6 (nI r).toNatClampNeg) r = _
        rw [hrc, upd_at, (f5 u hf).2.1]; exact g6
      · exact (hf.tr (frM.a 18 (by decide))).tr (frM.a 19 (by decide))
  -- the second loop: signs
  have second : ∀ d i u, i + d = 26 → (u.1 15 = nI R ∧ u.1 16 = nI q.1 ∧ u.1 17 = nI (sgs w i).1 ∧ u.1 11 = w) → (∀ k, k < q.1 → u.2.1 21 k = q.2 k) → (∀ k, k < (sgs w i).1 → u.2.1 22 k = nI (97 + (sgs w i).2 k)) → frM [15, 16, 17] [21, 22] s u →
      RnQ ZR mX12_takeGrammar (75, [some (.ref 0), some (.int (nI i)), none, none], [], u) (tgQ s (R, L, N, T) w) := by
    intro d
    induction d with
    | zero =>
      intro i u hd hi h21 h22 hf
      have h26 : i = 26 := by omega
      subst h26
      refine RQ_n ZR_ok 2 rfl trivial ?_
      refine RQ_b rfl (fun _ => ?_) (fun z => absurd (Int32.le_refl _) z)
      refine RQ_n ZR_ok 2 rfl trivial ?_
      rw [← hS] at hi h22
      exact third R 0 u (by omega) ⟨hi.1, hi.2.1, hi.2.2.1⟩ h21 h22 (fun j hj => absurd hj (Nat.not_lt_zero _)) (hf.up (by decide) (by decide))
    | succ d ih =>
      intro i u hd hi h21 h22 hf
      refine RQ_n ZR_ok 2 rfl trivial ?_
      refine RQ_b rfl (fun z => absurd (show (26 : Int32) ≤ nI i from z) (nI_ge (b := 26) (by omega) (by omega))) (fun _ => ?_)
      refine RQ_n ZR_ok 3 rfl trivial ?_
      refine RQ_s vX12_has (e_has u (u.1 11) (nI i)) rfl k12_237 rfl rfl rfl rfl ?_
      rw [hi.2.2.2, hasB_bt w (by omega)]
      have turn : ∀ u', (u'.1 15 = nI R ∧ u'.1 16 = nI q.1 ∧ u'.1 17 = nI (sgs w (i + 1)).1 ∧ u'.1 11 = w) → (∀ k, k < q.1 → u'.2.1 21 k = q.2 k) → (∀ k, k < (sgs w (i + 1)).1 → u'.2.1 22 k = nI (97 + (sgs w (i + 1)).2 k)) → frM [15, 16, 17] [21, 22] s u' → RnQ ZR mX12_takeGrammar (115, [some (.ref 0), some (.int (nI i)), none, none], [], u') (tgQ s (R, L, N, T) w) := by
        intro u' a1 a2 a3 a4
        refine RQ_n ZR_ok 2 rfl trivial ?_
        have h0 := ih (i + 1) u' (by omega) a1 a2 a3 a4
        rw [nI_succ] at h0
        exact h0
      refine RQ_b rfl (fun z => ?_) (fun z => ?_)
      · have hb : ¬ bt w i = true := by rw [bI_0.mp z]; decide
        have e : sgs w (i + 1) = sgs w i := by rw [sgs, if_neg hb]
        exact turn u (by rw [e]; exact hi) h21 (by rw [e]; exact h22) hf
      · have hb : bt w i = true := bI_t z
        have e : sgs w (i + 1) = ((sgs w i).1 + 1, fun k => if k = (sgs w i).1 then i else (sgs w i).2 k) := by rw [sgs, if_pos hb]
        have hlt : (sgs w i).1 < 8 := by
          have := (sgs_at w hb (25 - i)).1
          rw [show i + 1 + (25 - i) = 26 by omega, ← hS] at this
          omega
        have h17 := hi.2.2.1
        have hcc : (nI (sgs w i).1).toNatClampNeg = (sgs w i).1 := nI_clamp (by omega)
        refine RQ_n ZR_ok 14 rfl ⟨by show vp_in (u.1 17) 8; rw [h17]; exact nI_in (by omega) (by omega), trivial⟩ ?_
        refine turn _ ⟨hi.1, hi.2.1, ?_, hi.2.2.2⟩ h21 (fun k hk => ?_) ((hf.tr (frM.a 22 (by decide))).tr (frM.i 17 (by decide)))
        · show u.1 17 + 1 = _
          rw [e, h17, nI_1]
        · rw [e] at hk ⊢
          have hk : k < (sgs w i).1 + 1 := hk
          show upd (u.2.1 22) (u.1 17).toNatClampNeg (97 + nI i) k = nI (97 + (if k = (sgs w i).1 then i else (sgs w i).2 k))
          rw [h17, hcc]
          by_cases y : k = (sgs w i).1
          · rw [y, upd_at, if_pos rfl, ← nI_add]; rfl
          · rw [upd_ne y, if_neg y]
            exact h22 k (by omega)
  -- the first loop: names
  have first : ∀ d r u, r + d = R → (u.1 15 = nI R ∧ u.1 16 = nI (nms L r).1 ∧ u.1 17 = 0 ∧ u.1 11 = w) → (∀ k, k < (nms L r).1 → u.2.1 21 k = (nms L r).2 k) → frM [15, 16, 17] [21] s u →
      RnQ ZR mX12_takeGrammar (20, [some (.ref 0), some (.int (nI r)), none, none], [], u) (tgQ s (R, L, N, T) w) := by
    intro d
    induction d with
    | zero =>
      intro r u hd hi h21 hf
      have hrR : r = R := by omega
      subst hrR
      refine RQ_n ZR_ok 3 rfl trivial ?_
      refine RQ_b rfl (fun _ => ?_) (fun z => absurd (by show u.1 15 ≤ nI r; rw [hi.1]; exact Int32.le_refl _) z)
      refine RQ_n ZR_ok 2 rfl trivial ?_
      rw [← hq] at hi h21
      exact second 26 0 u (by omega) hi h21 (fun k hk => absurd hk (Nat.not_lt_zero _)) (hf.up (by decide) (by decide))
    | succ d ih =>
      intro r u hd hi h21 hf
      have hrc : (nI r).toNatClampNeg = r := nI_clamp (by omega)
      have hin16 : vp_in (nI r) 16 := nI_in (by omega) (by omega)
      have hu5 : u.2.1 5 (nI r).toNatClampNeg = L r := by rw [hrc, hf.2.1 5 (by decide)]; exact (hA2 r (by omega)).1
      have hle : (nms L r).1 ≤ 6 := by
        have := nms_mono (L := L) r (d + 1)
        rw [show r + (d + 1) = R by omega, ← hq] at this
        omega
      refine RQ_n ZR_ok 3 rfl trivial ?_
      refine RQ_b rfl (fun z => absurd (show u.1 15 ≤ nI r from z) (by rw [hi.1]; exact nI_ge (by omega) (by omega))) (fun _ => ?_)
      refine RQ_n ZR_ok 5 rfl ⟨hin16, trivial⟩ ?_
      have evn := m_nameOf u (nms L r).1 (u.2.1 5 (nI r).toNatClampNeg) hi.2.1 hle
      rw [hu5, fnd_cong h21] at evn
      rw [← hu5] at evn
      refine RQ_v vX12_nameOf evn rfl k12_234 rfl rfl rfl rfl rfl ?_
      rw [hu5]
      refine RQ_n ZR_ok 1 rfl trivial ?_
      have turn : ∀ u', (u'.1 15 = nI R ∧ u'.1 16 = nI (nms L (r + 1)).1 ∧ u'.1 17 = 0 ∧ u'.1 11 = w) → (∀ k, k < (nms L (r + 1)).1 → u'.2.1 21 k = (nms L (r + 1)).2 k) → frM [15, 16, 17] [21] s u' → RnQ ZR mX12_takeGrammar (67, [some (.ref 0), some (.int (nI r)), none, none], [], u') (tgQ s (R, L, N, T) w) := by
        intro u' a1 a2 a3
        refine RQ_n ZR_ok 2 rfl trivial ?_
        have h0 := ih (r + 1) u' (by omega) a1 a2 a3
        rw [nI_succ] at h0
        exact h0
      refine RQ_b rfl (fun z => ?_) (fun z => ?_)
      · have z : ¬ fI (fnd (nms L r).2 (L r) (nms L r).1) = -1 := z
        cases hfn : fnd (nms L r).2 (L r) (nms L r).1 with
        | none => rw [hfn] at z; exact absurd rfl z
        | some k =>
          have e : nms L (r + 1) = nms L r := nmS_some hfn
          exact turn u (by rw [e]; exact hi) (by rw [e]; exact h21) hf
      · have z : fI (fnd (nms L r).2 (L r) (nms L r).1) = -1 := Classical.not_not.mp z
        have hfn : fnd (nms L r).2 (L r) (nms L r).1 = none := (fI_m1 (fun k hk => by have := fnd_lt hk; omega)).mp z
        have e : nms L (r + 1) = ((nms L r).1 + 1, fun k => if k = (nms L r).1 then L r else (nms L r).2 k) := nmS_none hfn
        have hlt : (nms L r).1 < 6 := by
          have := nms_mono (L := L) (r + 1) d
          rw [show r + 1 + d = R by omega, ← hq, e] at this
          have : (nms L r).1 + 1 ≤ q.1 := this
          omega
        have h16' := hi.2.1
        have hcc : (nI (nms L r).1).toNatClampNeg = (nms L r).1 := nI_clamp (by omega)
        refine RQ_n ZR_ok 15 rfl ⟨hin16, by show vp_in (u.1 16) 6; rw [h16']; exact nI_in (by omega) (by omega), trivial⟩ ?_
        refine turn _ ⟨hi.1, ?_, hi.2.2⟩ (fun k hk => ?_) ((hf.tr (frM.a 21 (by decide))).tr (frM.i 16 (by decide)))
        · show u.1 16 + 1 = _
          rw [e, h16', nI_1]
        · rw [e] at hk ⊢
          have hk : k < (nms L r).1 + 1 := hk
          show upd (u.2.1 21) (u.1 16).toNatClampNeg (u.2.1 5 (nI r).toNatClampNeg) k = (if k = (nms L r).1 then L r else (nms L r).2 k)
          rw [h16', hcc, hu5]
          by_cases y : k = (nms L r).1
          · rw [y, upd_at, if_pos rfl]
          · rw [upd_ne y, if_neg y]
            exact h21 k (by omega)
  refine RQ_n ZR_ok 12 rfl trivial ?_
  refine first R 0 _ (by omega) ⟨hA1, rfl, rfl, hw⟩ (fun k hk => absurd hk (Nat.not_lt_zero _)) ?_
  exact ((frM.i 15 (by decide)).tr (frM.i 16 (by decide))).tr (frM.i 17 (by decide))
