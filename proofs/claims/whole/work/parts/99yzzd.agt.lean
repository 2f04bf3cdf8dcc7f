/-! Class and reference alike: feed, end, fault, text. -/
/-- what the grammar's part of the invariant asks -/
def frJ (u v : SX) : Prop := (∀ j, v.1 3 j = u.1 3 j) ∧ (∀ j, v.1 23 j = u.1 23 j) ∧ ∀ a, a ∈ [7, 9, 10, 24] → v.2.1 a = u.2.1 a
def frVj (s w : SM) : Prop := (∀ k, k ∈ [15, 16, 17, 23, 24, 37, 75, 76, 77] → w.1 k = s.1 k) ∧ ∀ a, a ∈ [21, 22, 35, 36] → w.2.1 a = s.2.1 a
theorem frJ.of {ks : List (Nat × Nat)} {as : List Nat} {u v : SX} (f : frX ks as u v) (h1 : ∀ x ∈ ks, x.1 ∈ [1, 11]) (h2 : ∀ a ∈ as, a ∈ [2, 12, 13]) : frJ u v := ⟨fun j => f.1 3 j (fun y => absurd (show 3 ∈ [1, 11] from h1 _ y) (by decide)), fun j => f.1 23 j (fun y => absurd (show 23 ∈ [1, 11] from h1 _ y) (by decide)), fun a ha => f.2.1 a (fun y => by have := h2 _ y; simp only [List.mem_cons, List.not_mem_nil, or_false] at this ha; omega)⟩
theorem frVj.of {ks as : List Nat} {s w : SM} (f : frM ks as s w) (h1 : ∀ k ∈ ks, k < 15) (h2 : ∀ a ∈ as, a < 15) : frVj s w := ⟨fun k hk => f.1 k (fun y => by have := h1 _ y; simp only [List.mem_cons, List.not_mem_nil, or_false] at hk; omega), fun a ha => f.2.1 a (fun y => by have := h2 _ y; simp only [List.mem_cons, List.not_mem_nil, or_false] at ha; omega)⟩
theorem frVk.j {s w : SM} (f : frVk s w) : frVj s w := ⟨fun k hk => f.1 k (by simp only [List.mem_cons, List.not_mem_nil, or_false] at hk ⊢; omega), fun a ha => f.2 a (by simp only [List.mem_cons, List.not_mem_nil, or_false] at ha ⊢; omega)⟩
section AgT
variable {G : ZGT} {nb : Nat → Int32} {sl : Nat → Nat} {a : Nat} {ac : Nat → Nat} {ko kp : Nat → Int32} {u v : SX} {s w : SM} {n m : Nat} {f : Nat → Int32} {ln : Nat → Nat} {yy : Nat → Nat → Nat}
theorem IvG.fj (h : IvG G nb sl a ac ko kp u s) (hX : X3 G (zos G) v) (hR : RGr G (zos G) w) (hT : TrX G v) (fu : frJ u v) (fs : frVj s w) : IvG G nb sl a ac ko kp v w := by
  obtain ⟨-, ⟨h1, h2⟩, -, ⟨h3, h4⟩, ⟨h5, h6, h7⟩, h8⟩ := h
  refine ⟨⟨hX, hR⟩, ⟨?_, ?_⟩, hT, ⟨?_, ?_⟩, ⟨?_, ?_, ?_⟩, ?_⟩
  · unfold TXc at h1 ⊢
    rw [fu.2.2 7 (by decide), fu.2.2 9 (by decide), fu.2.2 10 (by decide)]; exact h1
  · unfold TMc at h2 ⊢
    rw [fs.2 21 (by decide), fs.2 22 (by decide)]; exact h2
  · rw [fu.1 3, fs.1 23 (by decide)]; exact h3
  · rw [fu.1 4, fs.1 24 (by decide)]; exact h4
  · unfold HsX at h5 ⊢
    rw [fu.2.1 0, fu.2.2 24 (by decide)]; exact h5
  · unfold HsM at h6 ⊢
    rw [fs.1 37 (by decide), fs.2 35 (by decide), fs.2 36 (by decide)]; exact h6
  · rw [fs.1 23 (by decide), fs.1 24 (by decide)]; exact h7
  · unfold ImC at h8 ⊢
    rw [fu.2.1 1, fu.2.1 2, fu.2.1 3, fs.1 75 (by decide), fs.1 76 (by decide), fs.1 77 (by decide)]; exact h8
theorem IvN.fj (h : IvN u s) (hB : XB v) (hW : WyX v) (fu : frJ u v) (fs : frVj s w) : IvN v w := by
  obtain ⟨h1, h2, h3, -, -⟩ := h
  refine ⟨?_, ?_, ?_, hB, hW⟩
  · rw [fu.1 0, fu.1 1, fu.1 2, fu.1 3]; exact h1
  · rw [fs.1 15 (by decide), fs.1 16 (by decide), fs.1 17 (by decide), fs.1 23 (by decide)]; exact h2
  · rw [fu.2.1 0, fu.2.1 1, fs.1 37 (by decide), fs.1 77 (by decide)]; exact h3
/-- tapes and sentences changed: the grammar's part goes on -/
theorem Iv_low {ks : List (Nat × Nat)} {as : List Nat} {km am : List Nat} (h : IvN u s ∨ ∃ G nb sl a ac ko kp, IvG G nb sl a ac ko kp u s) (fu : frX ks as u v) (h1 : ∀ x ∈ ks, x.1 ∈ [1, 11]) (h2 : ∀ a ∈ as, a ∈ [2, 12, 13]) (fs : frM km am s w) (h3 : ∀ k ∈ km, k < 15) (h4 : ∀ a ∈ am, a < 15) : IvN v w ∨ ∃ G nb sl a ac ko kp, IvG G nb sl a ac ko kp v w := by
  have e22 : v.2.2 = u.2.2 := fu.2.2
  rcases h with hN | ⟨G, nb, sl, a, ac, ko, kp, hG⟩
  · exact Or.inl (hN.fj (hN.2.2.2.1.fr fu (fun y => by have := h1 _ y; revert this; decide)) (hN.2.2.2.2.e e22) (frJ.of fu h1 h2) (frVj.of fs h3 h4))
  · refine Or.inr ⟨G, nb, sl, a, ac, ko, kp, hG.fj (hG.1.1.low fu (fun x hx => ?_) (fun x hx => ?_)) (hG.1.2.fr fs (fun k hk => Or.inl (h3 k hk)) (fun a ha => Or.inl (h4 a ha))) (hG.2.2.1.fr (fu.1 14 10 (fun y => by have := h1 _ y; revert this; decide)) (fu.2.1 20 (fun y => by have := h2 _ y; revert this; decide)) (fun j => by rw [e22])) (frJ.of fu h1 h2) (frVj.of fs h3 h4)⟩
    · have := h1 x hx
      simp only [List.mem_cons, List.not_mem_nil, or_false] at this ⊢; omega
    · have := h2 x hx
      simp only [List.mem_cons, List.not_mem_nil, or_false] at this ⊢; omega
theorem by_ne (x : Int32) : x &&& 255 ≠ -1 := by
  intro h
  have h1 : bt (x &&& 255) 31 = bt (-1) 31 := by rw [h]
  rw [b_and, show bt 255 31 = false by decide, Bool.and_false] at h1
  exact absurd h1 (by decide)
theorem apN_ne (g t : Nat → Int32) (n : Nat) (hg : ∀ k, g k ≠ -1) (ht : ∀ j, j < n → t j ≠ -1) : ∀ k j, j < (apN g t n k).2 → (apN g t n k).1 j ≠ -1
  | 0, j, hj => ht j hj
  | k + 1, j, hj => by
    have ih := apN_ne g t n hg ht k
    unfold apN at hj ⊢
    split at hj
    · rename_i e
      rw [if_pos e]; exact ih j hj
    · rename_i e
      rw [if_neg e]
      show upd (apN g t n k).1 (apN g t n k).2 (g k) j ≠ -1
      have hj : j < (apN g t n k).2 + 1 := hj
      by_cases c : j = (apN g t n k).2
      · rw [c, upd_at]; exact hg k
      · rw [upd_ne c]; exact ih j (by omega)
theorem i_feed (h : Iv0 u s) (x0 x1 x2 x3 x4 : Int32) : Ag mX11_feed mX12_feed [.int x0, .int x1, .int x2, .int x3, .int x4] u s Iv0 := by
  obtain ⟨⟨n, f, hP⟩, ⟨m, ln, yy, hS⟩, hG⟩ := id h
  obtain ⟨⟨a1, a2⟩, ⟨b1, b2⟩, c1, c2⟩ := hP
  have ex := x_feed u x0 x1 x2 x3 x4 n a1 c1
  have em := m_feed s x0 x1 x2 x3 x4 n b1 c1
  rw [a2] at ex
  rw [b2] at em
  by_cases hc : n + cnN (byN x0 x1 x2 x3 x4) 20 ≤ 240
  · rw [if_pos hc, if_pos hc] at ex em
    refine ⟨_, _, _, ex, em, ⟨n + cnN (byN x0 x1 x2 x3 x4) 20, (apN (byN x0 x1 x2 x3 x4) f n 20).1, ⟨?_, ?_⟩, ⟨?_, ?_⟩, hc, fun j hj => ?_⟩, ⟨m, ln, yy, ?_, ?_⟩, ?_⟩
    · show updI u.1 1 1 (nI (apN (byN x0 x1 x2 x3 x4) f n 20).2) 1 1 = _
      rw [updI_eq, updS_at, apN_n]
    · show setA u.2.1 2 (apN (byN x0 x1 x2 x3 x4) f n 20).1 2 = _
      rw [setA_at]
    · show updS s.1 2 (nI (apN (byN x0 x1 x2 x3 x4) f n 20).2) 2 = _
      rw [updS_at, apN_n]
    · show setA s.2.1 1 (apN (byN x0 x1 x2 x3 x4) f n 20).1 1 = _
      rw [setA_at]
    · exact apN_ne _ _ _ (fun k => by unfold byN byW; exact by_ne _) c2 20 j (by rw [apN_n]; exact hj)
    · exact hS.1
    · exact hS.2
    · refine Iv_low (ks := [(1, 1)]) (as := [2]) (km := [2]) (am := [1]) hG ⟨fun c b hb => ?_, fun a ha => setA_ne (fun y => ha (by rw [y]; decide)), rfl⟩ (by decide) (by decide) ⟨fun b hb => updS_ne (fun y => hb (by rw [y]; decide)), fun a ha => setA_ne (fun y => ha (by rw [y]; decide)), rfl⟩ (by decide) (by decide)
      exact (frX.i (s := u) (ks := [(1, 1)]) (as := []) 1 1 (by decide)).1 c b hb
  · rw [if_neg hc, if_neg hc] at ex em
    exact Ag_same ex em h
theorem i_end (h : Iv0 u s) (x0 : Int32) : Ag mX11_end mX12_end [.int x0] u s Iv0 := by
  obtain ⟨⟨n, f, hP⟩, ⟨m, ln, yy, hS⟩, hG⟩ := id h
  obtain ⟨⟨a1, a2⟩, ⟨b1, b2⟩, c1, c2⟩ := hP
  cases e : zix x0 (n + 1) with
  | none =>
    have hb : inB x0 0 (nI n) = false := by rw [zix_in1 (by omega), e]; rfl
    exact Ag_same (x_end_f u x0 (by rw [a1]; exact hb)) (m_end_f s x0 (by rw [b1]; exact hb)) h
  | some k =>
    obtain ⟨k1, k2⟩ := zix_s e
    have hb : inB x0 0 (nI n) = true := by rw [zix_in1 (by omega), e]; rfl
    refine ⟨_, _, _, x_end_t u x0 (by rw [a1]; exact hb), m_end_t s x0 (by rw [b1]; exact hb), ⟨k, f, ⟨?_, a2⟩, ⟨?_, b2⟩, by omega, fun j hj => c2 j (by omega)⟩, ⟨m, ln, yy, ?_, ?_⟩, ?_⟩
    · show updI u.1 1 1 x0 1 1 = _
      rw [updI_eq, updS_at, k2]
    · show updS s.1 2 x0 2 = _
      rw [updS_at, k2]
    · exact hS.1
    · exact hS.2
    · exact Iv_low (ks := [(1, 1)]) (as := []) (km := [2]) (am := []) hG (frX.i 1 1 (by decide)) (by decide) (by decide) (frM.i 2 (by decide)) (by decide) (by decide)
theorem i_fault (h : Iv0 u s) (x0 : Int32) : Ag mX11_fault mX12_fault [.int x0] u s Iv0 := by
  obtain ⟨⟨n, f, hP⟩, ⟨m, ln, yy, hS⟩, hG⟩ := id h
  obtain ⟨⟨a1, a2⟩, ⟨b1, b2⟩, c1, c2⟩ := hP
  obtain ⟨y, w, ⟨rfl, q1, q2⟩, em⟩ := m_faultG b1 b2 c1 c2 hS.2 x0
  refine ⟨_, u, w, x_faultG a1 a2 c1 x0, em, ⟨n, f, ⟨a1, a2⟩, ⟨?_, ?_⟩, c1, c2⟩, ⟨m, ln, yy, hS.1, q1⟩, ?_⟩
  · rw [q2.1 2 (by decide)]; exact b1
  · rw [q2.2.1 1 (by decide)]; exact b2
  · exact Iv_low (ks := []) (as := []) hG frX.rf (by decide) (by decide) q2 (by decide) (by decide)
theorem zwi_m {s : SM} {x : Int32} (h : GW G) (h15 : s.1 15 = nI (zgR G) ∧ s.1 16 = nI (zgN G) ∧ s.1 17 = nI (zgT G)) (h18 : ∀ r, r < zgR G → s.2.1 18 r = nI (zgl G r)) (h19 : ∀ r, r ≤ zgR G → s.2.1 19 r = nI (zgn G r) ∧ ∀ i, i < zgn G r → s.2.1 20 (5 * r + i) = nI (zlm (zgt G r i))) (hc : CMk (zgR G) x (s.1 23)) : ZGM (zwi G x) s := by
  refine ⟨h, h15, fun r hr => ⟨h18 r hr, ?_⟩, h19⟩
  have hR : zgR G ≤ 16 := h.1.2.1
  have hr : r < zgR G := hr
  show bt (s.1 23) r = !bt x r
  rw [(hc r (by omega)).1, decide_eq_true hr]
  cases bt (s.1 23) r <;> rfl
theorem RGr_nw {os : Nat → Option ZAS} (hG : ZGM G s) (h29 : s.1 29 = 0) (h30 : s.2.1 30 0 = 0 ∧ s.2.1 30 1 = 0 ∧ s.2.1 30 2 = 0) : RGr G os s := by
  refine ⟨hG, Or.inl h29, fun kd hk => Or.inl ?_⟩
  rcases lt3c hk with rfl | rfl | rfl
  · exact h30.1
  · exact h30.2.1
  · exact h30.2.2
theorem i_text (h : Iv0 u s) (x0 : Int32) : Ag mX11_text mX12_text [.int x0] u s Iv0 := by
  obtain ⟨⟨n, f, hP⟩, ⟨m, ln, yy, hS⟩, hG⟩ := id h
  obtain ⟨⟨a1, a2⟩, ⟨b1, b2⟩, c1, c2⟩ := hP
  by_cases hx : x0 = 0 ∧ gF f n 0 gq0 = none
  · obtain ⟨rfl, hF⟩ := hx
    have hB : XB u ∧ WyX u := by
      rcases hG with hN | ⟨G, nb, sl, a, ac, ko, kp, hG⟩
      · exact ⟨hN.2.2.2.1, hN.2.2.2.2⟩
      · exact ⟨hG.1.1.b, hG.2.2.1.1⟩
    refine Ag_of _ (y_textGr a1 a2 c1 hF) (m_textGr b1 b2 c1 c2 hF) (fun _ _ q => q.1) (fun _ _ q => q.1) (fun x v y w q1 q2 => ?_)
    obtain ⟨-, ⟨g1, g2⟩, ⟨e1, e2, e3, e4, e5, e6⟩, ⟨t1, t2⟩, fu⟩ := q1
    obtain ⟨-, ⟨k1, k2⟩, ⟨l1, l2, l3, l4, l5, l6⟩, l7, fs⟩ := q2
    obtain ⟨r, l, nm, hC⟩ := tape_ok hF
    obtain ⟨z1, z2, -⟩ := gC_b hC
    have hXB : XB v := hB.1.fr fu (by decide)
    refine ⟨⟨0, v.2.1 2, ⟨e1, rfl⟩, ⟨l1, ?_⟩, by omega, fun j hj => absurd hj (Nat.not_lt_zero _)⟩, ⟨m, ln, yy, ?_, ?_⟩, Or.inr ⟨zGD (pr f n 0 false gD0) (so f n 0 0), _, _, 0, fun _ => 0, fun _ => 0, fun _ => 0, ⟨X3_new hXB g1 t1 t2, RGr_nw k1 l6 l7⟩, ⟨g2, k2⟩, ⟨hB.2.e fu.2.2, Or.inl e2⟩, ⟨?_, by rw [e5, l3]⟩, ⟨⟨e3, by omega, fun i hi => absurd hi (Nat.not_lt_zero _)⟩, ⟨l4, by omega, fun i hi => absurd hi (Nat.not_lt_zero _)⟩, fun i hi => absurd hi (Nat.not_lt_zero _)⟩, Or.inl ⟨e4, l5⟩⟩⟩
    · rw [fs.2.1 1 (by decide), fu.2.1 2 (by decide), a2, b2]
    · have hSX := hS.1
      unfold SnX at hSX ⊢
      rw [fu.1 11 0 (by decide), fu.2.1 12 (by decide), fu.2.1 13 (by decide)]; exact hSX
    · have hSM := hS.2
      unfold SnM at hSM ⊢
      rw [fs.1 14 (by decide), fs.2.1 12 (by decide), fs.2.1 13 (by decide)]; exact hSM
    · intro i hi
      rw [e6, l2, b_0, allin _ z2 i hi]
      exact ⟨by rw [Bool.not_false, Bool.and_true]; rfl, fun _ => rfl⟩
  · refine Ag_of _ (y_textG a1 a2 c1 hS.1 x0 hx) (m_textG b1 b2 c1 c2 hS.2 x0 hx) (fun _ _ q => q.1) (fun _ _ q => q.1) (fun x v y w q1 q2 => ?_)
    obtain ⟨-, g1, g2, fu⟩ := q1
    obtain ⟨-, k1, k2, fs⟩ := q2
    refine ⟨⟨if ztx f n m x0 = true then 0 else n, f, ⟨?_, ?_⟩, ⟨?_, ?_⟩, ?_, ?_⟩, ⟨_, _, _, g1, k1⟩, Iv_low hG fu (by decide) (by decide) fs (by decide) (by decide)⟩
    · rw [g2]; split <;> rfl
    · rw [fu.2.1 2 (by decide)]; exact a2
    · rw [k2]; split <;> rfl
    · rw [fs.2.1 1 (by decide)]; exact b2
    · split <;> omega
    · intro j hj
      split at hj
      · omega
      · exact c2 j hj
end AgT
