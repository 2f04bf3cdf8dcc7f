/-! The class: the Builder's queue, findNext. -/
theorem zy25 {P : YP} {MX : MD} (s : SX) (h : MX.1 = 2) : zrc (ZY P) MX s 25 = true := zyr (ci := 2) rfl h (by omega)
/-- the Builder's queue -/
def XQu (q : List Nat) (v : SX) : Prop := ∃ hd, hd < 200 ∧ v.1 25 3 = nI hd ∧ v.1 25 4 = nI q.length ∧ (∀ j, j < q.length → v.2.1 26 ((hd + j) % 200) = nI (q.getD j 0)) ∧ ∀ s, s < 200 → v.2.1 27 s = bI (zcB (s ∈ q))
theorem y_enqueue {P : YP} {u : SX} {s : Nat} {q : List Nat} (h : XQu q u) (hs : s < 200) (hn : q.Nodup) (hq : ∀ x, x ∈ q → x < 200) : EvQ (ZY P) mX2_enqueue [.ref 25, .int (nI s)] u (fun x v => x = none ∧ XQu (if zcB (s ∈ q) = true then q else q ++ [s]) v ∧ frX [(25, 4)] [26, 27] u v) := by
  obtain ⟨hd, h0, h1, h2, h3, h4⟩ := h
  have hlen := nodup_len hn hq
  have hin : vp_in (nI s) 200 := nI_in (by omega) (by omega)
  have hsc : (nI s).toNatClampNeg = s := nI_clamp (by omega)
  refine EQ_V vX2_enqueue rfl ?_
  refine RQ_n (ZY_ok P) 4 rfl ⟨hin, trivial⟩ ?_
  rw [hsc, h4 s hs]
  refine RQ_b rfl (fun z => ?_) (fun z => ?_)
  · have z : zcB (s ∈ q) = true := bI_t z
    refine RQ_to (Rn_vret rfl rfl) ⟨rfl, ?_, frX.rf⟩
    rw [if_pos z]
    exact ⟨hd, h0, h1, h2, h3, h4⟩
  have z : zcB (s ∈ q) = false := bI_0.mp (Classical.not_not.mp z)
  have hsq : s ∉ q := fun y => by rw [zcB_t y] at z; cases z
  have hlt : q.length < 200 := by
    have hnd : (q ++ [s]).Nodup := by
      rw [List.nodup_append]
      exact ⟨hn, by simp, fun a ha c hc => by rw [List.mem_singleton.mp hc]; exact fun y => hsq (by rw [← y]; exact ha)⟩
    have := nodup_len (q := q ++ [s]) (m := 200) hnd (fun x hx => by
      rcases List.mem_append.mp hx with hx | hx
      · exact hq x hx
      · rw [List.mem_singleton.mp hx]; exact hs)
    rw [List.length_append, List.length_singleton] at this
    omega
  have e1 : u.1 25 3 + u.1 25 4 = nI (hd + q.length) := by rw [h1, h2, nI_add]
  have e2 : nI (hd + q.length) - nI (hd + q.length) / 200 * 200 = nI ((hd + q.length) % 200) := nI_rem (d := 200) (by omega) (by omega) (by omega)
  refine RQ_n (ZY_ok P) 12 rfl ⟨hin, trivial⟩ ?_
  rw [hsc]
  show RnQ (ZY P) mX2_enqueue (29, _, [.int (u.1 25 3 + u.1 25 4), .ref 26], _) _
  rw [e1]
  refine RQ_n (ZY_ok P) 2 rfl ⟨by decide, trivial⟩ ?_
  rw [e2]
  refine RQ_n (ZY_ok P) 8 rfl ⟨nI_in (by omega) (by omega), trivial⟩ ?_
  rw [nI_clamp (show (hd + q.length) % 200 < 2 ^ 31 by omega)]
  refine RQ_to (Rn_vret rfl rfl) ⟨rfl, ?_, ((frX.a 27 (by decide)).tr (frX.a 26 (by decide))).tr (frX.i 25 4 (by decide))⟩
  rw [z, if_neg (by decide)]
  refine ⟨hd, h0, h1, ?_, fun j hj => ?_, fun x hx => ?_⟩
  · show u.1 25 4 + 1 = _
    rw [h2, nI_1, List.length_append, List.length_singleton]
  · show upd (u.2.1 26) ((hd + q.length) % 200) (nI s) ((hd + j) % 200) = _
    rw [getD_app]
    rw [List.length_append, List.length_singleton] at hj
    by_cases y : j = q.length
    · subst y; rw [upd_at, if_neg (Nat.lt_irrefl _), if_pos rfl]
    · rw [upd_ne (by omega), if_pos (by omega)]
      exact h3 j (by omega)
  · show upd (u.2.1 27) s 1 x = _
    by_cases y : x = s
    · subst y
      rw [upd_at, zcB_t (List.mem_append.mpr (Or.inr (List.mem_singleton.mpr rfl)))]
      rfl
    · rw [upd_ne y, h4 x hx]
      congr 1
      by_cases w : x ∈ q
      · rw [zcB_t w, zcB_t (List.mem_append.mpr (Or.inl w))]
      · rw [zcB_f w, zcB_f (fun t => by
          rcases List.mem_append.mp t with t | t
          · exact w t
          · exact y (List.mem_singleton.mp t))]
theorem y_dequeue {P : YP} {u : SX} {s : Nat} {q : List Nat} (h : XQu (s :: q) u) (hn : (s :: q).Nodup) (hq : ∀ x, x ∈ s :: q → x < 200) : EvQ (ZY P) mX2_dequeue [.ref 25] u (fun x v => x = some (.int (nI s)) ∧ XQu q v ∧ frX [(25, 3), (25, 4)] [27] u v) := by
  obtain ⟨hd, h0, h1, h2, h3, h4⟩ := h
  have hlen := nodup_len hn hq
  rw [List.length_cons] at h2 hlen
  have hs := hq s List.mem_cons_self
  have hsc : (nI s).toNatClampNeg = s := nI_clamp (by omega)
  have e0 : u.2.1 26 (u.1 25 3).toNatClampNeg = nI s := by
    rw [h1, nI_clamp (by omega)]
    have := h3 0 (by rw [List.length_cons]; omega)
    rw [Nat.add_zero, Nat.mod_eq_of_lt h0] at this
    exact this
  have e1 : nI (hd + 1) - nI (hd + 1) / 200 * 200 = nI ((hd + 1) % 200) := nI_rem (d := 200) (by omega) (by omega) (by omega)
  refine EQ_V vX2_dequeue rfl ?_
  refine RQ_n (ZY_ok P) 5 rfl ⟨by rw [h1]; exact nI_in (by omega) (by omega), trivial⟩ ?_
  rw [e0]
  refine RQ_n (ZY_ok P) 6 rfl trivial ?_
  rw [h1, nI_1]
  refine RQ_n (ZY_ok P) 2 rfl ⟨by decide, trivial⟩ ?_
  rw [e1]
  refine RQ_n (ZY_ok P) 13 rfl ⟨nI_in (by omega) (by omega), trivial⟩ ?_
  rw [hsc]
  refine RQ_to (Rn_iret rfl rfl) ⟨rfl, ⟨(hd + 1) % 200, Nat.mod_lt _ (by omega), rfl, ?_, fun j hj => ?_, fun x hx => ?_⟩, ((frX.i 25 3 (by decide)).tr (frX.i 25 4 (by decide))).tr (frX.a 27 (by decide))⟩
  · show u.1 25 4 - 1 = _
    rw [h2, nI_m (by omega)]; rfl
  · show u.2.1 26 (((hd + 1) % 200 + j) % 200) = _
    have := h3 (j + 1) (by rw [List.length_cons]; omega)
    rw [show ((hd + 1) % 200 + j) % 200 = (hd + (j + 1)) % 200 by omega]
    exact this
  · show upd (u.2.1 27) s 0 x = _
    by_cases y : x = s
    · subst y
      have : x ∉ q := (List.nodup_cons.mp hn).1
      rw [upd_at, zcB_f this]
      rfl
    · rw [upd_ne y, h4 x hx]
      congr 1
      by_cases w : x ∈ q
      · rw [zcB_t w, zcB_t (List.mem_cons_of_mem _ w)]
      · rw [zcB_f w, zcB_f (fun t => by
          rcases List.mem_cons.mp t with t | t
          · exact y t
          · exact w t)]
/-- no more than eighty items before another one -/
theorem zen_80 {k : Nat → Int32} {m : Nat} {it : Nat → Nat} (h : zen k m it) {i : Nat} (h1 : ∀ a, a < m → it a % 6 ≠ 0 ∧ it a < i) (h2 : 5 * (i / 6) + (i % 6 - 1) ≤ 80) (h3 : i % 6 ≠ 0) : m < 81 := by
  have key : ∀ a, a < m → a ≤ 5 * (it a / 6) + (it a % 6 - 1) := by
    intro a
    induction a with
    | zero => intro _; omega
    | succ a ih =>
      intro ha
      have i1 := ih (by omega)
      have l := h.1 a (a + 1) (by omega) ha
      have x1 := (h1 a (by omega)).1
      have x2 := (h1 (a + 1) ha).1
      omega
  rcases Nat.lt_or_ge m 81 with z | z
  · exact z
  · exfalso
    have i1 := key 80 (by omega)
    obtain ⟨x1, x2⟩ := h1 80 (by omega)
    omega
theorem zNX_ne {G : ZGT} (hG : GW G) {C : Nat → Int32} {b i : Nat} (h : zNX G C b i ≠ 0) : i % 6 ≠ 0 ∧ 0 < i ∧ (i - 1) / 6 ≤ zgR G ∧ (i - 1) % 6 < zgn G ((i - 1) / 6) ∧ zgt G ((i - 1) / 6) ((i - 1) % 6) = b ∧ C (i - 1) ≠ 0 := by
  unfold zNX at h
  by_cases z : 0 < i ∧ (i - 1) / 6 ≤ zgR G ∧ (i - 1) % 6 < zgn G ((i - 1) / 6) ∧ zgt G ((i - 1) / 6) ((i - 1) % 6) = b
  · rw [if_pos z] at h
    have := hG.n z.2.1
    exact ⟨by omega, z.1, z.2.1, z.2.2.1, z.2.2.2, h⟩
  · rw [if_neg z] at h; exact absurd rfl h
theorem phi80 {G : ZGT} (hG : GW G) {r d : Nat} (hr : r ≤ zgR G) (hd : d < zgn G r) : 5 * ((6 * r + d + 1) / 6) + ((6 * r + d + 1) % 6 - 1) ≤ 80 ∧ (6 * r + d + 1) % 6 ≠ 0 ∧ 6 * r + d + 1 < 102 := by
  have hn := hG.n hr
  have hb := hG.1
  by_cases z : r = zgR G
  · subst z
    rw [hG.2.2.2.1] at hd
    omega
  · omega
