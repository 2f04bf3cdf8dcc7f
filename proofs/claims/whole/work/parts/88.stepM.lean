/-! The reference: the queue, new states, more looks; a state is gone through. -/
/-- the queue of the reference -/
def RQu (m : Nat) (q : List Nat) (v : SM) : Prop := v.1 48 = nI q.length ∧ (∀ j, j < q.length → v.2.1 46 j = nI (q.getD j 0)) ∧ ∀ s, s < m → v.2.1 47 s = bI (zcB (s ∈ q))
/-- the automaton of the reference -/
def RMa (kd : Nat) (A : ZAS) (v : SM) : Prop := v.2.1 44 kd = nI A.1 ∧ (∀ s, s < A.1 → ∀ i, i < 102 → mK kd v s i = A.2.1 s i) ∧ (∀ s, s < A.1 → ∀ b, b < 14 → v.2.1 40 (14 * (200 * kd + s) + b) = fI (A.2.2.1 s b)) ∧ RQu A.1 A.2.2.2 v
theorem nodup_len {q : List Nat} {m : Nat} (h1 : q.Nodup) (h2 : ∀ s, s ∈ q → s < m) : q.length ≤ m := by
  have h3 : q ⊆ List.range m := fun s hs => List.mem_range.mpr (h2 s hs)
  have := List.Nodup.length_le_of_subset h1 h3
  rw [List.length_range] at this
  exact this
theorem bI_zcB_0 {p : Prop} : bI (zcB p) = 0 ↔ ¬ p := by
  rw [bI_0]
  exact ⟨fun h z => (by rw [zcB_t z] at h; cases h), fun h => zcB_f h⟩
theorem vnb (x : Bool) : vp_nar FieldType.boolean (bI x) = bI x := by cases x <;> decide
theorem getD_app {q : List Nat} {s j : Nat} : (q ++ [s]).getD j 0 = if j < q.length then q.getD j 0 else if j = q.length then s else 0 := by
  rw [List.getD_eq_getElem?_getD, List.getElem?_append]
  by_cases z : j < q.length
  · rw [if_pos z, if_pos z, List.getD_eq_getElem?_getD]
  · rw [if_neg z, if_neg z]
    by_cases y : j = q.length
    · subst y; rw [if_pos rfl, Nat.sub_self]; rfl
    · rw [if_neg y]
      obtain ⟨d, hd⟩ : ∃ d, j - q.length = d + 1 := ⟨j - q.length - 1, by omega⟩
      rw [hd]
      rfl
/-- a state comes to the queue, if it is not there -/
theorem m_enqueue {u : SM} {m s : Nat} {q : List Nat} (h : RQu m q u) (hs : s < m) (hm : m ≤ 200) (hn : q.Nodup) (hq : ∀ x, x ∈ q → x < m) : EvQ ZR mX12_enqueue [.ref 0, .int (nI s)] u (fun x v => x = none ∧ RQu m (if zcB (s ∈ q) = true then q else q ++ [s]) v ∧ frM [48] [46, 47] u v) := by
  obtain ⟨h1, h2, h3⟩ := h
  have hlen := nodup_len hn hq
  have hin : vp_in (nI s) 200 := nI_in (by omega) (by omega)
  have hsc : (nI s).toNatClampNeg = s := nI_clamp (by omega)
  refine EQ_V vX12_enqueue rfl ?_
  refine RQ_n ZR_ok 4 rfl ⟨hin, trivial⟩ ?_
  rw [hsc, h3 s hs]
  refine RQ_b rfl (fun z => ?_) (fun z => ?_)
  · have z : zcB (s ∈ q) = true := bI_t z
    refine RQ_to (Rn_vret rfl rfl) ⟨rfl, ?_, frM.rf⟩
    rw [if_pos z]
    exact ⟨h1, h2, h3⟩
  have z : zcB (s ∈ q) = false := bI_0.mp (Classical.not_not.mp z)
  have hsq : s ∉ q := fun y => by rw [zcB_t y] at z; cases z
  have hlt : q.length < 200 := by
    have hnd : (q ++ [s]).Nodup := by
      rw [List.nodup_append]
      exact ⟨hn, by simp, fun a ha c hc => by rw [List.mem_singleton.mp hc]; exact fun y => hsq (by rw [← y]; exact ha)⟩
    have := nodup_len (q := q ++ [s]) (m := m) hnd (fun x hx => by
      rcases List.mem_append.mp hx with hx | hx
      · exact hq x hx
      · rw [List.mem_singleton.mp hx]; exact hs)
    rw [List.length_append, List.length_singleton] at this
    omega
  have hlc : (nI q.length).toNatClampNeg = q.length := nI_clamp (by omega)
  refine RQ_n ZR_ok 17 rfl ⟨hin, by show vp_in (u.1 48) 200; rw [h1]; exact nI_in (by omega) (by omega), trivial⟩ ?_
  refine RQ_to (Rn_vret rfl rfl) ⟨rfl, ?_, ((frM.a 47 (by decide)).tr (frM.a 46 (by decide))).tr (frM.i 48 (by decide))⟩
  rw [z, if_neg (by decide)]
  refine ⟨?_, fun j hj => ?_, fun x hx => ?_⟩
  · show u.1 48 + 1 = _
    rw [h1, nI_1, List.length_append, List.length_singleton]
  · show upd (u.2.1 46) (u.1 48).toNatClampNeg (nI s) j = _
    rw [h1, hlc, getD_app]
    by_cases y : j = q.length
    · subst y; rw [upd_at, if_neg (Nat.lt_irrefl _), if_pos rfl]
    · rw [List.length_append, List.length_singleton] at hj
      rw [upd_ne y, if_pos (by omega)]
      exact h2 j (by omega)
  · show upd (u.2.1 47) (nI s).toNatClampNeg (vp_nar FieldType.boolean 1) x = _
    rw [hsc]
    by_cases y : x = s
    · subst y
      rw [upd_at, zcB_t (List.mem_append.mpr (Or.inr (List.mem_singleton.mpr rfl)))]
      decide
    · rw [upd_ne y, h3 x hx]
      congr 1
      by_cases w : x ∈ q
      · rw [zcB_t w, zcB_t (List.mem_append.mpr (Or.inl w))]
      · rw [zcB_f w, zcB_f (fun t => by
          rcases List.mem_append.mp t with t | t
          · exact w t
          · exact y (List.mem_singleton.mp t))]
theorem m_dequeue {u : SM} {m s : Nat} {q : List Nat} (h : RQu m (s :: q) u) (hm : m ≤ 200) (hn : (s :: q).Nodup) (hq : ∀ x, x ∈ s :: q → x < m) : EvQ ZR mX12_dequeue [.ref 0] u (fun x v => x = some (.int (nI s)) ∧ RQu m q v ∧ frM [48] [46, 47] u v) := by
  obtain ⟨h1, h2, h3⟩ := h
  have hlen := nodup_len hn hq
  rw [List.length_cons] at h1 hlen
  have hs := hq s List.mem_cons_self
  have e0 : u.2.1 46 0 = nI s := h2 0 (by rw [List.length_cons]; omega)
  refine EQ_V vX12_dequeue rfl ?_
  refine RQ_n ZR_ok 7 rfl ⟨nI_in (c := 0) (by omega) (by omega), trivial⟩ ?_
  show RnQ ZR mX12_dequeue (9, [some (.ref 0), some (.int (u.2.1 46 0)), some (.int 1)], [], u) _
  rw [e0]
  have key := loopU (Z := ZR) (M := mX12_dequeue) (pc := 9) (Q := fun x v => x = some (.int (nI s)) ∧ RQu m q v ∧ frM [48] [46, 47] u v) q.length (fun k (_ : Unit) => [some (.ref 0), some (.int (nI s)), some (.int (nI (k + 1)))]) (fun k _ v => frM [] [46] u v ∧ (∀ j, j < k → v.2.1 46 j = nI (q.getD j 0)) ∧ ∀ j, k ≤ j → v.2.1 46 j = u.2.1 46 j) ?_ 0 () u (by omega) ⟨frM.rf, fun j hj => (by omega), fun _ _ => rfl⟩
  · exact key
  intro k _ v hk hJ ih
  obtain ⟨g1, g2, g3⟩ := hJ
  have e48 : v.1 48 = nI (q.length + 1) := by rw [g1.1 48 (by decide)]; exact h1
  refine RQ_n ZR_ok 3 rfl trivial ?_
  refine RQ_b rfl (fun z => ?_) (fun z => ?_)
  · have z := (zq_le e48 rfl (by omega) (by omega)).mp z
    have : k = q.length := by omega
    subst this
    have hsc : (nI s).toNatClampNeg = s := nI_clamp (by omega)
    refine RQ_n ZR_ok 12 rfl ⟨nI_in (by omega) (by omega), trivial⟩ ?_
    refine RQ_to (Rn_iret rfl rfl) ⟨rfl, ⟨?_, g2, fun x hx => ?_⟩, ((g1.up (by decide) (by decide)).tr (frM.i 48 (by decide))).tr (frM.a 47 (by decide))⟩
    · show v.1 48 - 1 = _
      rw [e48, nI_m (by omega)]; rfl
    · show upd (v.2.1 47) (nI s).toNatClampNeg (vp_nar FieldType.boolean 0) x = _
      rw [hsc]
      by_cases y : x = s
      · subst y
        have : x ∉ q := (List.nodup_cons.mp hn).1
        rw [upd_at, zcB_f this]
        decide
      · rw [upd_ne y, g1.2.1 47 (by decide), h3 x hx]
        congr 1
        by_cases w : x ∈ q
        · rw [zcB_t w, zcB_t (List.mem_cons_of_mem _ w)]
        · rw [zcB_f w, zcB_f (fun t => by
            rcases List.mem_cons.mp t with t | t
            · exact y t
            · exact w t)]
  have z := (not_congr (zq_le e48 rfl (by omega) (by omega))).mp z
  have ek : nI (k + 1) - 1 = nI k := by rw [nI_m (by omega)]; rfl
  have hkc : (nI (k + 1)).toNatClampNeg = k + 1 := nI_clamp (by omega)
  have hkc0 : (nI k).toNatClampNeg = k := nI_clamp (by omega)
  have hval : v.2.1 46 (k + 1) = nI (q.getD k 0) := by
    rw [g3 (k + 1) (by omega)]
    exact h2 (k + 1) (by rw [List.length_cons]; omega)
  refine RQ_n ZR_ok 5 rfl trivial ?_
  rw [ek]
  refine RQ_n ZR_ok 7 rfl ⟨nI_in (by omega) (by omega), nI_in (by omega) (by omega), trivial⟩ ?_
  rw [hkc, hkc0, hval]
  refine ih (by omega) () _ _ ⟨rfl, rfl, nIs (k + 1), trivial⟩ ⟨g1.tr (frM.a 46 (by decide)), fun j hj => ?_, fun j hj => ?_⟩
  · show upd (v.2.1 46) k (nI (q.getD k 0)) j = _
    by_cases y : j = k
    · subst y; rw [upd_at]
    · rw [upd_ne y]; exact g2 j (by omega)
  · show upd (v.2.1 46) k (nI (q.getD k 0)) j = _
    rw [upd_ne (by omega)]; exact g3 j (by omega)
