/-! The reference: layAutomaton, isThere. -/
def lyR (G : ZGT) (E : Int32) (F : Nat → Int32) (kd : Nat) (p : Int32) (v : SM) : Prop := (∃ j A, zitr G E F kd (zA0 G) j = some A ∧ A.2.2.2 = [] ∧ ZAI G A ∧ zCG G E F A ∧ ZQI G E F A ∧ RAu G E F kd p (zN A) v) ∨ ∃ j, zitr G E F kd (zA0 G) j = none ∧ v.2.1 44 kd = 0
theorem zN_gl {G : ZGT} {A : ZAS} (hI : ZAI G A) {k b t : Nat} (hk : k < (zN A).1) (hb : b < 14) (h : (zN A).2.2 k b = some t) : t < (zN A).1 := by
  obtain ⟨-, h2, -, -, -, h6, h7⟩ := zN_ok hI
  have hm : ∀ e d, zc0 A e ≤ zc0 A (e + d) := fun e d => znl_le (by omega)
  have h1 := hm (14 * k + b + 1) (14 * (zN A).1 - (14 * k + b + 1))
  rw [show 14 * k + b + 1 + (14 * (zN A).1 - (14 * k + b + 1)) = 14 * (zN A).1 by omega, h6] at h1
  rcases h7 k b hk hb with ⟨a1, -⟩ | ⟨t', a1, a2⟩
  · rw [h] at a1; cases a1
  · rw [h] at a1
    have a1 := Option.some.inj a1
    omega
theorem zN_g2 {G : ZGT} {A : ZAS} (hI : ZAI G A) {k b t : Nat} (hk : k < (zN A).1) (hb : b < 14) (h : (zN A).2.2 k b = some t) : t < 200 := Nat.lt_of_lt_of_le (zN_gl hI hk hb h) (zN_ok hI).2.1
theorem RMa.fr {kd : Nat} {A : ZAS} {u v : SM} {ks as : List Nat} (h : RMa kd A u) (f : frM ks as u v) (h0 : 48 ∉ ks) (h1 : ∀ a ∈ [38, 40, 44, 46, 47], a ∉ as) : RMa kd A v := by
  refine ⟨by rw [f.2.1 44 (h1 _ (by decide))]; exact h.1, fun s hs i hi => ?_, fun s hs b hb => by rw [f.2.1 40 (h1 _ (by decide))]; exact h.2.2.1 s hs b hb, ?_⟩
  · show v.2.1 38 _ = _
    rw [f.2.1 38 (h1 _ (by decide))]; exact h.2.1 s hs i hi
  · exact ⟨by rw [f.1 48 h0]; exact h.2.2.2.1, fun j hj => by rw [f.2.1 46 (h1 _ (by decide))]; exact h.2.2.2.2.1 j hj, fun x hx => by rw [f.2.1 47 (h1 _ (by decide))]; exact h.2.2.2.2.2 x hx⟩
set_option maxHeartbeats 2000000 in
theorem m_layAutomaton {G : ZGT} {s : SM} {kd : Nat} (h : ZGM G s) (hk : kd < 3) (h01 : s.1 29 = 0 ∨ (s.1 29 = 1 ∧ SLM G s)) :
    EvQ ZR mX12_layAutomaton [.ref 0, .int (nI kd)] s (fun x v => x = none ∧ SLM G v ∧ v.1 29 = 1 ∧ lyR G (v.1 25) (v.2.1 26) kd (s.1 24) v ∧ frM [25, 29, 48] [26, 27, 28, 38, 39, 40, 41, 42, 43, 44, 45, 46, 47, 49, 50, 51, 52] s v ∧ oKa kd s v) := by
  have hb := h.b
  refine EQ_V vX12_layAutomaton rfl ?_
  refine RQ_n ZR_ok 1 rfl trivial ?_
  refine RQ_V vX12_laySets (m_laySets h h01) rfl k12_313 rfl rfl rfl rfl (fun _ _ _ => rfl) (fun r1 v1 h1 => ?_)
  obtain ⟨rfl, s1, s2, s3⟩ := h1
  obtain ⟨E, hE⟩ : ∃ E, E = v1.1 25 := ⟨_, rfl⟩
  obtain ⟨F, hF⟩ : ∃ F, F = v1.2.1 26 := ⟨_, rfl⟩
  obtain ⟨p, hp⟩ : ∃ p, p = s.1 24 := ⟨_, rfl⟩
  rw [← hp]
  have hp1 : v1.1 24 = p := (s3.1 24 (by decide)).trans hp.symm
  -- how all ends, by what holds behind v1
  have fin : ∀ v : SM, lyR G E F kd p v → frM [48] [38, 39, 40, 41, 42, 43, 44, 45, 46, 47, 49, 50, 51, 52] v1 v → oKa kd v1 v → (none : Option Value) = none ∧ SLM G v ∧ v.1 29 = 1 ∧ lyR G (v.1 25) (v.2.1 26) kd p v ∧ frM [25, 29, 48] [26, 27, 28, 38, 39, 40, 41, 42, 43, 44, 45, 46, 47, 49, 50, 51, 52] s v ∧ oKa kd s v := by
    intro v hl hf ho
    refine ⟨rfl, ?_, (hf.1 29 (by decide)).trans s2, ?_, (s3.up (by decide) (by decide)).tr (hf.up (by decide) (by decide)), ((oKd.fr s3 (by decide) (by decide) (by decide) (by decide)).a (s3.2.1 41 (by decide)) (s3.2.1 42 (by decide)) (s3.2.1 43 (by decide))).tr ho⟩
    · unfold SLM SRM at s1 ⊢
      rw [hf.1 25 (by decide), hf.2.1 26 (by decide), hf.2.1 27 (by decide), hf.2.1 28 (by decide)]
      exact s1
    · rw [hf.1 25 (by decide), hf.2.1 26 (by decide), ← hE, ← hF]
      exact hl
  have hv1 : ZGM G v1 := h.fr s3 rfl
  refine RQ_n ZR_ok 4 rfl trivial ?_
  refine RQ_n ZR_ok 1 rfl ⟨nI_in (by omega) (by omega), trivial⟩ ?_
  rw [nI_clamp (show kd < 2 ^ 31 by omega)]
  refine RQ_n ZR_ok 5 rfl trivial ?_
  obtain ⟨v2, hv2⟩ : ∃ w1 : SM, w1 = (updS v1.1 48 0, updA v1.2.1 44 kd 0, v1.2.2) := ⟨_, rfl⟩
  show RnQ ZR mX12_layAutomaton (18, _, _, ((updS v1.1 48 0, updA v1.2.1 44 kd 0, v1.2.2) : SM)) _
  rw [← hv2]
  have f2 : frM [48] [44] v1 v2 := by
    rw [hv2]
    exact (frM.a 44 (by decide)).tr (frM.i (s := (v1.1, updA v1.2.1 44 kd 0, v1.2.2)) 48 (by decide))
  have h44 : v2.2.1 44 = upd (v1.2.1 44) kd 0 := by rw [hv2]; rfl
  have h48 : v2.1 48 = 0 := by rw [hv2]; rfl
  have o2 : oKa kd v1 v2 := oKd.a ⟨fun j _ => ⟨by rw [f2.2.1 38 (by decide)], by rw [f2.2.1 39 (by decide)]⟩, fun j _ => by rw [f2.2.1 40 (by decide)], fun j hj => by rw [h44, upd_ne hj]⟩ (f2.2.1 41 (by decide)) (f2.2.1 42 (by decide)) (f2.2.1 43 (by decide))
  refine loopU 102 (fun i (_ : Unit) => [some (.ref 0), some (.int (nI kd)), some (.int (nI i)), none, none]) (fun i _ w => (∀ j, j < i → w.2.1 45 j = zk00 G j) ∧ frM [] [45] v2 w) ?_ 0 () v2 (by omega) ⟨fun j hj => by omega, frM.rf⟩
  intro i _ w hi hJ ih
  obtain ⟨g1, g2⟩ := hJ
  have hw : ZGM G w := (hv1.fr f2 rfl).fr g2 rfl
  refine RQ_n ZR_ok 2 rfl trivial ?_
  refine RQ_b rfl (fun z => ?_) (fun z => ?_)
  rotate_left
  · have z := (not_congr (zq_le (a := 102) (b := i) rfl rfl (by omega) (by omega))).mp z
    have p51 : ∀ (x : Int32), x = zk00 G i → RnQ ZR mX12_layAutomaton (51, [some (.ref 0), some (.int (nI kd)), some (.int (nI i)), none, none], [.int x, .int (nI i), .ref 29], w) (fun x v => x = none ∧ SLM G v ∧ v.1 29 = 1 ∧ lyR G (v.1 25) (v.2.1 26) kd p v ∧ frM [25, 29, 48] [26, 27, 28, 38, 39, 40, 41, 42, 43, 44, 45, 46, 47, 49, 50, 51, 52] s v ∧ oKa kd s v) := by
      intro x hx
      refine RQ_n ZR_ok 1 rfl ⟨nI_in (by omega) (by omega), trivial⟩ ?_
      rw [nI_clamp (show i < 2 ^ 31 by omega)]
      obtain ⟨v3, hv3⟩ : ∃ w1 : SM, w1 = (w.1, updA w.2.1 45 i x, w.2.2) := ⟨_, rfl⟩
      rw [← hv3]
      have f3 : frM [] [45] w v3 := by rw [hv3]; exact frM.a 45 (by decide)
      have h45 : v3.2.1 45 = upd (w.2.1 45) i x := by rw [hv3]; rfl
      refine RQ_n ZR_ok 2 rfl trivial ?_
      refine ih (by omega) () _ _ ⟨rfl, rfl, nIs i, trivial⟩ ⟨fun j hj => ?_, g2.tr f3⟩
      rw [h45]
      by_cases y : j = i
      · rw [y, upd_at, hx]
      · rw [upd_ne y]; exact g1 j (by omega)
    refine RQ_n ZR_ok 7 rfl trivial ?_
    rw [hw.2.1.1]
    refine RQ_s vX12_itemAt (e_itemAt w (zgR G) 0) rfl k12_358 rfl rfl rfl rfl ?_
    refine RQ_b rfl (fun y => ?_) (fun y => ?_)
    · have y := (not_congr (zq_eq (a := i) (b := 6 * zgR G + 0) rfl rfl (by omega) (by omega))).mp y
      refine RQ_n ZR_ok 1 rfl trivial ?_
      refine p51 0 ?_
      unfold zk00
      rw [upd_ne (by omega)]
    · have y := (zq_eq (a := i) (b := 6 * zgR G + 0) rfl rfl (by omega) (by omega)).mp (Classical.not_not.mp y)
      refine RQ_n ZR_ok 5 rfl trivial ?_
      rw [hw.2.1.2.2]
      refine p51 _ ?_
      unfold zk00
      rw [show i = 6 * zgR G by omega, upd_at]
      rfl
  have z := (zq_le (a := 102) (b := i) rfl rfl (by omega) (by omega)).mp z
  have : i = 102 := by omega
  subst this
  clear ih
  refine RQ_n ZR_ok 2 rfl trivial ?_
  have A0 : RMa kd ((0, fun _ => zk00 G, fun _ _ => none, []) : ZAS) w := by
    refine ⟨by rw [g2.2.1 44 (by decide), h44, upd_at]; rfl, fun s hs => absurd hs (Nat.not_lt_zero _), fun s hs => absurd hs (Nat.not_lt_zero _), ⟨by rw [g2.1 48 (by decide), h48]; rfl, fun j hj => absurd hj (Nat.not_lt_zero _), fun s hs => absurd hs (Nat.not_lt_zero _)⟩⟩
  refine RQ_V vX12_newState (m_newState hk A0 (by show 0 < 200; omega) (fun x hx => by cases hx) List.nodup_nil) rfl k12_392 rfl rfl rfl rfl (fun _ _ _ => rfl) (fun r1 w1 h1 => ?_)
  obtain ⟨rfl, c1, c2, c3⟩ := h1
  have A1 : RMa kd (zA0 G) w1 := by
    refine c1.cg (fun s hs i hi => ?_) (fun s hs b hb => ?_) rfl
    · show (if s = 0 then w.2.1 45 else zk00 G) i = zk00 G i
      split
      · exact g1 i hi
      · rfl
    · show (if s = 0 then none else none) = none
      split <;> rfl
  have F1 : frM [48] [38, 39, 40, 41, 42, 43, 44, 45, 46, 47, 49, 50, 51, 52] v1 w1 := ((f2.up (by decide) (by decide)).tr (g2.up (by decide) (by decide))).tr (c2.up (by decide) (by decide))
  have O1 : oKa kd v1 w1 := (o2.tr ((oKd.fr g2 (by decide) (by decide) (by decide) (by decide)).a (g2.2.1 41 (by decide)) (g2.2.1 42 (by decide)) (g2.2.1 43 (by decide)))).tr (c3.a (c2.2.1 41 (by decide)) (c2.2.1 42 (by decide)) (c2.2.1 43 (by decide)))
  refine RQ_n ZR_ok 3 rfl trivial ?_
  -- no room
  have p90 : ∀ (v : SM) (j : Nat), zitr G E F kd (zA0 G) j = none → frM [48] [38, 39, 40, 41, 42, 43, 44, 45, 46, 47, 49, 50, 51, 52] v1 v → oKa kd v1 v → RnQ ZR mX12_layAutomaton (90, [some (.ref 0), some (.int (nI kd)), some (.int 0), none, none], [], v) (fun x v => x = none ∧ SLM G v ∧ v.1 29 = 1 ∧ lyR G (v.1 25) (v.2.1 26) kd p v ∧ frM [25, 29, 48] [26, 27, 28, 38, 39, 40, 41, 42, 43, 44, 45, 46, 47, 49, 50, 51, 52] s v ∧ oKa kd s v) := by
    intro v j hj hf ho
    refine RQ_n ZR_ok 1 rfl trivial ?_
    refine RQ_b rfl (fun z => absurd rfl z) (fun _ => ?_)
    refine RQ_n ZR_ok 4 rfl trivial ?_
    refine RQ_n ZR_ok 1 rfl ⟨nI_in (by omega) (by omega), trivial⟩ ?_
    rw [nI_clamp (show kd < 2 ^ 31 by omega)]
    obtain ⟨v3, hv3⟩ : ∃ w1 : SM, w1 = (v.1, updA v.2.1 44 kd 0, v.2.2) := ⟨_, rfl⟩
    rw [← hv3]
    have f3 : frM [] [44] v v3 := by rw [hv3]; exact frM.a 44 (by decide)
    have h44 : v3.2.1 44 = upd (v.2.1 44) kd 0 := by rw [hv3]; rfl
    refine RQ_to (Rn_vret rfl rfl) (fin v3 (Or.inr ⟨j, hj, by rw [h44, upd_at]⟩) (hf.tr (f3.up (by decide) (by decide))) (ho.tr (oKd.a ⟨fun j _ => ⟨by rw [f3.2.1 38 (by decide)], by rw [f3.2.1 39 (by decide)]⟩, fun j _ => by rw [f3.2.1 40 (by decide)], fun j hj => by rw [h44, upd_ne hj]⟩ (f3.2.1 41 (by decide)) (f3.2.1 42 (by decide)) (f3.2.1 43 (by decide)))))
  -- the queue is empty
  have pend : ∀ m K go j v, zitr G E F kd (zA0 G) j = some (m, K, go, []) → RMa kd (m, K, go, []) v → ZAI G (m, K, go, []) → zCG G E F (m, K, go, []) → ZQI G E F (m, K, go, []) → frM [48] [38, 39, 40, 41, 42, 43, 44, 45, 46, 47, 49, 50, 51, 52] v1 v → oKa kd v1 v → RnQ ZR mX12_layAutomaton (66, [some (.ref 0), some (.int (nI kd)), some (.int 1), none, none], [], v) (fun x v => x = none ∧ SLM G v ∧ v.1 29 = 1 ∧ lyR G (v.1 25) (v.2.1 26) kd p v ∧ frM [25, 29, 48] [26, 27, 28, 38, 39, 40, 41, 42, 43, 44, 45, 46, 47, 49, 50, 51, 52] s v ∧ oKa kd s v) := by
    intro m K go j v hz hA hI hCG hQI hf ho
    have hv : ZGM G v := hv1.fr hf rfl
    have h48 : v.1 48 = 0 := hA.2.2.2.1
    refine RQ_n ZR_ok 2 rfl trivial ?_
    rw [h48]
    refine RQ_b rfl (fun _ => ?_) (fun z => absurd (show (0 : Int32) ≤ 0 by decide) z)
    refine RQ_n ZR_ok 1 rfl trivial ?_
    refine RQ_b rfl (fun _ => ?_) (fun z => absurd (Classical.not_not.mp z) (show ¬ (1 : Int32) = 0 by decide))
    refine RQ_n ZR_ok 2 rfl trivial ?_
    refine RQ_V vX12_numberAnew (m_numberAnew hk hA hI) rfl k12_414 rfl rfl rfl rfl (fun _ _ _ => rfl) (fun r1 v3 h3 => ?_)
    obtain ⟨rfl, n1, n2, n3⟩ := h3
    have hF3 : frM [48] [38, 39, 40, 41, 42, 43, 44, 45, 46, 47, 49, 50, 51, 52] v1 v3 := hf.tr (n2.up (by decide) (by decide))
    have hO3 : oKa kd v1 v3 := ho.tr (n3.a (n2.2.1 41 (by decide)) (n2.2.1 42 (by decide)) (n2.2.1 43 (by decide)))
    have hp3 : v3.1 24 = p := (hF3.1 24 (by decide)).trans hp1
    have k := m_layAuto2 (x2 := some (.int 1)) (x3 := none) (x4 := none) (E := E) (F := F) (hv1.fr hF3 rfl) hk (zN_ok hI).2.1 (fun k b t hk' hb' hg => zN_g2 hI hk' hb' hg) (hE.trans (hF3.1 25 (by decide)).symm) (hF.trans (hF3.2.1 26 (by decide)).symm) n1
    rw [hp3] at k
    refine RQ_mono k (fun x v4 hq => ?_)
    obtain ⟨rfl, q1, q2, q3⟩ := hq
    exact fin v4 (Or.inl ⟨j, _, hz, rfl, hI, hCG, hQI, q1⟩) (hF3.tr (q2.up (by decide) (by decide))) (hO3.tr q3)
  have key : ∀ n A j v, muA A ≤ n → zitr G E F kd (zA0 G) j = some A → RMa kd A v → ZAI G A → zCG G E F A → ZQI G E F A → frM [48] [38, 39, 40, 41, 42, 43, 44, 45, 46, 47, 49, 50, 51, 52] v1 v → oKa kd v1 v → RnQ ZR mX12_layAutomaton (66, [some (.ref 0), some (.int (nI kd)), some (.int 1), none, none], [], v) (fun x v => x = none ∧ SLM G v ∧ v.1 29 = 1 ∧ lyR G (v.1 25) (v.2.1 26) kd p v ∧ frM [25, 29, 48] [26, 27, 28, 38, 39, 40, 41, 42, 43, 44, 45, 46, 47, 49, 50, 51, 52] s v ∧ oKa kd s v) := by
    intro n
    induction n with
    | zero =>
      intro A j v hmu hz hA hI hCG hQI hf ho
      obtain ⟨m, K, go, q⟩ := A
      cases q with
      | nil => exact pend m K go j v hz hA hI hCG hQI hf ho
      | cons a l =>
        have : muA (m, K, go, a :: l) = (200 - m) * 3265 + sct K m + (l.length + 1) := rfl
        omega
    | succ n ih =>
      intro A j v hmu hz hA hI hCG hQI hf ho
      obtain ⟨m, K, go, q⟩ := A
      cases q with
      | nil => exact pend m K go j v hz hA hI hCG hQI hf ho
      | cons a q =>
        have hm2 : m ≤ 200 := hI.1.2
        have ha : a < m := hI.2.1 a (List.mem_cons_self ..)
        have hA2 : ZAI G (m, K, go, q) := ⟨hI.1, fun x hx => hI.2.1 x (List.mem_cons_of_mem _ hx), (List.nodup_cons.mp hI.2.2.1).2, hI.2.2.2⟩
        have hlen : (a :: q).length ≤ m := nodup_len hI.2.2.1 (fun x hx => hI.2.1 x hx)
        have hv : ZGM G v := hv1.fr hf rfl
        refine RQ_n ZR_ok 2 rfl trivial ?_
        rw [hA.2.2.2.1]
        refine RQ_b rfl (fun z => ?_) (fun _ => ?_)
        · have := (zq_le (a := (a :: q).length) (b := 0) rfl rfl (by omega) (by omega)).mp z
          rw [List.length_cons] at this
          omega
        refine RQ_n ZR_ok 1 rfl trivial ?_
        refine RQ_b rfl (fun z => absurd (show (1 : Int32) = 0 from z) (by decide)) (fun _ => ?_)
        refine RQ_n ZR_ok 3 rfl trivial ?_
        refine RQ_V vX12_dequeue (m_dequeue hA.2.2.2 hm2 hI.2.2.1 hI.2.1) rfl k12_408 rfl rfl rfl rfl (fun _ _ _ => rfl) (fun r1 v3 h3 => ?_)
        obtain ⟨rfl, d1, d2⟩ := h3
        have F3 : frM [48] [38, 39, 40, 41, 42, 43, 44, 45, 46, 47, 49, 50, 51, 52] v1 v3 := hf.tr (d2.up (by decide) (by decide))
        have O3 : oKa kd v1 v3 := ho.tr ((oKd.fr d2 (by decide) (by decide) (by decide) (by decide)).a (d2.2.1 41 (by decide)) (d2.2.1 42 (by decide)) (d2.2.1 43 (by decide)))
        have A3 : RMa kd (m, K, go, q) v3 := by
          refine ⟨by rw [d2.2.1 44 (by decide)]; exact hA.1, fun s hs i hi => ?_, fun s hs b hb => by rw [d2.2.1 40 (by decide)]; exact hA.2.2.1 s hs b hb, d1⟩
          show v3.2.1 38 _ = _
          rw [d2.2.1 38 (by decide)]; exact hA.2.1 s hs i hi
        have hv3 : ZGM G v3 := hv1.fr F3 rfl
        have hgt := m_goThrough hv3 hk A3 hA2 ha
        rw [F3.1 25 (by decide), ← hE, F3.2.1 26 (by decide), ← hF] at hgt
        refine RQ_V vX12_goThrough hgt rfl k12_411 rfl rfl rfl rfl (fun _ _ _ => rfl) (fun r1 v4 h4 => ?_)
        obtain ⟨e1, e2, e3⟩ := h4
        have F4 : frM [48] [38, 39, 40, 41, 42, 43, 44, 45, 46, 47, 49, 50, 51, 52] v1 v4 := F3.tr (e1.up (by decide) (by decide))
        have O4 : oKa kd v1 v4 := O3.tr (e2.a (e1.2.1 41 (by decide)) (e1.2.1 42 (by decide)) (e1.2.1 43 (by decide)))
        have hz1 : zitr G E F kd (zA0 G) (j + 1) = zbys G kd a (zcl G E F (K a)) (m, K, go, q) 14 := by rw [zitr, hz]; rfl
        have e3 : match zbys G kd a (zcl G E F (K a)) (m, K, go, q) 14 with | none => r1 = some (.int 0) | some A => r1 = some (.int 1) ∧ RMa kd A v4 := e3
        cases hy : zbys G kd a (zcl G E F (K a)) (m, K, go, q) 14 with
        | some A2 =>
          rw [hy] at e3
          obtain ⟨rfl, e4⟩ := e3
          have hmu2 := zexp_mu h.1 (E := E) (F := F) (kd := kd) hI (A' := A2) hy
          obtain ⟨g1, g2⟩ := zexp_CG h.1 (kd := kd) hI hCG (A' := A2) hy
          refine RQ_n ZR_ok 2 rfl trivial ?_
          exact ih A2 (j + 1) v4 (by omega) (hz1.trans hy) e4 g1 g2 (zexp_QI h.1 hI hQI hy) F4 O4
        | none =>
          rw [hy] at e3
          have e3 : r1 = some (.int 0) := e3
          subst e3
          refine RQ_n ZR_ok 2 rfl trivial ?_
          refine RQ_n ZR_ok 2 rfl trivial ?_
          refine RQ_b rfl (fun _ => ?_) (fun _ => ?_)
          · exact p90 v4 (j + 1) (hz1.trans hy) F4 O4
          · refine RQ_n ZR_ok 1 rfl trivial ?_
            refine RQ_b rfl (fun _ => ?_) (fun z => absurd rfl z)
            exact p90 v4 (j + 1) (hz1.trans hy) F4 O4
  exact key 653001 (zA0 G) 0 w1 zA0_mu rfl A1 (zA0_I h.1) zA0_CG zA0_QI F1 O1
