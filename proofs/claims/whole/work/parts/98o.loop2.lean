/-! The class: build's loop, from its head to behind it. -/
theorem FE.bb {G : ZGT} {E : Int32} {F : Nat → Int32} {u v : SX} (h : FE G E F u) (hf : frB u v) : FE G E F v := by
  unfold FE RSX at h ⊢
  rw [hf.1 14 1 (by omega) (by decide), hf.2.1 15 (by omega) (by decide), hf.2.1 18 (by omega) (by decide)]
  exact h
/-- how the loop ends -/
def lpR (P : YP) (G : ZGT) (E : Int32) (F : Nat → Int32) (kd : Nat) (A0 : ZAS) (v : SX) : Prop := (∃ j A', zitr G E F kd A0 j = some A' ∧ A'.2.2.2 = [] ∧ XA P A' v ∧ ZAI G A' ∧ v.1 36 4 = 1 ∧ zCG G E F A' ∧ ZQI G E F A' ∧ XOp G E F A' v) ∨ ∃ j, zitr G E F kd A0 j = none ∧ v.1 36 4 = 0 ∧ XI P v
set_option maxHeartbeats 1000000 in
theorem y_buildLoop {P : YP} {G : ZGT} {E : Int32} {F : Nat → Int32} {kd : Nat} {A0 : ZAS} {u0 : SX} {Q : Option Value → SX → Prop} (h5 : ∀ n, n < 6 → bsub (F n) 511) (hk : P.1 0 = nI kd) (hk3 : kd < 3)
    (hQ : ∀ v x, frB u0 v → lpR P G E F kd A0 v → RnQ (ZY P) mX2_build (110, [some (.ref 25), some (.ref 36), some (.int x)], [], v) Q) :
    ∀ n A j u, muA A ≤ n → j + n < 1000000 → zitr G E F kd A0 j = some A → XA P A u → ZGX G u → FE G E F u → ZAI G A → zCG G E F A → ZQI G E F A → XOp G E F A u → u.1 36 4 = 1 → frB u0 u → RnQ (ZY P) mX2_build (75, [some (.ref 25), some (.ref 36), some (.int (nI j))], [], u) Q := by
  intro n
  induction n with
  | zero =>
    intro A j u hmu hj hz hX hG hF hA hCG hQI hOp hT hf
    obtain ⟨m, K, go, q⟩ := A
    have hq0 : q = [] := by
      cases q with
      | nil => rfl
      | cons a l =>
        have : muA (m, K, go, a :: l) = (200 - m) * 3265 + sct K m + (l.length + 1) := rfl
        omega
    subst hq0
    obtain ⟨hd, q1, q2, q3, -⟩ := hX.2.2.2.2.1
    have q3 : u.1 25 4 = 0 := q3
    refine RQ_n (ZY_ok P) 2 rfl trivial ?_
    rw [hT]
    refine RQ_b rfl (fun z => absurd (show (1 : Int32) = 0 from z) (by decide)) (fun _ => ?_)
    refine RQ_n (ZY_ok P) 2 rfl trivial ?_
    rw [q3]
    refine RQ_b rfl (fun _ => ?_) (fun z => absurd (show (0 : Int32) ≤ 0 by decide) z)
    exact hQ u _ hf (Or.inl ⟨j, _, hz, rfl, hX, hA, hT, hCG, hQI, hOp⟩)
  | succ n ih =>
    intro A j u hmu hj hz hX hG hF hA hCG hQI hOp hT hf
    obtain ⟨m, K, go, q⟩ := A
    cases q with
    | nil =>
      obtain ⟨hd, q1, q2, q3, -⟩ := hX.2.2.2.2.1
      have q3 : u.1 25 4 = 0 := q3
      refine RQ_n (ZY_ok P) 2 rfl trivial ?_
      rw [hT]
      refine RQ_b rfl (fun z => absurd (show (1 : Int32) = 0 from z) (by decide)) (fun _ => ?_)
      refine RQ_n (ZY_ok P) 2 rfl trivial ?_
      rw [q3]
      refine RQ_b rfl (fun _ => ?_) (fun z => absurd (show (0 : Int32) ≤ 0 by decide) z)
      exact hQ u _ hf (Or.inl ⟨j, _, hz, rfl, hX, hA, hT, hCG, hQI, hOp⟩)
    | cons s q =>
      have hs : s < m := hA.2.1 s (List.mem_cons_self ..)
      have hm2 : m ≤ 200 := hA.1.2
      have hA2 : ZAI G (m, K, go, q) := ⟨hA.1, fun x hx => hA.2.1 x (List.mem_cons_of_mem _ hx), (List.nodup_cons.mp hA.2.2.1).2, hA.2.2.2⟩
      have hQX : XQu (s :: q) u := hX.2.2.2.2.1
      obtain ⟨hd, q1, q2, q3, -⟩ := id hQX
      have hlen := nodup_len hA.2.2.1 (fun x hx => hA.2.1 x hx)
      have hlen : (s :: q).length ≤ m := hlen
      obtain ⟨h, h7, -⟩ := hX.2.2.2.2.2.2
      refine RQ_n (ZY_ok P) 2 rfl trivial ?_
      rw [hT]
      refine RQ_b rfl (fun z => absurd (show (1 : Int32) = 0 from z) (by decide)) (fun _ => ?_)
      refine RQ_n (ZY_ok P) 2 rfl trivial ?_
      rw [q3]
      refine RQ_b rfl (fun z => ?_) (fun _ => ?_)
      · have := (zq_le (a := (s :: q).length) (b := 0) rfl rfl (by omega) (by omega)).mp z
        rw [List.length_cons] at this
        omega
      refine RQ_n (ZY_ok P) 2 rfl trivial ?_
      refine RQ_b rfl (fun z => ?_) (fun _ => ?_)
      · have := (zq_le (a := 1000000) (b := j) rfl rfl (by omega) (by omega)).mp z
        omega
      refine RQ_n (ZY_ok P) 3 rfl trivial ?_
      refine RQ_V vX2_dequeue (y_dequeue hQX hA.2.2.1 (fun x hx => Nat.lt_of_lt_of_le (hA.2.1 x hx) hm2)) rfl k2_79 rfl rfl rfl (zy25 _ rfl) (fun _ s1 q => by show 3 * s1.2.2.2.2.1 + 99 = 3 * u.2.2.2.2.1 + 99; rw [q.2.2.2.2]) ?_
      rintro r1 v1 ⟨rfl, hQ1, f1⟩
      have X1 := XA_deq hX hQ1 f1
      have B1 := frB.lo h7 f1
      have T1 : v1.1 36 4 = 1 := (f1.1 36 4 (by decide)).trans hT
      refine RQ_VN vX2_expand (y_expand (hG.bb B1) (hF.bb B1) h5 hk hk3 hA2 X1 hs T1 (fun b hb w hw => hCG s hs b hb w hw)) rfl k2_82 rfl rfl rfl (zy25 _ rfl) ?_ ?_
      · show (((Nat.blt 25 (3 * v1.2.2.2.2.1 + 99)) && ((Nat.blt 36 (3 * v1.2.2.2.2.1 + 99)) && true)) && true) = true
        rw [zblt (show 25 < 3 * v1.2.2.2.2.1 + 99 by omega), zblt (show 36 < 3 * v1.2.2.2.2.1 + 99 by omega)]; rfl
      rintro r2 v2 ⟨rfl, f2, st2, o2, o3⟩
      have B2 := B1.tr f2.b
      have hz1 : zitr G E F kd A0 (j + 1) = zbys G kd s (zcl G E F (K s)) (m, K, go, q) 14 := by rw [zitr, hz]; rfl
      refine RQ_n (ZY_ok P) 2 rfl trivial ?_
      rw [show nI j + 1 = nI (j + 1) from nI_add j 1]
      cases hy : zbys G kd s (zcl G E F (K s)) (m, K, go, q) 14 with
      | some A2 =>
        have st2 : stepR P (zbys G kd s (zcl G E F (K s)) (m, K, go, q) 14) 1 v2 := st2
        rw [hy] at st2
        have hmu2 := zexp_mu hG.1 (E := E) (F := F) (kd := kd) hA (A' := A2) hy
        obtain ⟨g1, g2⟩ := zexp_CG hG.1 (kd := kd) hA hCG (A' := A2) hy
        exact ih A2 (j + 1) v2 (by omega) (by omega) (hz1.trans hy) st2.1 (hG.bb B2) (hF.bb B2) g1 g2 (zexp_QI hG.1 hA hQI hy) (XOp_ex hG.1 hOp hy o2 (fun j hj => by rw [o3 j hj, f1.2.1 39 (by decide)])) st2.2 (hf.tr B2)
      | none =>
        have st2 : stepR P (zbys G kd s (zcl G E F (K s)) (m, K, go, q) 14) 1 v2 := st2
        rw [hy] at st2
        have st2 : v2.1 36 4 = 0 ∧ XI P v2 := st2
        refine RQ_n (ZY_ok P) 2 rfl trivial ?_
        rw [st2.1]
        refine RQ_b rfl (fun _ => ?_) (fun z => absurd rfl z)
        exact hQ v2 _ (hf.tr B2) (Or.inr ⟨j + 1, hz1.trans hy, st2.1, st2.2⟩)
