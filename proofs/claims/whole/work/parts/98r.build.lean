/-! The class: build. -/
/-- the first state's kernel -/
def zk00 (G : ZGT) : Nat → Int32 := upd (fun _ => 0) (6 * zgR G) (b1 (zgT G))
/-- an automaton as its building begins -/
def zA0 (G : ZGT) : ZAS := (1, fun _ => zk00 G, fun _ _ => none, [0])
theorem b1_ne {n : Nat} (h : n ≤ 8) : b1 n ≠ 0 := by
  have key : ∀ k, k < 9 → b1 k ≠ 0 := by decide
  exact key n (by omega)
theorem zA0_I {G : ZGT} (hG : GW G) : ZAI G (zA0 G) := by
  refine ⟨⟨Nat.le_refl _, by show 1 ≤ 200; omega⟩, fun s hs => by rw [List.mem_singleton.mp hs]; exact Nat.one_pos, by simp [zA0], (fun s hs b t h => by cases h), fun s _ => ?_⟩
  have hR := hG.1.2.1
  refine ⟨fun r hr => ?_, fun i hi hh => ?_, 6 * zgR G, by omega, ?_⟩
  · show zk00 G (6 * r) = 0
    unfold zk00
    exact upd_ne (by omega)
  · show zk00 G i = 0
    unfold zk00
    exact upd_ne (by omega)
  show zk00 G (6 * zgR G) ≠ 0
  unfold zk00
  rw [upd_at]
  exact b1_ne hG.1.2.2.2.2
theorem zA0_CG {G : ZGT} {E : Int32} {F : Nat → Int32} : zCG G E F (zA0 G) := fun s hs b hb w hw => by cases hw
theorem zA0_QI {G : ZGT} {E : Int32} {F : Nat → Int32} : ZQI G E F (zA0 G) := fun s hs hq => absurd (List.mem_singleton.mpr (Nat.lt_one_iff.mp hs)) hq
theorem zA0_mu {G : ZGT} : muA (zA0 G) ≤ 653001 := by
  have := sct_le (fun _ => zk00 G) 1
  show (200 - 1) * 3265 + sct (fun _ => zk00 G) 1 + 1 ≤ 653001
  omega
/-- what build may change -/
def frD (u v : SX) : Prop := (∀ b j, b < 99 → (b, j) ∉ [(36, 3), (36, 4), (36, 5), (36, 10), (25, 3), (25, 4), (28, 0), (31, 0)] → v.1 b j = u.1 b j) ∧ (∀ b, b < 99 → b ∉ [26, 27, 38, 40, 29, 30, 32, 33, 39, 41, 42, 43, 44, 45] → v.2.1 b = u.2.1 b) ∧ v.2.2.1 = u.2.2.1 ∧ v.2.2.2.1 = u.2.2.2.1 ∧ (∀ a i, a ≠ 37 → v.2.2.2.2.2 a i = u.2.2.2.2.2 a i) ∧ ∀ a i c, a ≠ 37 → u.2.2.2.2.2 a i = some c → v.1 c 0 = u.1 c 0 ∧ v.2.1 (c + 1) = u.2.1 (c + 1) ∧ v.2.1 (c + 2) = u.2.1 (c + 2)
theorem frD.tr {u v w : SX} (h1 : frD u v) (h2 : frD v w) : frD u w := by
  refine ⟨fun b j hb hn => (h2.1 b j hb hn).trans (h1.1 b j hb hn), fun b hb hn => (h2.2.1 b hb hn).trans (h1.2.1 b hb hn), h2.2.2.1.trans h1.2.2.1, h2.2.2.2.1.trans h1.2.2.2.1, fun a i ha => (h2.2.2.2.2.1 a i ha).trans (h1.2.2.2.2.1 a i ha), fun a i c ha hc => ?_⟩
  obtain ⟨a1, a2, a3⟩ := h1.2.2.2.2.2 a i c ha hc
  obtain ⟨b1, b2, b3⟩ := h2.2.2.2.2.2 a i c ha (by rw [h1.2.2.2.2.1 a i ha]; exact hc)
  exact ⟨b1.trans a1, b2.trans a2, b3.trans a3⟩
theorem frB.d {u v : SX} (h : frB u v) : frD u v := by
  refine ⟨fun b j hb hn => h.1 b j hb (fun y => hn ?_), fun b hb hn => h.2.1 b hb (fun y => hn ?_), h.2.2⟩
  · simp only [List.mem_cons, List.not_mem_nil, or_false, Prod.mk.injEq] at y ⊢; omega
  · simp only [List.mem_cons, List.not_mem_nil, or_false] at y ⊢; omega
theorem frD.lo {h : Nat → Nat} {u v : SX} (hR : KRw h u) (hf : frX [(36, 3), (36, 4), (36, 5), (36, 10), (25, 3), (25, 4), (28, 0), (31, 0)] [26, 27, 38, 40, 29, 30, 32, 33, 39, 41, 42, 43, 44, 45] u v) : frD u v := by
  refine ⟨fun b j _ hn => hf.1 b j hn, fun b _ hn => hf.2.1 b hn, by rw [hf.2.2], by rw [hf.2.2], fun a i _ => by rw [hf.2.2], fun a i c _ hc => ?_⟩
  have hc99 : 99 ≤ c := (hR.lt hc).2.1
  refine ⟨hf.1 c 0 ?_, hf.2.1 (c + 1) ?_, hf.2.1 (c + 2) ?_⟩
  · simp only [List.mem_cons, List.not_mem_nil, or_false, Prod.mk.injEq]; omega
  · simp only [List.mem_cons, List.not_mem_nil, or_false]; omega
  · simp only [List.mem_cons, List.not_mem_nil, or_false]; omega
theorem XA.fg {P : YP} {A : ZAS} {u v : SX} {ks : List (Nat × Nat)} {as : List Nat} (hX : XA P A u) (hf : frX ks as u v) (h1 : ∀ x ∈ ks, x.1 < 99 ∧ x ∉ [(36, 5), (25, 3), (25, 4)]) (h2 : ∀ a ∈ as, a < 99 ∧ a ∉ [26, 27, 38, 40]) : XA P A v := by
  obtain ⟨m, K, go, q⟩ := A
  obtain ⟨g1, ⟨kc, hks⟩, g3, g4, hq, g6, h, g7, g8⟩ := hX
  dsimp only at g1 hks g3 g4 hq g8
  have n1 : ∀ c j, (99 ≤ c ∨ (c, j) ∈ [(36, 5), (25, 3), (25, 4)]) → (c, j) ∉ ks := fun c j hc y => by
    rcases hc with hc | hc
    · have := (h1 _ y).1; dsimp only at this; omega
    · exact (h1 _ y).2 hc
  have n2 : ∀ c, (99 ≤ c ∨ c ∈ [26, 27, 38, 40]) → c ∉ as := fun c hc y => by
    rcases hc with hc | hc
    · have := (h2 _ y).1; omega
    · exact (h2 _ y).2 hc
  refine ⟨(hf.1 36 5 (n1 _ _ (Or.inr (by decide)))).trans g1, ⟨kc, fun i hi => ?_, hks.2⟩, fun i hi => ?_, fun s hs b hb => ?_, ?_, g6.fr hf.2.2, h, g7.fr hf.2.2, g8⟩
  · obtain ⟨i1, i2, i3⟩ := hks.1 i hi
    have hc99 : 99 ≤ kc i := i2.1
    exact ⟨by rw [hf.2.2]; exact i1, by rw [hf.2.2]; exact i2, i3.fr (hf.1 _ _ (n1 _ _ (Or.inl hc99))) (hf.2.1 _ (n2 _ (Or.inl (by omega)))) (hf.2.1 _ (n2 _ (Or.inl (by omega))))⟩
  · obtain ⟨c, c1, c2⟩ := g3 i hi
    exact ⟨c, by rw [hf.2.1 38 (n2 _ (Or.inr (by decide)))]; exact c1, c2⟩
  · rw [hf.2.1 40 (n2 _ (Or.inr (by decide)))]; exact g4 s hs b hb
  · obtain ⟨hd, q1, q2, q3, q4, q5⟩ := hq
    exact ⟨hd, q1, (hf.1 25 3 (n1 _ _ (Or.inr (by decide)))).trans q2, (hf.1 25 4 (n1 _ _ (Or.inr (by decide)))).trans q3, by rw [hf.2.1 26 (n2 _ (Or.inr (by decide)))]; exact q4, by rw [hf.2.1 27 (n2 _ (Or.inr (by decide)))]; exact q5⟩
/-- what build leaves: the automaton with its numbers, or none -/
def bdR (P : YP) (G : ZGT) (E : Int32) (F : Nat → Int32) (kd : Nat) (v : SX) : Prop := (∃ j A, zitr G E F kd (zA0 G) j = some A ∧ A.2.2.2 = [] ∧ XA P A v ∧ ZAI G A ∧ v.1 36 4 = 1 ∧ zCG G E F A ∧ ZQI G E F A ∧ XOp G E F A v ∧ XNb A (14 * (zL A).length) v) ∨ ∃ j, zitr G E F kd (zA0 G) j = none ∧ v.1 36 4 = 0
set_option maxHeartbeats 1000000 in
theorem y_build {P : YP} {G : ZGT} {E : Int32} {F : Nat → Int32} {kd : Nat} {u : SX} (hG : ZGX G u) (hF : FE G E F u) (h5 : ∀ n, n < 6 → bsub (F n) 511) (hk : P.1 0 = nI kd) (hk3 : kd < 3) (hI : XI P u) :
    EvQ (ZY P) mX2_build [.ref 25, .ref 36] u (fun x v => x = none ∧ frD u v ∧ v.1 36 3 = 0 ∧ XI P v ∧ bdR P G E F kd v) := by
  have hGW : GW G := hG.1
  obtain ⟨hY, ⟨h, hR, hh⟩, hd, hd1, hd2⟩ := hI
  have hR16 := hGW.1.2.1
  refine EQ_V vX2_build rfl ?_
  refine RQ_n (ZY_ok P) 3 rfl trivial ?_
  refine RQ_n (ZY_ok P) 3 rfl ⟨Or.inr rfl, trivial⟩ ?_
  refine RQ_n (ZY_ok P) 3 rfl ⟨Or.inl rfl, trivial⟩ ?_
  obtain ⟨w1, hw1⟩ : ∃ w : SX, w = (updI (updI (updI u.1 36 5 0) 36 4 1) 36 3 0, u.2) := ⟨_, rfl⟩
  refine RQ_n (ZY_ok P) 3 rfl trivial ?_
  show RnQ (ZY P) mX2_build (20, _, _, ((updI (updI (updI u.1 36 5 0) 36 4 1) 36 3 0, u.2) : SX)) _
  rw [← hw1]
  have f1 : frX [(36, 3), (36, 4), (36, 5), (36, 10), (25, 3), (25, 4), (28, 0), (31, 0)] [26, 27, 38, 40, 29, 30, 32, 33, 39, 41, 42, 43, 44, 45] u w1 := by
    rw [hw1]
    exact ((frX.i 36 5 (by decide)).tr (frX.i (s := (updI u.1 36 5 0, u.2)) 36 4 (by decide))).tr (frX.i (s := (updI (updI u.1 36 5 0) 36 4 1, u.2)) 36 3 (by decide))
  have i35 : w1.1 36 5 = nI 0 := by rw [hw1]; rfl
  have i34 : w1.1 36 4 = 1 := by rw [hw1]; rfl
  have i33 : w1.1 36 3 = 0 := by rw [hw1]; rfl
  have i23 : w1.1 25 3 = nI hd := by rw [← hd2, hw1]; rfl
  have G1 : ZGX G w1 := by
    refine hG.fr (ks := [(36, 3), (36, 4), (36, 5)]) (as := []) ?_ rfl
    rw [hw1]
    exact ((frX.i 36 5 (by decide)).tr (frX.i (s := (updI u.1 36 5 0, u.2)) 36 4 (by decide))).tr (frX.i (s := (updI (updI u.1 36 5 0) 36 4 1, u.2)) 36 3 (by decide))
  refine RQ_s vJ7_fill_53178 (y_fill w1 27 200 0 (by omega) (by omega) (fun _ _ => rfl)) rfl k2_45 rfl rfl rfl rfl ?_
  obtain ⟨w2, hw2⟩ : ∃ w : SX, w = (w1.1, setA w1.2.1 27 (fil (w1.2.1 27) 0 200 0), w1.2.2) := ⟨_, rfl⟩
  rw [← hw2]
  have f2 : frX [] [27] w1 w2 := by rw [hw2]; exact frX.s 27 (by decide)
  have a27 : ∀ s, s < 200 → w2.2.1 27 s = 0 := fun s hs => by
    have : w2.2.1 27 = fil (w1.2.1 27) 0 200 0 := by rw [hw2]; show setA w1.2.1 27 (fil (w1.2.1 27) 0 200 0) 27 = _; rw [setA_at]
    rw [this, fil_in (by omega) hs]
  refine RQ_n (ZY_ok P) 7 rfl trivial ?_
  obtain ⟨w3, hw3⟩ : ∃ w : SX, w = (updI (updI w2.1 25 4 0) 31 0 0, w2.2) := ⟨_, rfl⟩
  show RnQ (ZY P) mX2_build (36, _, _, ((updI (updI w2.1 25 4 0) 31 0 0, w2.2) : SX)) _
  rw [← hw3]
  have f3 : frX [(25, 4), (31, 0)] [] w2 w3 := by
    rw [hw3]
    exact (frX.i 25 4 (by decide)).tr (frX.i (s := (updI w2.1 25 4 0, w2.2)) 31 0 (by decide))
  have i24 : w3.1 25 4 = nI 0 := by rw [hw3]; rfl
  have i31 : w3.1 31 0 = nI 0 := by rw [hw3]; rfl
  have G3 : ZGX G w3 := (G1.fr f2 rfl).fr f3 rfl
  have K3 : KX (fun _ => 0) 31 w3 := ⟨0, fun _ => 0, ⟨fun a b _ hb => by omega, fun b hb => by omega, fun i hi hn => absurd rfl hn⟩, by omega, i31, fun b hb => by omega⟩
  refine RQ_n (ZY_ok P) 9 rfl trivial ?_
  rw [G3.2.1.1]
  refine RQ_v vX5_endBit (y_endBit G3) rfl k2_62 rfl rfl rfl (zy3 _ rfl) rfl ?_
  rw [show nI (zgR G) * 6 = nI (6 * zgR G) from nI_mul6r _]
  refine RQ_V vX7_put (y_put K3 (fun m it hz => ?_) (show 6 * zgR G < 102 by omega) (fun j _ hn => absurd rfl hn) (b1_ne hGW.1.2.2.2.2)) rfl k2_66 rfl rfl rfl (zyk (Or.inr (Or.inl rfl)) rfl) (fun _ s1 q => by show 3 * s1.2.2.2.2.1 + 99 = 3 * w3.2.2.2.2.1 + 99; rw [q.2.2.2.2]) ?_
  · rcases Nat.eq_zero_or_pos m with y | y
    · omega
    · exact absurd rfl (hz.2.1 0 y).2
  rintro r4 w4 ⟨rfl, K4, f4⟩
  have K4 : KX (zk00 G) 31 w4 := K4
  have F4 : frX [(36, 3), (36, 4), (36, 5), (36, 10), (25, 3), (25, 4), (28, 0), (31, 0)] [26, 27, 38, 40, 29, 30, 32, 33, 39, 41, 42, 43, 44, 45] u w4 := ((f1.tr (f2.up (by decide) (by decide))).tr (f3.up (by decide) (by decide))).tr (f4.up (by decide) (by decide))
  have Y4 := hY.fr F4.2.2
  have R4 := hR.fr F4.2.2
  have G4 : ZGX G w4 := G3.fr f4 rfl
  have FE4 : FE G E F w4 := hF.fr F4 (by decide) (by decide) (by decide)
  have j35 : w4.1 36 5 = nI 0 := by rw [f4.1 36 5 (by decide), f3.1 36 5 (by decide), f2.1 36 5 (by decide)]; exact i35
  have j34 : w4.1 36 4 = 1 := by rw [f4.1 36 4 (by decide), f3.1 36 4 (by decide), f2.1 36 4 (by decide)]; exact i34
  have j33 : w4.1 36 3 = 0 := by rw [f4.1 36 3 (by decide), f3.1 36 3 (by decide), f2.1 36 3 (by decide)]; exact i33
  have j23 : w4.1 25 3 = nI hd := by rw [f4.1 25 3 (by decide), f3.1 25 3 (by decide), f2.1 25 3 (by decide)]; exact i23
  have j24 : w4.1 25 4 = nI 0 := (f4.1 25 4 (by decide)).trans i24
  have j27 : ∀ s, s < 200 → w4.2.1 27 s = 0 := fun s hs => by rw [f4.2.1 27 (by decide), f3.2.1 27 (by decide)]; exact a27 s hs
  have X4 : XA P (0, fun _ => zk00 G, fun _ _ => none, []) w4 := by
    refine ⟨j35, ⟨fun _ => 0, fun i hi => absurd hi (Nat.not_lt_zero _), fun i j hi => absurd hi (Nat.not_lt_zero _)⟩, fun i hi => absurd hi (Nat.not_lt_zero _), fun s hs => absurd hs (Nat.not_lt_zero _), ⟨hd, hd1, j23, j24, fun j hj => absurd hj (Nat.not_lt_zero _), fun s hs => ?_⟩, Y4, h, R4, Nat.zero_le _, hh⟩
    rw [j27 s hs, zcB_f (fun y => by cases y)]
    rfl
  refine RQ_n (ZY_ok P) 5 rfl trivial ?_
  refine RQ_VN vX1_add (y_addK Y4 R4 (by omega) (Nat.zero_le _) j35 K4 (core := none) (fun c hc => by cases hc)) rfl k2_70 rfl rfl rfl (zy36 _ rfl) ?_ ?_
  · show (((Nat.blt 25 (3 * w4.2.2.2.2.1 + 99)) && ((Nat.blt 36 (3 * w4.2.2.2.2.1 + 99)) && true)) && ((Nat.blt 25 (3 * w4.2.2.2.2.1 + 99)) && true)) = true
    rw [zblt (show 25 < 3 * w4.2.2.2.2.1 + 99 by omega), zblt (show 36 < 3 * w4.2.2.2.2.1 + 99 by omega)]; rfl
  rintro r5 w5 ⟨rfl, c1, ⟨c, c2, c3, c4, c5⟩, c6, ⟨h', c7, c8, c8b, -⟩, c9, c10⟩
  have X5 := XA_add X4 c1 c2 c3 c4 c5 c6 c7 ⟨c8, by omega⟩ c9 c10
  have D5 : frD w4 w5 := (frL.ad R4 c7 c2 c5).e.b.d
  refine RQ_V vX2_enqueue (y_enqueue X5.2.2.2.2.1 (by omega) List.nodup_nil (fun x hx => by cases hx)) rfl k2_74 rfl rfl rfl (zy25 _ rfl) (fun _ s1 q => by show 3 * s1.2.2.2.2.1 + 99 = 3 * w5.2.2.2.2.1 + 99; rw [q.2.2.2.2]) ?_
  rintro r6 w6 ⟨rfl, Q6, f6⟩
  have X6 := XA_queue X5 Q6 f6
  have D6 : frD w5 w6 := frD.lo c7 (f6.up (by decide) (by decide))
  have e6 : ((0 + 1, zKU (fun _ => zk00 G) 0 (zk00 G), (fun s b => if s = 0 then none else (none : Option Nat)), if zcB (0 ∈ ([] : List Nat)) = true then [] else [] ++ [0]) : ZAS) = zA0 G := by
    rw [zcB_f (fun y => by cases y), if_neg (by decide)]
    unfold zA0 zKU
    have q1 : (fun s : Nat => if s = 0 then zk00 G else zk00 G) = fun _ => zk00 G := funext fun s => by split <;> rfl
    have q2 : (fun (s b : Nat) => if s = 0 then none else (none : Option Nat)) = fun _ _ => none := funext fun s => funext fun b => by split <;> rfl
    rw [q1, q2]
    rfl
  have X6 : XA P (zA0 G) w6 := by rw [← e6]; exact X6
  have D46 := D5.tr D6
  have D : frD u w6 := (frD.lo hR F4).tr D46
  have ZG6 : ZGX G w6 := by
    unfold ZGX at G4 ⊢
    rw [D46.1 3 0 (by omega) (by decide), D46.1 3 1 (by omega) (by decide), D46.1 3 2 (by omega) (by decide), D46.1 3 3 (by omega) (by decide), D46.2.1 4 (by omega) (by decide), D46.2.1 5 (by omega) (by decide), D46.2.1 6 (by omega) (by decide)]
    exact G4
  have FE6 : FE G E F w6 := by
    unfold FE RSX at FE4 ⊢
    rw [D46.1 14 1 (by omega) (by decide), D46.2.1 15 (by omega) (by decide), D46.2.1 18 (by omega) (by decide)]
    exact FE4
  have k34 : w6.1 36 4 = 1 := by rw [f6.1 36 4 (by decide), c5.1 36 4 (by omega) (by omega)]; exact j34
  have k33 : w6.1 36 3 = 0 := by rw [f6.1 36 3 (by decide), c5.1 36 3 (by omega) (by omega)]; exact j33
  refine RQ_n (ZY_ok P) 2 rfl trivial ?_
  refine y_buildLoop (A0 := zA0 G) (u0 := w6) h5 hk hk3 (fun v x fv hl => ?_) 653001 (zA0 G) 0 w6 zA0_mu (by omega) rfl X6 ZG6 FE6 (zA0_I hGW) zA0_CG zA0_QI (fun s hs hq => absurd (List.mem_singleton.mpr (Nat.lt_one_iff.mp hs)) hq) k34 ⟨fun _ _ _ _ => rfl, fun _ _ _ => rfl, rfl, rfl, fun _ _ _ => rfl, fun _ _ _ _ _ => ⟨rfl, rfl, rfl⟩⟩
  have v33 : v.1 36 3 = 0 := (fv.1 36 3 (by omega) (by decide)).trans k33
  have Dv := D.tr fv.d
  rcases hl with ⟨j, A, l1, l2, l3, l4, l5, l6, l7, l8⟩ | ⟨j, l1, l2, l3⟩
  · refine RQ_n (ZY_ok P) 2 rfl trivial ?_
    rw [l5]
    refine RQ_b rfl (fun z => absurd (show (1 : Int32) = 0 from z) (by decide)) (fun _ => ?_)
    refine RQ_n (ZY_ok P) 1 rfl trivial ?_
    refine RQ_V vX1_number (y_number l4 l3.2.2.2.1) rfl k2_86 rfl rfl rfl (zy36 _ rfl) (fun _ s1 q => by show 3 * s1.2.2.2.2.1 + 99 = 3 * v.2.2.2.2.1 + 99; rw [q.2.2.2.2]) ?_
    rintro r7 w7 ⟨rfl, n1, n2⟩
    have X7 := l3.fg n2 (by decide) (by decide)
    obtain ⟨h7, R7, -⟩ := l3.2.2.2.2.2.2
    refine RQ_to (Rn_vret rfl rfl) ⟨rfl, Dv.tr (frD.lo R7 (n2.up (by decide) (by decide))), (n2.1 36 3 (by decide)).trans v33, X7.i, Or.inl ⟨j, A, l1, l2, X7, l4, (n2.1 36 4 (by decide)).trans l5, l6, l7, fun s hs hq => ?_, n1⟩⟩
    have := l8 s hs hq
    unfold yO at this ⊢
    rw [n2.2.1 39 (by decide)]
    exact this
  · refine RQ_n (ZY_ok P) 2 rfl trivial ?_
    rw [l2]
    refine RQ_b rfl (fun _ => ?_) (fun z => absurd rfl z)
    exact RQ_to (Rn_vret rfl rfl) ⟨rfl, Dv, v33, l3, Or.inr ⟨j, l1, l2⟩⟩
