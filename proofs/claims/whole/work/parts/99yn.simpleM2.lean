/-! isSimple, isClear: the reference. -/
def zal (q : Nat → Bool) : Nat → Bool
  | 0 => true
  | n + 1 => zal q n && q n
theorem zal_no {q : Nat → Bool} {i : Nat} (h : zal q i = false) : ∀ n, i ≤ n → zal q n = false
  | 0, hn => by rw [show i = 0 by omega] at h; exact h
  | n + 1, hn => by
    by_cases y : i = n + 1
    · rw [← y]; exact h
    · rw [zal, zal_no h n (by omega)]; rfl
/-- whether what follows settles all, in a state -/
noncomputable def zsk (G : ZGT) (N : ZNM) (k : Nat) : Bool := zal (fun t => decide (zwS G (zcl G (zE0 G) (zF0 G) (N.2.1 k)) (N.2.2 k) t < 2)) (zgT G + 1)
noncomputable def zsi (G : ZGT) (o : Option ZAS) : Bool := match o with
  | none => false
  | some A => zal (zsk G (zN A)) (zN A).1
section MSim2
variable {G : ZGT} {os : Nat → Option ZAS} {s : SM}
set_option maxHeartbeats 1000000 in
theorem m_isSimple (hZ : ∀ kd, kd < 3 → ZAt G kd (os kd)) (h : RGr G os s) : EvQ ZR mX12_isSimple [.ref 0] s (fun x v => x = some (.int (bI (zsi G (os 2)))) ∧ RGr G os v ∧ frR s v) := by
  refine EQ_V vX12_isSimple rfl ?_
  refine RQ_n ZR_ok 2 rfl trivial ?_
  refine RQ_V vX12_isThere (m_isThere (kd := 2) (by omega) hZ h) rfl k12_424 rfl rfl rfl rfl (fun _ _ _ => rfl) (fun r1 v h1 => ?_)
  obtain ⟨rfl, a1, a2, a3⟩ := h1
  have a3 := frR.th a3
  have hb := a1.1.b
  have hin : vp_in (2 : Int32) 3 := nI_in (c := 2) (by omega) (by omega)
  have hic : (2 : Int32).toNatClampNeg = 2 := nI_clamp (n := 2) (by omega)
  obtain ⟨y1, y2⟩ : SLM G v ∧ RKo G 2 (v.1 24) v (os 2) := by
    rcases a1.2.2 2 (by omega) with y | ⟨-, -, y1, y⟩
    · rw [a2] at y; exact absurd y (by decide)
    · exact ⟨y1, y⟩
  refine RQ_n ZR_ok 3 rfl trivial ?_
  have hZ2 := hZ 2 (by omega)
  cases ho : os 2 with
  | none =>
    rw [ho] at y2
    have y2 : v.2.1 44 2 = 0 := y2
    refine RQ_n ZR_ok 4 rfl trivial ?_
    refine RQ_n ZR_ok 1 rfl ⟨hin, trivial⟩ ?_
    rw [hic, y2]
    refine RQ_b rfl (fun _ => ?_) (fun z => absurd (show (0 : Int32) ≤ 0 by decide) z)
    refine RQ_n ZR_ok 1 rfl trivial ?_
    exact RQ_to (Rn_zret rfl rfl (Or.inl rfl)) ⟨rfl, a1, a3⟩
  | some A =>
  rw [ho] at y2 hZ2
  have y2 : RAu G (zE0 G) (zF0 G) 2 (v.1 24) (zN A) v := y2
  have hF := zN_F (ZAt_all a1.1.1 y1.c.2.1 hZ2) hZ2.2
  have hN := hF.1.2
  obtain ⟨N, hNe⟩ : ∃ N, N = zN A := ⟨_, rfl⟩
  rw [← hNe] at y2 hF hN
  have hv : zsi G (some A) = zal (zsk G N) N.1 := by rw [hNe]; rfl
  rw [hv]
  refine loopU N.1 (fun k (_ : Unit) => [some (.ref 0), some (.int (bI (zal (zsk G N) k))), some (.int (nI k)), none]) (fun k _ w => w = v) ?_ 0 () v (by omega) rfl
  intro k _ w hk hJ ih
  subst hJ
  have fin : zal (zsk G N) k = zal (zsk G N) N.1 → RnQ ZR mX12_isSimple (64, [some (.ref 0), some (.int (bI (zal (zsk G N) k))), some (.int (nI k)), none], [], w) (fun x v => x = some (.int (bI (zal (zsk G N) N.1))) ∧ RGr G os v ∧ frR s v) := by
    intro e
    refine RQ_n ZR_ok 1 rfl trivial ?_
    exact RQ_to (Rn_zret rfl rfl (bI_01 _)) ⟨by rw [e], a1, a3⟩
  refine RQ_n ZR_ok 4 rfl trivial ?_
  refine RQ_n ZR_ok 1 rfl ⟨hin, trivial⟩ ?_
  rw [hic, y2.1.1]
  refine RQ_b rfl (fun z => fin ?_) (fun z => ?_)
  · have z := (zq_le (a := N.1) (b := k) rfl rfl (by omega) (by omega)).mp z
    rw [show k = N.1 by omega]
  have z := (not_congr (zq_le (a := N.1) (b := k) rfl rfl (by omega) (by omega))).mp z
  refine RQ_n ZR_ok 1 rfl trivial ?_
  cases e : zal (zsk G N) k with
  | false =>
    rw [e] at fin
    exact RQ_b rfl (fun _ => fin (zal_no e N.1 (by omega)).symm) (fun q => absurd rfl q)
  | true =>
  refine RQ_b rfl (fun q => absurd (show (1 : Int32) = 0 from q) (by decide)) (fun _ => ?_)
  refine RQ_n ZR_ok 2 rfl trivial ?_
  obtain ⟨q, hq⟩ : ∃ q : Nat → Bool, q = fun t => decide (zwS G (zcl G (zE0 G) (zF0 G) (N.2.1 k)) (N.2.2 k) t < 2) := ⟨_, rfl⟩
  have hqk : zsk G N k = zal q (zgT G + 1) := by rw [hq]; rfl
  refine loopU (zgT G + 1) (fun t (_ : Unit) => [some (.ref 0), some (.int (bI (zal q t))), some (.int (nI k)), some (.int (nI t))]) (fun t _ u => u = w) ?_ 0 () w (by omega) rfl
  intro t _ u ht hJ ih2
  subst hJ
  refine RQ_n ZR_ok 3 rfl trivial ?_
  rw [a1.1.2.1.2.2]
  refine RQ_b rfl (fun x => ?_) (fun x => ?_)
  · have x := (zq_lt (a := zgT G) (b := t) rfl rfl (by omega) (by omega)).mp x
    refine RQ_n ZR_ok 2 rfl trivial ?_
    refine ih (by omega) () _ _ ⟨rfl, ?_, nIs k, trivial⟩ rfl
    rw [zal, e, hqk, show t = zgT G + 1 by omega]; rfl
  have x := (not_congr (zq_lt (a := zgT G) (b := t) rfl rfl (by omega) (by omega))).mp x
  have p51 : ∀ b : Bool, b = zal q (t + 1) → RnQ ZR mX12_isSimple (51, [some (.ref 0), some (.int (bI (zal q t))), some (.int (nI k)), some (.int (nI t))], [.int (bI b)], u) (fun x v => x = some (.int (bI (zal (zsk G N) N.1))) ∧ RGr G os v ∧ frR s v) := by
    intro b hbv
    refine RQ_n ZR_ok 3 rfl trivial ?_
    exact ih2 (by omega) () _ _ ⟨rfl, by rw [hbv], rfl, nIs t, trivial⟩ rfl
  refine RQ_n ZR_ok 1 rfl trivial ?_
  cases et : zal q t with
  | false =>
    rw [et] at p51
    refine RQ_b rfl (fun _ => ?_) (fun q => absurd rfl q)
    refine RQ_n ZR_ok 1 rfl trivial ?_
    exact p51 false (by rw [zal, et]; rfl)
  | true =>
    rw [et] at p51
    refine RQ_b rfl (fun q => absurd (show (1 : Int32) = 0 from q) (by decide)) (fun _ => ?_)
    refine RQ_n ZR_ok 3 rfl trivial ?_
    refine RQ_v vX12_waysSimply (m_waysSimply (p := u.1 24) a1.1 y1 hF y2 (show k < N.1 by omega) (show t ≤ zgT G by omega)) rfl k12_518 rfl rfl rfl rfl rfl ?_
    obtain ⟨c, hc⟩ : ∃ c, c = zwS G (zcl G (zE0 G) (zF0 G) (N.2.1 k)) (N.2.2 k) t := ⟨_, rfl⟩
    have hcl : c ≤ 18 := by
      rw [hc]
      unfold zwS
      have := zcnt_le1 (q := fun r => zSf G (zcl G (zE0 G) (zF0 G) (N.2.1 k)) r && bt (zlkf G true (zW0 G) (zcl G (zE0 G) (zF0 G) (N.2.1 k)) r) t) (zgR G + 1)
      split <;> omega
    have hqt : q t = decide (c < 2) := by rw [hq, hc]
    rw [← hc]
    refine RQ_n ZR_ok 1 rfl trivial ?_
    by_cases y : c < 2
    · refine RQ_b rfl (fun z => ?_) (fun _ => ?_)
      · have := (zq_le (a := 2) (b := c) rfl rfl (by omega) (by omega)).mp z
        omega
      refine RQ_n ZR_ok 2 rfl trivial ?_
      exact p51 true (by rw [zal, et, hqt, decide_eq_true y]; rfl)
    · refine RQ_b rfl (fun _ => ?_) (fun z => absurd ((zq_le (a := 2) (b := c) rfl rfl (by omega) (by omega)).mpr (by omega)) z)
      refine RQ_n ZR_ok 1 rfl trivial ?_
      exact p51 false (by rw [zal, et, hqt, decide_eq_false y]; rfl)
end MSim2
