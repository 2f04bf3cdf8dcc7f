/-! The reference's grammar; its sets. -/
section ZMin
variable {S : Type} {Z : ZW S} {M : MD} {pc nx tg : Nat} {v : Int32} {l : List (Option Value)} {st : List Value} {s : S} {Q : Option Value → S → Prop}
theorem RQ_min {idx : Nat} {x y : Int32} (hfe : zfe M pc = some (.invokestatic idx, 3, nx, tg, v)) (hlk : Cond.methodLink M.2.1.cls idx Lib.Math.min.name ∈ zT ∧ Cond.static Lib.Math.min.name ∈ zT ∧ Cond.initialized "java/lang/Math" ∈ zT ∧ Cond.code Lib.Math.min.name Lib.Math.min.code 2 (some .int) ∈ zT) (hcr : zcm M 13 st = true)
    (k : RnQ Z M (nx, l, .int (if y < x then y else x) :: st, s) Q) : RnQ Z M (pc, l, .int y :: .int x :: st, s) Q := by
  obtain ⟨r, s', hq, hr⟩ := k
  exact ⟨r, s', hq, Rn_min hfe hlk hcr hr⟩
theorem RQ_max {idx : Nat} {x y : Int32} (hfe : zfe M pc = some (.invokestatic idx, 3, nx, tg, v)) (hlk : Cond.methodLink M.2.1.cls idx Lib.Math.max.name ∈ zT ∧ Cond.static Lib.Math.max.name ∈ zT ∧ Cond.initialized "java/lang/Math" ∈ zT ∧ Cond.code Lib.Math.max.name Lib.Math.max.code 2 (some .int) ∈ zT) (hcr : zcm M 13 st = true)
    (k : RnQ Z M (nx, l, .int (if x < y then y else x) :: st, s) Q) : RnQ Z M (pc, l, .int y :: .int x :: st, s) Q := by
  obtain ⟨r, s', hq, hr⟩ := k
  exact ⟨r, s', hq, Rn_max hfe hlk hcr hr⟩
end ZMin
theorem nI_min {a b : Nat} (ha : a < 2 ^ 31) (hb : b < 2 ^ 31) : (if nI b < nI a then nI b else nI a) = nI (min a b) := by
  by_cases z : b < a
  · rw [if_pos (nI_lt z ha), Nat.min_eq_right (by omega)]
  · rw [if_neg (fun q => z ((nI_ltI hb ha).mp q)), Nat.min_eq_left (by omega)]
def zlm (l : Nat) : Nat := if l < 8 then l else 92 + l
def ZGM (G : ZGT) (s : SM) : Prop := GW G ∧ (s.1 15 = nI (zgR G) ∧ s.1 16 = nI (zgN G) ∧ s.1 17 = nI (zgT G)) ∧ (∀ r, r < zgR G → s.2.1 18 r = nI (zgl G r) ∧ bt (s.1 23) r = !zgi G r) ∧ ∀ r, r ≤ zgR G → s.2.1 19 r = nI (zgn G r) ∧ ∀ i, i < zgn G r → s.2.1 20 (5 * r + i) = nI (zlm (zgt G r i))
def gfm (ks as : List Nat) : Bool := ks.all (fun q => !(Nat.beq q 15 || Nat.beq q 16 || Nat.beq q 17 || Nat.beq q 23)) && as.all (fun a => !(Nat.beq a 18 || Nat.beq a 19 || Nat.beq a 20))
theorem ZGM.fr {G : ZGT} {u v : SM} {ks as : List Nat} (h : ZGM G u) (f : frM ks as u v) (hk : gfm ks as = true) : ZGM G v := by
  unfold gfm at hk
  rw [Bool.and_eq_true, List.all_eq_true, List.all_eq_true] at hk
  have h15 : (15 : Nat) ∉ ks := fun hm => by have := hk.1 _ hm; cases this
  have h16 : (16 : Nat) ∉ ks := fun hm => by have := hk.1 _ hm; cases this
  have h17 : (17 : Nat) ∉ ks := fun hm => by have := hk.1 _ hm; cases this
  have h23 : (23 : Nat) ∉ ks := fun hm => by have := hk.1 _ hm; cases this
  have h4 : (18 : Nat) ∉ as := fun hm => by have := hk.2 _ hm; cases this
  have h5 : (19 : Nat) ∉ as := fun hm => by have := hk.2 _ hm; cases this
  have h6 : (20 : Nat) ∉ as := fun hm => by have := hk.2 _ hm; cases this
  obtain ⟨a, ⟨b0, b1', b2⟩, c, d⟩ := h
  refine ⟨a, ⟨?_, ?_, ?_⟩, fun r hr => ?_, fun r hr => ?_⟩
  · rw [f.1 15 h15]; exact b0
  · rw [f.1 16 h16]; exact b1'
  · rw [f.1 17 h17]; exact b2
  · rw [f.1 23 h23, f.2.1 18 h4]; exact c r hr
  · rw [f.2.1 19 h5, f.2.1 20 h6]; exact d r hr
theorem ZGM.R {G : ZGT} {u : SM} (h : ZGM G u) : u.1 15 = nI (zgR G) := h.2.1.1
theorem ZGM.l {G : ZGT} {u : SM} (h : ZGM G u) {r : Nat} (hr : r < zgR G) : u.2.1 18 r = nI (zgl G r) := (h.2.2.1 r hr).1
theorem ZGM.n {G : ZGT} {u : SM} (h : ZGM G u) {r : Nat} (hr : r ≤ zgR G) : u.2.1 19 r = nI (zgn G r) := (h.2.2.2 r hr).1
theorem ZGM.b {G : ZGT} {u : SM} (h : ZGM G u) : zgR G ≤ 16 ∧ 1 ≤ zgR G ∧ zgN G ≤ 6 ∧ 1 ≤ zgN G ∧ zgT G ≤ 8 := ⟨h.1.1.2.1, h.1.1.1, h.1.1.2.2.2.1, h.1.1.2.2.1, h.1.1.2.2.2.2⟩
theorem m_isIn {G : ZGT} {u : SM} (h : ZGM G u) {r : Nat} (hr : r < zgR G) : Ev ZR mX12_isIn [.ref 0, .int (nI r)] u (some (.int (bI (zgi G r)))) u := by
  have h0 := e_isIn u (nI r)
  rw [hasB_bt _ (by have := h.b; omega), (h.2.2.1 r hr).2, Bool.not_not] at h0
  exact h0
theorem m_letterAt {G : ZGT} {u : SM} (h : ZGM G u) {r i : Nat} (hr : r ≤ zgR G) (hi : i < zgn G r) : Ev ZR mX12_letterAt [.ref 0, .int (nI r), .int (nI i)] u (some (.int (nI (zlm (zgt G r i))))) u := by
  have hb := h.b
  have hn := h.1.n hr
  have e1 : 5 * nI r + nI i = nI (5 * r + i) := by rw [nI_mul5, nI_add]
  have h0 := e_letterAt u (nI r) (nI i) (by rw [e1]; exact nI_in (by omega) (by omega))
  rw [e1, nI_clamp (by omega), (h.2.2.2 r hr).2 i hi] at h0
  exact h0
theorem zlm_lt {l : Nat} (h : l < 14) : zlm l < 106 := by unfold zlm; split <;> omega
theorem zlm_nm {l : Nat} (h : 8 ≤ l) : zlm l = 100 + (l - 8) := by unfold zlm; rw [if_neg (by omega)]; omega
theorem zlm_sg {l : Nat} (h : l < 8) : zlm l = l := if_pos h
theorem zlm_100 {l : Nat} (h : l < 14) : 100 ≤ zlm l ↔ 8 ≤ l := by unfold zlm; split <;> omega
theorem emB_zem {em : Int32} {l : Nat} (h : l < 14) : emB em (nI (zlm l)) = zem em l := by
  unfold emB zem
  by_cases z : 8 ≤ l
  · rw [decide_eq_true z, zlm_nm z, decide_eq_true (show (100 : Int32) ≤ nI (100 + (l - 8)) from nI_le (a := 100) (by omega) (by omega)), show (100 : Int32) = nI 100 from rfl, nI_sub (by omega), Nat.add_sub_cancel_left, hasB_bt _ (by omega)]
  · rw [decide_eq_false z, Bool.false_and, zlm_sg (by omega), decide_eq_false (fun q => z (by have := (zq_le (a := 100) (b := l) rfl rfl (by omega) (by omega)).mp q; omega)), Bool.false_and]
theorem m_isEmptyLetter {u : SM} {l : Nat} (h : l < 14) : Ev ZR mX12_isEmptyLetter [.ref 0, .int (nI (zlm l))] u (some (.int (bI (zem (u.1 25) l)))) u := by
  have h0 := e_isEmptyLetter u (nI (zlm l))
  rw [emB_zem h] at h0
  exact h0
theorem m_isEmptyFrom {G : ZGT} {u : SM} (h : ZGM G u) {r i : Nat} (hr : r ≤ zgR G) (hi : i ≤ zgn G r) : Ev ZR mX12_isEmptyFrom [.ref 0, .int (nI r), .int (nI i)] u (some (.int (bI (zAE G (u.1 25) r i)))) u := by
  have hb := h.b
  have hn := h.1.n hr
  have h0 := e_isEmptyFrom u r i (zgn G r) (by omega) (h.n hr) hn hi
  have key : ∀ d i, i + d ≤ zgn G r → efB u r i d = zae G (u.1 25) r d i := by
    intro d
    induction d with
    | zero => intro i _; rfl
    | succ d ih =>
      intro i hi
      rw [efB, zae, ih (i + 1) (by omega), (h.2.2.2 r hr).2 i (by omega), emB_zem (h.1.t hr (by omega)).1]
  rw [key _ _ (by omega)] at h0
  exact h0
theorem m_firstFrom {G : ZGT} {u : SM} (h : ZGM G u) {r i : Nat} (hr : r ≤ zgR G) (hi : i ≤ zgn G r) : Ev ZR mX12_firstFrom [.ref 0, .int (nI r), .int (nI i)] u (some (.int (zFF G (u.1 25) (u.2.1 26) r i))) u := by
  have hb := h.b
  have hn := h.1.n hr
  have hrc : (nI r).toNatClampNeg = r := nI_clamp (by omega)
  have e1 : u.2.1 19 (nI r).toNatClampNeg = nI (zgn G r) := by rw [hrc]; exact h.n hr
  refine EQ_ev (EQ_V vX12_firstFrom rfl ?_)
  refine RQ_n ZR_ok 6 rfl trivial ?_
  have key := loopU (Z := ZR) (M := mX12_firstFrom) (pc := 8) (Q := fun x v => x = some (.int (zFF G (u.1 25) (u.2.1 26) r i)) ∧ v = u) (zgn G r - i) (fun j (x : Int32 × Bool) => [some (.ref 0), some (.int (nI r)), some (.int (nI i)), some (.int x.1), some (.int (bI x.2)), some (.int (nI (i + j))), none]) (fun j x v => v = u ∧ (x.2 = true → x.1 ||| zff G (u.1 25) (u.2.1 26) r (zgn G r - (i + j)) (i + j) = zFF G (u.1 25) (u.2.1 26) r i) ∧ (x.2 = false → x.1 = zFF G (u.1 25) (u.2.1 26) r i)) ?_ 0 (0, true) u (by omega) ⟨rfl, fun _ => ?_, fun z => by cases z⟩
  · exact key
  · intro j x v hj hJ ih
    obtain ⟨acc, is⟩ := x
    obtain ⟨rfl, h1, h2⟩ := hJ
    dsimp only at h1 h2 ⊢
    refine RQ_n ZR_ok 5 rfl ⟨nI_in (by omega) (by omega), trivial⟩ ?_
    refine RQ_b rfl (fun q => ?_) (fun q => ?_)
    · have q := (zq_le e1 rfl (by omega) (by omega)).mp q
      refine RQ_n ZR_ok 1 rfl trivial ?_
      refine RQ_to (Rn_iret rfl rfl) ⟨?_, rfl⟩
      cases is with
      | false => rw [h2 rfl]
      | true => rw [← h1 rfl, show zgn G r - (i + j) = 0 by omega, zff, or_0]
    have q := (not_congr (zq_le e1 rfl (by omega) (by omega))).mp q
    refine RQ_n ZR_ok 1 rfl trivial ?_
    refine RQ_b rfl (fun q2 => ?_) (fun q2 => ?_)
    · have q2 := bI_0.mp q2
      refine RQ_n ZR_ok 1 rfl trivial ?_
      exact RQ_to (Rn_iret rfl rfl) ⟨by rw [h2 q2], rfl⟩
    have q2 := bI_t q2
    have hk : i + j < zgn G r := by omega
    have ht := h.1.t hr hk
    have hlm := zlm_lt ht.1
    refine RQ_n ZR_ok 3 rfl trivial ?_
    refine RQ_v vX12_letterAt (m_letterAt h hr hk) rfl k12_275 rfl rfl rfl rfl rfl ?_
    obtain ⟨d, hd⟩ : ∃ d, zgn G r - (i + j) = d + 1 := ⟨zgn G r - (i + j) - 1, by omega⟩
    have h3 := h1 q2
    rw [hd, zff] at h3
    -- the letter's own signs are added
    have turn : ∀ y : Int32, y = zfl (v.2.1 26) (zgt G r (i + j)) → RnQ ZR mX12_firstFrom (58, [some (.ref 0), some (.int (nI r)), some (.int (nI i)), some (.int acc), some (.int (bI is)), some (.int (nI (i + j))), some (.int (nI (zlm (zgt G r (i + j)))))], [.int y, .int acc], v) (fun x u => x = some (.int (zFF G (v.1 25) (v.2.1 26) r i)) ∧ u = v) := by
      intro y hy
      refine RQ_n ZR_ok 4 rfl trivial ?_
      refine RQ_v vX12_isEmptyLetter (m_isEmptyLetter ht.1) rfl k12_285 rfl rfl rfl rfl rfl ?_
      refine RQ_n ZR_ok 3 rfl trivial ?_
      refine ih (by omega) (acc ||| y, zem (v.1 25) (zgt G r (i + j))) _ _ ⟨rfl, rfl, rfl, rfl, rfl, nIs (i + j), trivial⟩ ⟨rfl, fun z => ?_, fun z => ?_⟩
      · have z : zem (v.1 25) (zgt G r (i + j)) = true := z
        show acc ||| y ||| _ = _
        rw [if_pos z, ← hy, ← or_as] at h3
        rw [← h3, show zgn G r - (i + (j + 1)) = d by omega]
        rfl
      · have z : zem (v.1 25) (zgt G r (i + j)) = false := z
        show acc ||| y = _
        rw [z, if_neg (by decide), ← hy, or_0] at h3
        exact h3
    refine RQ_n ZR_ok 4 rfl trivial ?_
    refine RQ_b rfl (fun q3 => ?_) (fun q3 => ?_)
    · have q3 := (zq_lt (a := zlm (zgt G r (i + j))) (b := 100) rfl rfl (by omega) (by omega)).mp q3
      have h8 := not_congr (zlm_100 ht.1)
      have h8 : zgt G r (i + j) < 8 := by omega
      refine RQ_n ZR_ok 3 rfl trivial ?_
      refine turn _ ?_
      rw [zfl, if_pos h8, zlm_sg h8]
      rfl
    · have q3 := (not_congr (zq_lt (a := zlm (zgt G r (i + j))) (b := 100) rfl rfl (by omega) (by omega))).mp q3
      have h8 : 8 ≤ zgt G r (i + j) := (zlm_100 ht.1).mp (by omega)
      have e8 : nI (zlm (zgt G r (i + j))) - 100 = nI (zgt G r (i + j) - 8) := by rw [zlm_nm h8, show (100 : Int32) = nI 100 from rfl, nI_sub (by omega), Nat.add_sub_cancel_left]
      refine RQ_n ZR_ok 7 rfl ⟨by rw [e8]; exact nI_in (by omega) (by omega), trivial⟩ ?_
      refine turn _ ?_
      rw [e8, nI_clamp (by omega), zfl, if_neg (by omega)]
  · show (0 : Int32) ||| _ = _
    rw [or_cm, or_0]
    rfl
/-- the reference's shortest ones -/
def SRM (S : Nat → Nat) (u : SM) : Prop := ∀ n, n < 6 → u.2.1 28 n = nI (S n) ∧ S n ≤ 1000000
theorem m_shortestOf {G : ZGT} {u : SM} {S : Nat → Nat} (h : ZGM G u) (hS : SRM S u) {r : Nat} (hr : r ≤ zgR G) : Ev ZR mX12_shortestOf [.ref 0, .int (nI r)] u (some (.int (nI (zSM G S r)))) u := by
  have hb := h.b
  have hn := h.1.n hr
  have hrc : (nI r).toNatClampNeg = r := nI_clamp (by omega)
  have e1 : u.2.1 19 (nI r).toNatClampNeg = nI (zgn G r) := by rw [hrc]; exact h.n hr
  refine EQ_ev (EQ_V vX12_shortestOf rfl ?_)
  refine RQ_n ZR_ok 4 rfl trivial ?_
  refine loopU (zgn G r) (fun i (_ : Unit) => [some (.ref 0), some (.int (nI r)), some (.int (nI (min 1000000 (zsu G S r i 0)))), some (.int (nI i)), none]) (fun i _ v => v = u) ?_ 0 () u (by omega) rfl
  intro i _ v hi hJ ih
  subst hJ
  refine RQ_n ZR_ok 5 rfl ⟨nI_in (by omega) (by omega), trivial⟩ ?_
  refine RQ_b rfl (fun q => ?_) (fun q => ?_)
  · have q := (zq_le e1 rfl (by omega) (by omega)).mp q
    have : i = zgn G r := by omega
    subst this
    refine RQ_n ZR_ok 1 rfl trivial ?_
    exact RQ_to (Rn_iret rfl rfl) ⟨rfl, rfl⟩
  have q := (not_congr (zq_le e1 rfl (by omega) (by omega))).mp q
  have hin : i < zgn G r := by omega
  have ht := h.1.t hr hin
  have hlm := zlm_lt ht.1
  have hzs : zsl S (zgt G r i) ≤ 1000000 := by
    unfold zsl
    by_cases z : zgt G r i < 8
    · rw [if_pos z]; omega
    · rw [if_neg z]; exact (hS _ (by omega)).2
  refine RQ_n ZR_ok 3 rfl trivial ?_
  refine RQ_v vX12_letterAt (m_letterAt h hr hin) rfl k12_275 rfl rfl rfl rfl rfl ?_
  have turn : RnQ ZR mX12_shortestOf (47, [some (.ref 0), some (.int (nI r)), some (.int (nI (min 1000000 (zsu G S r i 0)))), some (.int (nI i)), some (.int (nI (zlm (zgt G r i))))], [.int (nI (zsl S (zgt G r i))), .int (nI (min 1000000 (zsu G S r i 0))), .int 1000000], v) (fun x u => x = some (.int (nI (zSM G S r))) ∧ u = v) := by
    refine RQ_n ZR_ok 1 rfl trivial ?_
    rw [show nI (min 1000000 (zsu G S r i 0)) + nI (zsl S (zgt G r i)) = nI (min 1000000 (zsu G S r i 0) + zsl S (zgt G r i)) from nI_add _ _]
    refine RQ_min rfl k12_289 rfl ?_
    rw [show (if nI (min 1000000 (zsu G S r i 0) + zsl S (zgt G r i)) < 1000000 then nI (min 1000000 (zsu G S r i 0) + zsl S (zgt G r i)) else 1000000) = nI (min 1000000 (min 1000000 (zsu G S r i 0) + zsl S (zgt G r i))) from nI_min (a := 1000000) (by omega) (by omega)]
    refine RQ_n ZR_ok 3 rfl trivial ?_
    refine ih hin () _ _ ⟨rfl, rfl, ?_, nIs i, trivial⟩ rfl
    show Value.int _ = Value.int _
    rw [zsu_sn, Nat.zero_add]
    congr 2
    omega
  refine RQ_n ZR_ok 5 rfl trivial ?_
  refine RQ_b rfl (fun q3 => ?_) (fun q3 => ?_)
  · have q3 := (zq_lt (a := zlm (zgt G r i)) (b := 100) rfl rfl (by omega) (by omega)).mp q3
    have h8 := not_congr (zlm_100 ht.1)
    have h8 : zgt G r i < 8 := by omega
    refine RQ_n ZR_ok 1 rfl trivial ?_
    have e9 : nI (zsl S (zgt G r i)) = 1 := by rw [zsl, if_pos h8]; rfl
    rw [e9] at turn
    exact turn
  · have q3 := (not_congr (zq_lt (a := zlm (zgt G r i)) (b := 100) rfl rfl (by omega) (by omega))).mp q3
    have h8 : 8 ≤ zgt G r i := (zlm_100 ht.1).mp (by omega)
    have e8 : nI (zlm (zgt G r i)) - 100 = nI (zgt G r i - 8) := by rw [zlm_nm h8, show (100 : Int32) = nI 100 from rfl, nI_sub (by omega), Nat.add_sub_cancel_left]
    refine RQ_n ZR_ok 7 rfl ⟨by rw [e8]; exact nI_in (by omega) (by omega), trivial⟩ ?_
    rw [e8, nI_clamp (by omega), (hS _ (by omega)).1]
    rw [zsl, if_neg (by omega)] at turn
    exact turn
