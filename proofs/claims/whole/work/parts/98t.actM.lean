/-! What a state does by a sign, as a value; the reference: layAction, defaultOf. -/
/-- how many below n -/
def zcnt (p : Nat → Bool) : Nat → Nat
  | 0 => 0
  | n + 1 => zcnt p n + if p n = true then 1 else 0
theorem zcnt_le (p : Nat → Bool) : ∀ n, zcnt p n ≤ n
  | 0 => Nat.le_refl _
  | n + 1 => by have := zcnt_le p n; rw [zcnt]; split <;> omega
theorem zcnt_cg {p p' : Nat → Bool} : ∀ n, (∀ i, i < n → p i = p' i) → zcnt p n = zcnt p' n
  | 0, _ => rfl
  | n + 1, h => by rw [zcnt, zcnt, zcnt_cg n (fun i hi => h i (by omega)), h n (by omega)]
theorem zfst_cg {p p' : Nat → Bool} : ∀ n, (∀ i, i < n → p i = p' i) → zfst p n = zfst p' n
  | 0, _ => rfl
  | n + 1, h => by rw [zfst, zfst, zfst_cg n (fun i hi => h i (by omega)), h n (by omega)]
/-- over a closure C, where the state goes g, what is preferred p: can it reduce; where it shifts; the lowest rule; is it over; how many ways; the action -/
def zcrd (G : ZGT) (C : Nat → Int32) (t r : Nat) : Bool := bt (C (6 * r + zgn G r)) t
def zsh (G : ZGT) (g : Nat → Option Nat) (t : Nat) : Option Nat := if t < zgT G then g t else none
def zlo (G : ZGT) (C : Nat → Int32) (t : Nat) : Option Nat := zfst (zcrd G C t) (zgR G)
def zov (G : ZGT) (C : Nat → Int32) (t : Nat) : Bool := decide (t = zgT G) && zcrd G C t (zgR G)
def zwy (G : ZGT) (C : Nat → Int32) (g : Nat → Option Nat) (t : Nat) : Nat := (if (zsh G g t).isSome = true then 1 else 0) + zcnt (zcrd G C t) (zgR G) + if zov G C t = true then 1 else 0
def zrd (G : ZGT) (C : Nat → Int32) (g : Nat → Option Nat) (p : Int32) (t : Nat) : Bool := (zlo G C t).isSome && ((zsh G g t).isNone || bt p t)
def zac (G : ZGT) (C : Nat → Int32) (g : Nat → Option Nat) (p : Int32) (t : Nat) : Int32 := if zov G C t = true then 999 else if zrd G C g p t = true then fI (zlo G C t) else match zsh G g t with
  | some s => 1000 + nI s
  | none => -1
theorem m_canReduce {G : ZGT} {u : SM} (h : ZGM G u) {kd st r t : Nat} (hk : kd < 3) (hs : st < 200) (hr : r ≤ zgR G) (ht : t < 32) : Ev ZR mX12_canReduce [.ref 0, .int (nI kd), .int (nI st), .int (nI r), .int (nI t)] u (some (.int (bI (zcrd G (mC (mrow kd st) u) t r)))) u := by
  have hb := h.b
  have h5 := (h.1.2.2.1 r hr).1
  have hrow := mrow_lt hk hs
  refine EQ_ev ?_
  refine EQ_V vX12_canReduce rfl ?_
  refine RQ_n ZR_ok 4 rfl trivial ?_
  refine RQ_s vX12_rowOf (e_rowOf u kd st) rfl k12_352 rfl rfl rfl rfl ?_
  refine RQ_n ZR_ok 4 rfl trivial ?_
  refine RQ_n ZR_ok 1 rfl ⟨nI_in (by omega) (by omega), trivial⟩ ?_
  rw [nI_clamp (show r < 2 ^ 31 by omega), h.n hr]
  refine RQ_s vX12_itemAt (e_itemAt u r (zgn G r)) rfl k12_358 rfl rfl rfl rfl ?_
  refine RQ_n ZR_ok 1 rfl trivial ?_
  rw [nI_add]
  refine RQ_n ZR_ok 1 rfl ⟨nI_in (by omega) (by omega), trivial⟩ ?_
  rw [nI_clamp (show mrow kd st + (6 * r + zgn G r) < 2 ^ 31 by omega)]
  refine RQ_n ZR_ok 1 rfl trivial ?_
  refine RQ_s vX12_has (e_has u _ (nI t)) rfl k12_237 rfl rfl rfl rfl ?_
  rw [hasB_bt _ ht]
  refine RQ_to (Rn_zret rfl rfl (bI_01 _)) ⟨rfl, rfl⟩
theorem m_plainAction (u : SM) {kd st t : Nat} (hk : kd < 3) (hs : st < 200) (ht : t < 9) : Ev ZR mX12_plainAction [.ref 0, .int (nI kd), .int (nI st), .int (nI t)] u (some (.int (u.2.1 41 (9 * (200 * kd + st) + t)))) u := by
  refine EQ_ev ?_
  refine EQ_V vX12_plainAction rfl ?_
  refine RQ_n ZR_ok 11 rfl trivial ?_
  rw [show (9 : Int32) * (200 * nI kd + nI st) + nI t = nI (9 * (200 * kd + st) + t) by rw [show (9 : Int32) = nI 9 from rfl, show (200 : Int32) = nI 200 from rfl, nI_mul, nI_add, nI_mul, nI_add]]
  refine RQ_n ZR_ok 1 rfl ⟨nI_in (by omega) (by omega), trivial⟩ ?_
  rw [nI_clamp (show 9 * (200 * kd + st) + t < 2 ^ 31 by omega)]
  exact RQ_to (Rn_iret rfl rfl) ⟨rfl, rfl⟩
def laQ (G : ZGT) (kd st t : Nat) (C : Nat → Int32) (g : Nat → Option Nat) (u : SM) (x : Option Value) (v : SM) : Prop := x = none ∧ v.2.1 41 = upd (u.2.1 41) (9 * (200 * kd + st) + t) (zac G C g (u.1 24) t) ∧ v.2.1 42 = upd (u.2.1 42) (200 * kd + st) (u.2.1 42 (200 * kd + st) ||| (if 1 < zwy G C g t then b1 t else 0)) ∧ frM [] [41, 42] u v
set_option maxHeartbeats 2000000 in
theorem m_layAction {G : ZGT} {u : SM} (h : ZGM G u) {kd st t : Nat} {g : Nat → Option Nat} (hk : kd < 3) (hs : st < 200) (ht : t ≤ zgT G) (hg : ∀ b, b < 14 → u.2.1 40 (14 * (200 * kd + st) + b) = fI (g b)) (hg2 : ∀ b k, b < 14 → g b = some k → k < 200) : EvQ ZR mX12_layAction [.ref 0, .int (nI kd), .int (nI st), .int (nI t)] u (laQ G kd st t (mC (mrow kd st) u) g u) := by
  have hb := h.b
  obtain ⟨C, hC⟩ : ∃ C, C = mC (mrow kd st) u := ⟨_, rfl⟩
  rw [← hC]
  have hcr : ∀ r, r ≤ zgR G → Ev ZR mX12_canReduce [.ref 0, .int (nI kd), .int (nI st), .int (nI r), .int (nI t)] u (some (.int (bI (zcrd G C t r)))) u := fun r hr => by rw [hC]; exact m_canReduce h hk hs hr (by omega)
  obtain ⟨sh, hsh⟩ : ∃ sh, sh = zsh G g t := ⟨_, rfl⟩
  obtain ⟨lo, hlo⟩ : ∃ lo, lo = zlo G C t := ⟨_, rfl⟩
  obtain ⟨ov, hov⟩ : ∃ ov, ov = zov G C t := ⟨_, rfl⟩
  have hsh2 : ∀ k, sh = some k → k < 200 := fun k hk => by
    rw [hsh] at hk
    unfold zsh at hk
    split at hk
    · exact hg2 _ _ (by omega) hk
    · cases hk
  have hlo2 : ∀ k, lo = some k → k < 16 := fun k hk => by
    rw [hlo] at hk
    have := (zfst_s hk).1
    omega
  refine EQ_V vX12_layAction rfl ?_
  have e9 : (9 : Int32) * (200 * nI kd + nI st) + nI t = nI (9 * (200 * kd + st) + t) := by rw [show (9 : Int32) = nI 9 from rfl, show (200 : Int32) = nI 200 from rfl, nI_mul, nI_add, nI_mul, nI_add]
  have e2 : (200 : Int32) * nI kd + nI st = nI (200 * kd + st) := by rw [show (200 : Int32) = nI 200 from rfl, nI_mul, nI_add]
  -- the end: the clash
  have p229 : ∀ (x : Int32) (l : List (Option Value)) (v : SM), x = (if 1 < zwy G C g t then b1 t else 0) → v.2.1 41 = upd (u.2.1 41) (9 * (200 * kd + st) + t) (zac G C g (u.1 24) t) → v.2.1 42 = u.2.1 42 → frM [] [41, 42] u v → RnQ ZR mX12_layAction (229, l, [.int x, .int (u.2.1 42 (200 * kd + st)), .int (nI (200 * kd + st)), .ref 26], v) (laQ G kd st t C g u) := by
    intro x l v hx h41 h42 hf
    refine RQ_n ZR_ok 1 rfl trivial ?_
    refine RQ_n ZR_ok 1 rfl ⟨nI_in (by omega) (by omega), trivial⟩ ?_
    rw [nI_clamp (show 200 * kd + st < 2 ^ 31 by omega)]
    refine RQ_to (Rn_vret rfl rfl) ⟨rfl, h41, ?_, hf.tr (frM.a 42 (by decide))⟩
    show upd (v.2.1 42) (200 * kd + st) _ = _
    rw [h42, hx]
  have p202 : ∀ (a : Int32) (w : Nat) (l4 l5 l7 l8 : Option Value), a = zac G C g (u.1 24) t → w = zwy G C g t → RnQ ZR mX12_layAction (202, [some (.ref 0), some (.int (nI kd)), some (.int (nI st)), some (.int (nI t)), l4, l5, some (.int (nI w)), l7, l8], [.int a, .int (nI (9 * (200 * kd + st) + t)), .ref 25], u) (laQ G kd st t C g u) := by
    intro a w l4 l5 l7 l8 ha hw
    have hw99 : w < 20 := by
      rw [hw]; unfold zwy
      have := zcnt_le (zcrd G C t) (zgR G)
      split <;> split <;> omega
    refine RQ_n ZR_ok 1 rfl ⟨nI_in (by omega) (by omega), trivial⟩ ?_
    rw [nI_clamp (show 9 * (200 * kd + st) + t < 2 ^ 31 by omega)]
    obtain ⟨v, hv⟩ : ∃ v : SM, v = (u.1, updA u.2.1 41 (9 * (200 * kd + st) + t) a, u.2.2) := ⟨_, rfl⟩
    rw [← hv]
    have f1 : frM [] [41, 42] u v := by rw [hv]; exact frM.a 41 (by decide)
    have h41 : v.2.1 41 = upd (u.2.1 41) (9 * (200 * kd + st) + t) (zac G C g (u.1 24) t) := by rw [hv, ← ha]; rfl
    have h42 : v.2.1 42 = u.2.1 42 := by rw [hv]; rfl
    refine RQ_n ZR_ok 8 rfl trivial ?_
    rw [e2]
    refine RQ_n ZR_ok 1 rfl ⟨nI_in (by omega) (by omega), trivial⟩ ?_
    rw [nI_clamp (show 200 * kd + st < 2 ^ 31 by omega), h42]
    refine RQ_n ZR_ok 2 rfl trivial ?_
    refine RQ_b rfl (fun z => ?_) (fun z => ?_)
    · have z := (zq_le (a := w) (b := 1) rfl rfl (by omega) (by omega)).mp z
      refine RQ_n ZR_ok 1 rfl trivial ?_
      exact p229 0 _ v (by rw [if_neg (by omega)]) h41 h42 f1
    · have z := (not_congr (zq_le (a := w) (b := 1) rfl rfl (by omega) (by omega))).mp z
      refine RQ_n ZR_ok 4 rfl trivial ?_
      exact p229 _ _ v (by rw [if_pos (by omega)]; rfl) h41 h42 f1
  have p147 : ∀ (rd : Bool) (w : Nat) (l8 : Option Value), rd = zrd G C g (u.1 24) t → w = zwy G C g t → RnQ ZR mX12_layAction (147, [some (.ref 0), some (.int (nI kd)), some (.int (nI st)), some (.int (nI t)), some (.int (fI sh)), some (.int (fI lo)), some (.int (nI w)), some (.int (bI ov)), l8], [.int (bI rd)], u) (laQ G kd st t C g u) := by
    intro rd w l8 hrd hw
    refine RQ_n ZR_ok 13 rfl trivial ?_
    rw [e9]
    refine RQ_b rfl (fun z => ?_) (fun z => ?_)
    · have z := bI_0.mp z
      refine RQ_n ZR_ok 1 rfl trivial ?_
      refine RQ_b rfl (fun y => ?_) (fun y => ?_)
      · have y := bI_0.mp y
        refine RQ_n ZR_ok 2 rfl trivial ?_
        cases hsc : sh with
        | none =>
          refine RQ_b rfl (fun _ => ?_) (fun q => absurd rfl q)
          refine RQ_n ZR_ok 1 rfl trivial ?_
          refine p202 _ w _ _ _ _ ?_ hw
          unfold zac
          rw [← hov, z, if_neg (by decide), ← hrd, y, if_neg (by decide), ← hsh, hsc]
        | some k =>
          have := hsh2 k hsc
          refine RQ_b rfl (fun q => absurd q (nI_m1 (a := k) (by omega))) (fun _ => ?_)
          refine RQ_n ZR_ok 4 rfl trivial ?_
          refine p202 _ w _ _ _ _ ?_ hw
          unfold zac
          rw [← hov, z, if_neg (by decide), ← hrd, y, if_neg (by decide), ← hsh, hsc]
          rfl
      · have y := bI_t y
        refine RQ_n ZR_ok 2 rfl trivial ?_
        refine p202 _ w _ _ _ _ ?_ hw
        unfold zac
        rw [← hov, z, if_neg (by decide), ← hrd, y, if_pos rfl, hlo]
    · have z := bI_t z
      refine RQ_n ZR_ok 2 rfl trivial ?_
      refine p202 _ w _ _ _ _ ?_ hw
      unfold zac
      rw [← hov, z, if_pos rfl]
  have p119 : ∀ (w : Nat) (l8 : Option Value), w = zwy G C g t → RnQ ZR mX12_layAction (119, [some (.ref 0), some (.int (nI kd)), some (.int (nI st)), some (.int (nI t)), some (.int (fI sh)), some (.int (fI lo)), some (.int (nI w)), some (.int (bI ov)), l8], [], u) (laQ G kd st t C g u) := by
    intro w l8 hw
    refine RQ_n ZR_ok 2 rfl trivial ?_
    cases hlc : lo with
    | none =>
      refine RQ_b rfl (fun _ => ?_) (fun q => absurd rfl q)
      refine RQ_n ZR_ok 1 rfl trivial ?_
      rw [hlc] at p147
      exact p147 false w _ (by unfold zrd; rw [← hlo, hlc]; rfl) hw
    | some r =>
      have := hlo2 r hlc
      rw [hlc] at p147
      refine RQ_b rfl (fun q => absurd q (nI_m1 (a := r) (by omega))) (fun _ => ?_)
      refine RQ_n ZR_ok 2 rfl trivial ?_
      cases hsc : sh with
      | none =>
        rw [hsc] at p147
        refine RQ_b rfl (fun _ => ?_) (fun q => absurd rfl q)
        refine RQ_n ZR_ok 2 rfl trivial ?_
        exact p147 true w _ (by unfold zrd; rw [← hlo, hlc, ← hsh, hsc]; rfl) hw
      | some k =>
        rw [hsc] at p147
        have := hsh2 k hsc
        refine RQ_b rfl (fun q => absurd q (nI_m1 (a := k) (by omega))) (fun _ => ?_)
        refine RQ_n ZR_ok 3 rfl trivial ?_
        refine RQ_s vX12_has (e_has u _ (nI t)) rfl k12_237 rfl rfl rfl rfl ?_
        rw [hasB_bt _ (show t < 32 by omega)]
        refine RQ_b rfl (fun z => ?_) (fun z => ?_)
        · have z := bI_0.mp z
          refine RQ_n ZR_ok 1 rfl trivial ?_
          exact p147 false w _ (by unfold zrd; rw [← hlo, hlc, ← hsh, hsc, z]; rfl) hw
        · have z := bI_t z
          refine RQ_n ZR_ok 2 rfl trivial ?_
          exact p147 true w _ (by unfold zrd; rw [← hlo, hlc, ← hsh, hsc, z]; rfl) hw
  have p102 : ∀ (w : Nat) (l7 l8 : Option Value), w = (if sh.isSome = true then 1 else 0) + zcnt (zcrd G C t) (zgR G) → RnQ ZR mX12_layAction (102, [some (.ref 0), some (.int (nI kd)), some (.int (nI st)), some (.int (nI t)), some (.int (fI sh)), some (.int (fI lo)), some (.int (nI w)), l7, l8], [.int (bI ov)], u) (laQ G kd st t C g u) := by
    intro w l7 l8 hw
    refine RQ_n ZR_ok 3 rfl trivial ?_
    have hz : zwy G C g t = w + if ov = true then 1 else 0 := by unfold zwy; rw [← hsh, ← hov, hw]
    refine RQ_b rfl (fun z => ?_) (fun z => ?_)
    · have z := bI_0.mp z
      refine RQ_n ZR_ok 3 rfl trivial ?_
      rw [show nI w + 0 = nI w from nI_add w 0]
      exact p119 w _ (by rw [hz, z, if_neg (by decide)]; rfl)
    · have z := bI_t z
      refine RQ_n ZR_ok 4 rfl trivial ?_
      rw [show nI w + 1 = nI (w + 1) from nI_add w 1]
      exact p119 (w + 1) _ (by rw [hz, z, if_pos rfl])
  have p75 : ∀ (w : Nat) (l7 l8 : Option Value), w = (if sh.isSome = true then 1 else 0) + zcnt (zcrd G C t) (zgR G) → RnQ ZR mX12_layAction (75, [some (.ref 0), some (.int (nI kd)), some (.int (nI st)), some (.int (nI t)), some (.int (fI sh)), some (.int (fI lo)), some (.int (nI w)), l7, l8], [], u) (laQ G kd st t C g u) := by
    intro w l7 l8 hw
    refine RQ_n ZR_ok 3 rfl trivial ?_
    rw [h.2.1.2.2]
    refine RQ_b rfl (fun z => ?_) (fun z => ?_)
    · have z := (not_congr (zq_eq (a := t) (b := zgT G) rfl rfl (by omega) (by omega))).mp z
      refine RQ_n ZR_ok 1 rfl trivial ?_
      have : ov = false := by rw [hov]; unfold zov; rw [decide_eq_false z]; rfl
      have k := p102 w l7 l8 hw
      rw [this] at k
      exact k
    · have z := (zq_eq (a := t) (b := zgT G) rfl rfl (by omega) (by omega)).mp (Classical.not_not.mp z)
      refine RQ_n ZR_ok 6 rfl trivial ?_
      rw [h.2.1.1]
      refine RQ_v vX12_canReduce (hcr (zgR G) (Nat.le_refl _)) rfl k12_398 rfl rfl rfl rfl rfl ?_
      have hov2 : ov = zcrd G C t (zgR G) := by rw [hov]; unfold zov; rw [decide_eq_true z]; rfl
      rw [← hov2]
      have k := p102 w l7 l8 hw
      refine RQ_b rfl (fun y => ?_) (fun y => ?_)
      · have y := bI_0.mp y
        rw [y] at k
        refine RQ_n ZR_ok 1 rfl trivial ?_
        exact k
      · have y := bI_t y
        rw [y] at k
        refine RQ_n ZR_ok 2 rfl trivial ?_
        exact k
  -- the loop over rules, downwards
  have key : ∀ (k w : Nat) (o : Option Nat) (l8 : Option Value), k ≤ zgR G → (match o with | none => ∀ r, k ≤ r → r < zgR G → zcrd G C t r = false | some a => k ≤ a ∧ a < zgR G ∧ zcrd G C t a = true ∧ ∀ r, k ≤ r → r < a → zcrd G C t r = false) → w + zcnt (zcrd G C t) k = (if sh.isSome = true then 1 else 0) + zcnt (zcrd G C t) (zgR G) → RnQ ZR mX12_layAction (45, [some (.ref 0), some (.int (nI kd)), some (.int (nI st)), some (.int (nI t)), some (.int (fI sh)), some (.int (fI o)), some (.int (nI w)), some (.int (nI k - 1)), l8], [], u) (laQ G kd st t C g u) := by
    intro k
    induction k with
    | zero =>
      intro w o l8 hk0 ho hw
      refine RQ_n ZR_ok 1 rfl trivial ?_
      refine RQ_b rfl (fun _ => ?_) (fun z => absurd (show (nI 0 - 1 : Int32) < 0 by decide) z)
      have : lo = o := by
        rw [hlo]
        unfold zlo
        cases o with
        | none => exact zfst_n.mpr (fun b hb => ho b (Nat.zero_le _) hb)
        | some a => exact zfst_i ho.2.1 ho.2.2.1 (fun b hb => ho.2.2.2 b (Nat.zero_le _) hb)
      rw [← this]
      exact p75 w _ _ hw
    | succ k ih =>
      intro w o l8 hk0 ho hw
      rw [show nI (k + 1) - 1 = nI k from nI_pred k]
      refine RQ_n ZR_ok 1 rfl trivial ?_
      refine RQ_b rfl (fun z => ?_) (fun z => ?_)
      · have := (zq_lt (a := k) (b := 0) rfl rfl (by omega) (by omega)).mp z
        omega
      refine RQ_n ZR_ok 5 rfl trivial ?_
      refine RQ_v vX12_canReduce (hcr k (by omega)) rfl k12_398 rfl rfl rfl rfl rfl ?_
      rw [zcnt] at hw
      have hkm : nI k + (-1) = nI k - 1 := by rw [Int32.sub_eq_add_neg]
      refine RQ_b rfl (fun y => ?_) (fun y => ?_)
      · have y := bI_0.mp y
        refine RQ_n ZR_ok 2 rfl trivial ?_
        rw [hkm]
        rw [y, if_neg (by decide)] at hw
        refine ih w o _ (by omega) ?_ (by omega)
        cases o with
        | none => exact fun r hr1 hr2 => (Nat.eq_or_lt_of_le hr1).elim (fun q => by rw [← q]; exact y) (fun q => ho r q hr2)
        | some a => exact ⟨by have := ho.1; omega, ho.2.1, ho.2.2.1, fun r hr1 hr2 => (Nat.eq_or_lt_of_le hr1).elim (fun q => by rw [← q]; exact y) (fun q => ho.2.2.2 r q hr2)⟩
      · have y := bI_t y
        refine RQ_n ZR_ok 5 rfl trivial ?_
        rw [hkm, show nI w + 1 = nI (w + 1) from nI_add w 1]
        rw [y, if_pos rfl] at hw
        exact ih (w + 1) (some k) _ (by omega) ⟨Nat.le_refl _, by omega, y, fun r hr1 hr2 => by omega⟩ (by omega)
  have p19 : ∀ (l4 l5 l6 l7 l8 : Option Value), RnQ ZR mX12_layAction (19, [some (.ref 0), some (.int (nI kd)), some (.int (nI st)), some (.int (nI t)), l4, l5, l6, l7, l8], [.int (fI sh)], u) (laQ G kd st t C g u) := by
    intro l4 l5 l6 l7 l8
    refine RQ_n ZR_ok 5 rfl trivial ?_
    cases hsc : sh with
    | none =>
      rw [hsc] at key
      refine RQ_b rfl (fun q => absurd rfl q) (fun _ => ?_)
      refine RQ_n ZR_ok 8 rfl trivial ?_
      rw [h.2.1.1]
      exact key (zgR G) 0 none _ (Nat.le_refl _) (fun r h1 h2 => by omega) rfl
    | some k =>
      rw [hsc] at key
      have := hsh2 k hsc
      refine RQ_b rfl (fun _ => ?_) (fun q => absurd (Classical.not_not.mp q) (nI_m1 (a := k) (by omega)))
      refine RQ_n ZR_ok 7 rfl trivial ?_
      rw [h.2.1.1]
      exact key (zgR G) 1 none _ (Nat.le_refl _) (fun r h1 h2 => by omega) rfl
  refine RQ_n ZR_ok 3 rfl trivial ?_
  rw [h.2.1.2.2]
  refine RQ_b rfl (fun z => ?_) (fun z => ?_)
  · have z := (zq_le (a := zgT G) (b := t) rfl rfl (by omega) (by omega)).mp z
    refine RQ_n ZR_ok 1 rfl trivial ?_
    have : sh = none := by rw [hsh]; unfold zsh; rw [if_neg (by omega)]
    rw [this] at p19
    exact p19 _ _ _ _ _
  · have z := (not_congr (zq_le (a := zgT G) (b := t) rfl rfl (by omega) (by omega))).mp z
    refine RQ_n ZR_ok 4 rfl trivial ?_
    have hgb := m_goesBy u hk hs (show t < 14 by omega)
    rw [hg t (by omega)] at hgb
    refine RQ_v vX12_goesBy hgb rfl k12_386 rfl rfl rfl rfl rfl ?_
    refine RQ_n ZR_ok 1 rfl trivial ?_
    have : sh = g t := by rw [hsh]; unfold zsh; rw [if_pos (by omega)]
    rw [← this]
    exact p19 _ _ _ _ _
