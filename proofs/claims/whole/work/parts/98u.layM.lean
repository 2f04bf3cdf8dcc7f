/-! The reference: defaultOf, layAutomaton, isThere. -/
/-- the rule used most, the first of these -/
def zdfs (n : Nat → Nat) : Nat → Option Nat × Nat
  | 0 => (none, 0)
  | r + 1 => if (zdfs n r).2 < n r then (some r, n r) else zdfs n r
def zus (G : ZGT) (a : Nat → Int32) (r : Nat) : Nat := zcnt (fun t => decide (a t = nI r)) (zgT G + 1)
def zdf (G : ZGT) (a : Nat → Int32) : Option Nat := (zdfs (zus G a) (zgR G)).1
theorem zdfs_le {n : Nat → Nat} {m : Nat} (h : ∀ r, n r ≤ m) : ∀ r, (zdfs n r).2 ≤ m
  | 0 => Nat.zero_le _
  | r + 1 => by
    rw [zdfs]
    split
    · exact h r
    · exact zdfs_le h r
theorem zdfs_lt {n : Nat → Nat} : ∀ r k, (zdfs n r).1 = some k → k < r
  | 0, k, h => by cases h
  | r + 1, k, h => by
    rw [zdfs] at h
    split at h
    · cases h; omega
    · have := zdfs_lt r k h; omega
set_option maxHeartbeats 1000000 in
theorem m_defaultOf {G : ZGT} {u : SM} (h : ZGM G u) {kd st : Nat} (hk : kd < 3) (hs : st < 200) : Ev ZR mX12_defaultOf [.ref 0, .int (nI kd), .int (nI st)] u (some (.int (fI (zdf G (fun t => u.2.1 41 (9 * (200 * kd + st) + t)))))) u := by
  have hb := h.b
  obtain ⟨a, ha⟩ : ∃ a, a = fun t => u.2.1 41 (9 * (200 * kd + st) + t) := ⟨_, rfl⟩
  have hpa : ∀ t, t < 9 → Ev ZR mX12_plainAction [.ref 0, .int (nI kd), .int (nI st), .int (nI t)] u (some (.int (a t))) u := fun t ht => by rw [ha]; exact m_plainAction u hk hs ht
  rw [← ha]
  have hus : ∀ r, zus G a r ≤ 9 := fun r => Nat.le_trans (zcnt_le _ _) (by omega)
  refine EQ_ev ?_
  refine EQ_V vX12_defaultOf rfl ?_
  refine RQ_n ZR_ok 6 rfl trivial ?_
  refine loopU (zgR G) (fun r (_ : Unit) => [some (.ref 0), some (.int (nI kd)), some (.int (nI st)), some (.int (fI (zdfs (zus G a) r).1)), some (.int (nI (zdfs (zus G a) r).2)), some (.int (nI r)), none, none]) (fun r _ w => w = u) ?_ 0 () u (by omega) rfl
  intro r _ w hr hw ih
  subst hw
  have hm := zdfs_le (n := zus G a) hus r
  refine RQ_n ZR_ok 3 rfl trivial ?_
  rw [h.2.1.1]
  refine RQ_b rfl (fun z => ?_) (fun z => ?_)
  · have z := (zq_le (a := zgR G) (b := r) rfl rfl (by omega) (by omega)).mp z
    have : r = zgR G := by omega
    subst this
    refine RQ_n ZR_ok 1 rfl trivial ?_
    exact RQ_to (Rn_iret rfl rfl) ⟨rfl, rfl⟩
  have z := (not_congr (zq_le (a := zgR G) (b := r) rfl rfl (by omega) (by omega))).mp z
  refine RQ_n ZR_ok 4 rfl trivial ?_
  refine loopU (zgT G + 1) (fun t (_ : Unit) => [some (.ref 0), some (.int (nI kd)), some (.int (nI st)), some (.int (fI (zdfs (zus G a) r).1)), some (.int (nI (zdfs (zus G a) r).2)), some (.int (nI r)), some (.int (nI (zcnt (fun t => decide (a t = nI r)) t))), some (.int (nI t))]) (fun t _ v => v = w) ?_ 0 () w (by omega) rfl
  intro t _ v ht hv ih2
  subst hv
  refine RQ_n ZR_ok 3 rfl trivial ?_
  rw [h.2.1.2.2]
  have hct := zcnt_le (fun t => decide (a t = nI r)) t
  refine RQ_b rfl (fun y => ?_) (fun y => ?_)
  · have y := (zq_lt (a := zgT G) (b := t) rfl rfl (by omega) (by omega)).mp y
    have : t = zgT G + 1 := by omega
    subst this
    refine RQ_n ZR_ok 2 rfl trivial ?_
    show RnQ ZR mX12_defaultOf (_, _, [_, .int (nI (zus G a r))], v) _
    have hu9 := hus r
    refine RQ_b rfl (fun q => ?_) (fun q => ?_)
    · have q := (zq_le (a := zus G a r) (b := (zdfs (zus G a) r).2) rfl rfl (by omega) (by omega)).mp q
      refine RQ_n ZR_ok 2 rfl trivial ?_
      refine ih (by omega) () _ _ ?_ rfl
      have e : zdfs (zus G a) (r + 1) = zdfs (zus G a) r := by rw [zdfs, if_neg (by omega)]
      rw [e]
      exact ⟨rfl, rfl, rfl, rfl, rfl, nIs r, trivial⟩
    · have q := (not_congr (zq_le (a := zus G a r) (b := (zdfs (zus G a) r).2) rfl rfl (by omega) (by omega))).mp q
      refine RQ_n ZR_ok 6 rfl trivial ?_
      refine ih (by omega) () _ _ ?_ rfl
      have e : zdfs (zus G a) (r + 1) = (some r, zus G a r) := by rw [zdfs, if_pos (by omega)]
      rw [e]
      exact ⟨rfl, rfl, rfl, rfl, rfl, nIs r, trivial⟩
  · have y := (not_congr (zq_lt (a := zgT G) (b := t) rfl rfl (by omega) (by omega))).mp y
    refine RQ_n ZR_ok 5 rfl trivial ?_
    refine RQ_v vX12_plainAction (hpa t (by omega)) rfl k12_402 rfl rfl rfl rfl rfl ?_
    refine RQ_n ZR_ok 1 rfl trivial ?_
    refine RQ_b rfl (fun q => ?_) (fun q => ?_)
    · have q : ¬ a t = nI r := q
      refine RQ_n ZR_ok 5 rfl trivial ?_
      rw [show nI (zcnt (fun t => decide (a t = nI r)) t) + 0 = nI (zcnt (fun t => decide (a t = nI r)) t) from nI_add _ 0]
      refine ih2 (by omega) () _ _ ?_ rfl
      have e : zcnt (fun t => decide (a t = nI r)) (t + 1) = zcnt (fun t => decide (a t = nI r)) t := by rw [zcnt, if_neg (by rw [decide_eq_false q]; decide)]; rfl
      rw [e]
      exact ⟨rfl, rfl, rfl, rfl, rfl, rfl, rfl, nIs t, trivial⟩
    · have q : a t = nI r := Classical.not_not.mp q
      refine RQ_n ZR_ok 6 rfl trivial ?_
      rw [show nI (zcnt (fun t => decide (a t = nI r)) t) + 1 = nI (zcnt (fun t => decide (a t = nI r)) t + 1) from nI_add _ 1]
      refine ih2 (by omega) () _ _ ?_ rfl
      have e : zcnt (fun t => decide (a t = nI r)) (t + 1) = zcnt (fun t => decide (a t = nI r)) t + 1 := by rw [zcnt, if_pos (decide_eq_true q)]
      rw [e]
      exact ⟨rfl, rfl, rfl, rfl, rfl, rfl, rfl, nIs t, trivial⟩
theorem zlC_cg {G : ZGT} {E : Int32} {F k k' C : Nat → Int32} (h : ∀ i, i < 102 → k i = k' i) (z : zlC G E F k C) : zlC G E F k' C := by
  have hc : ∀ k k' : Nat → Int32, (∀ i, i < 102 → k i = k' i) → ∀ C, zcC G E F k C → zcC G E F k' C := fun k k' e C z => ⟨fun i hi => by rw [← e i hi]; exact z.1 i hi, z.2⟩
  exact ⟨hc _ _ h _ z.1, fun C' hC' => z.2 C' (hc _ _ (fun i hi => (h i hi).symm) C' hC')⟩
/-- the signs by which more than one thing could be done -/
def zck (G : ZGT) (C : Nat → Int32) (g : Nat → Option Nat) : Nat → Int32
  | 0 => 0
  | n + 1 => zck G C g n ||| (if 1 < zwy G C g n then b1 n else 0)
/-- the reference holds what one state does -/
def RSt (G : ZGT) (E : Int32) (F : Nat → Int32) (kd : Nat) (p : Int32) (N : ZNM) (k : Nat) (v : SM) : Prop := (∀ i, i < 102 → mC (mrow kd k) v i = zcl G E F (N.2.1 k) i) ∧ (∀ t, t ≤ zgT G → v.2.1 41 (9 * (200 * kd + k) + t) = zac G (zcl G E F (N.2.1 k)) (N.2.2 k) p t) ∧ v.2.1 42 (200 * kd + k) = zck G (zcl G E F (N.2.1 k)) (N.2.2 k) (zgT G + 1) ∧ v.2.1 43 (200 * kd + k) = fI (zdf G (zac G (zcl G E F (N.2.1 k)) (N.2.2 k) p))
def RAu (G : ZGT) (E : Int32) (F : Nat → Int32) (kd : Nat) (p : Int32) (N : ZNM) (v : SM) : Prop := RMn kd N v ∧ ∀ k, k < N.1 → RSt G E F kd p N k v
/-- other kinds are as they were -/
def oKa (kd : Nat) (u v : SM) : Prop := oKd kd u v ∧ (∀ j, (j < 1800 * kd ∨ 1800 * (kd + 1) ≤ j) → v.2.1 41 j = u.2.1 41 j) ∧ ∀ j, (j < 200 * kd ∨ 200 * (kd + 1) ≤ j) → v.2.1 42 j = u.2.1 42 j ∧ v.2.1 43 j = u.2.1 43 j
theorem oKa.tr {kd : Nat} {u v w : SM} (h : oKa kd u v) (k : oKa kd v w) : oKa kd u w := ⟨h.1.tr k.1, fun j hj => (k.2.1 j hj).trans (h.2.1 j hj), fun j hj => ⟨(k.2.2 j hj).1.trans (h.2.2 j hj).1, (k.2.2 j hj).2.trans (h.2.2 j hj).2⟩⟩
theorem oKd.a {kd : Nat} {u v : SM} (h : oKd kd u v) (h1 : v.2.1 41 = u.2.1 41) (h2 : v.2.1 42 = u.2.1 42) (h3 : v.2.1 43 = u.2.1 43) : oKa kd u v := ⟨h, fun j _ => by rw [h1], fun j _ => ⟨by rw [h2], by rw [h3]⟩⟩
theorem zcrd_cg {G : ZGT} (hG : GW G) {C C' : Nat → Int32} (h : ∀ i, i < 102 → C i = C' i) {t r : Nat} (hr : r ≤ zgR G) : zcrd G C t r = zcrd G C' t r := by
  unfold zcrd
  have h1 := hG.1.2.1
  have h2 := (hG.2.2.1 r hr).1
  rw [h _ (by omega)]
theorem zac_cg {G : ZGT} (hG : GW G) {C C' : Nat → Int32} (h : ∀ i, i < 102 → C i = C' i) {g : Nat → Option Nat} {p : Int32} {t : Nat} : zac G C g p t = zac G C' g p t ∧ zwy G C g t = zwy G C' g t := by
  have e1 : zlo G C t = zlo G C' t := zfst_cg _ (fun i hi => zcrd_cg hG h (by omega))
  have e2 : zov G C t = zov G C' t := by unfold zov; rw [zcrd_cg hG h (Nat.le_refl _)]
  have e3 : zcnt (zcrd G C t) (zgR G) = zcnt (zcrd G C' t) (zgR G) := zcnt_cg _ (fun i hi => zcrd_cg hG h (by omega))
  unfold zac zwy zrd
  rw [e1, e2, e3]
  exact ⟨rfl, rfl⟩
theorem zdf_cg {G : ZGT} {a a' : Nat → Int32} (h : ∀ t, t ≤ zgT G → a t = a' t) : zdf G a = zdf G a' := by
  have : zus G a = zus G a' := funext fun r => zcnt_cg _ (fun t ht => by rw [h t (by omega)])
  unfold zdf
  rw [this]
