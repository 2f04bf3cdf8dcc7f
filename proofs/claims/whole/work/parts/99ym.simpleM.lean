/-! waysSimply: the reference. -/
/-- in how many ways, by what follows -/
noncomputable def zwS (G : ZGT) (C : Nat → Int32) (g : Nat → Option Nat) (t : Nat) : Nat := (if (zsh G g t).isSome = true then 1 else 0) + zcnt (fun r => zSf G C r && bt (zlkf G true (zW0 G) C r) t) (zgR G + 1)
theorem zcnt_le1 {q : Nat → Bool} : ∀ n, zcnt q n ≤ n
  | 0 => Nat.le_refl _
  | n + 1 => by
    have := zcnt_le1 (q := q) n
    rw [zcnt]
    split <;> omega
section MSim
variable {G : ZGT} {s : SM} {p : Int32} {N : ZNM}
set_option maxHeartbeats 1000000 in
theorem m_waysSimply (hG : ZGM G s) (h : SLM G s) (hF : ZNF G N) (hA : RAu G (zE0 G) (zF0 G) 2 p N s) {k t : Nat} (hk : k < N.1) (ht : t ≤ zgT G) : Ev ZR mX12_waysSimply [.ref 0, .int (nI k), .int (nI t)] s (some (.int (nI (zwS G (zcl G (zE0 G) (zF0 G) (N.2.1 k)) (N.2.2 k) t)))) s := by
  have hb := hG.b
  have hN := hF.1.2
  have hW := h.w hG.1
  have hrow := mrow_lt (kd := 2) (st := k) (by omega) (by omega)
  obtain ⟨C, hC⟩ : ∃ C, C = zcl G (zE0 G) (zF0 G) (N.2.1 k) := ⟨_, rfl⟩
  have hCi : ∀ i, i < 102 → mC (mrow 2 k) s i = C i := fun i hi => by rw [hC]; exact (hA.2 k hk).1 i hi
  rw [← hC]
  obtain ⟨q, hq⟩ : ∃ q : Nat → Bool, q = fun r => zSf G C r && bt (zlkf G true (zW0 G) C r) t := ⟨_, rfl⟩
  refine EQ_ev ?_
  refine EQ_V vX12_waysSimply rfl ?_
  have p24 : ∀ b0 : Nat, b0 ≤ 1 → zwS G C (N.2.2 k) t = b0 + zcnt q (zgR G + 1) → RnQ ZR mX12_waysSimply (24, [some (.ref 0), some (.int (nI k)), some (.int (nI t)), none, none, none, none], [.int (nI b0)], s) (fun r u => r = some (.int (nI (zwS G C (N.2.2 k) t))) ∧ u = s) := by
    intro b0 hb0 hv
    refine RQ_n ZR_ok 3 rfl trivial ?_
    refine loopU (zgR G + 1) (fun r (_ : Unit) => [some (.ref 0), some (.int (nI k)), some (.int (nI t)), some (.int (nI (b0 + zcnt q r))), some (.int (nI r)), none, none]) (fun r _ w => w = s) ?_ 0 () s (by omega) rfl
    intro r _ w hr hJ ih
    subst hJ
    have hle := zcnt_le1 (q := q) r
    refine RQ_n ZR_ok 3 rfl trivial ?_
    rw [hG.2.1.1]
    refine RQ_b rfl (fun z => ?_) (fun z => ?_)
    · have z := (zq_lt (a := zgR G) (b := r) rfl rfl (by omega) (by omega)).mp z
      have hre : r = zgR G + 1 := by omega
      refine RQ_n ZR_ok 1 rfl trivial ?_
      exact RQ_to (Rn_iret rfl rfl) ⟨by rw [hv, hre], rfl⟩
    have z := (not_congr (zq_lt (a := zgR G) (b := r) rfl rfl (by omega) (by omega))).mp z
    have hrR : r ≤ zgR G := by omega
    have h5 := (hG.1.2.2.1 r hrR).1
    refine RQ_n ZR_ok 4 rfl trivial ?_
    refine RQ_s vX12_rowOf (e_rowOf w 2 k) rfl k12_352 rfl rfl rfl rfl ?_
    refine RQ_n ZR_ok 4 rfl trivial ?_
    refine RQ_n ZR_ok 1 rfl ⟨nI_in (by omega) (by omega), trivial⟩ ?_
    rw [nI_clamp (show r < 2 ^ 31 by omega), hG.n hrR]
    refine RQ_s vX12_itemAt (e_itemAt w r (zgn G r)) rfl k12_358 rfl rfl rfl rfl ?_
    refine RQ_n ZR_ok 1 rfl trivial ?_
    rw [nI_add]
    refine RQ_n ZR_ok 1 rfl ⟨nI_in (by omega) (by omega), trivial⟩ ?_
    rw [nI_clamp (show mrow 2 k + (6 * r + zgn G r) < 2 ^ 31 by omega), show w.2.1 39 (mrow 2 k + (6 * r + zgn G r)) = C (6 * r + zgn G r) from hCi _ (by omega)]
    obtain ⟨f, hf⟩ : ∃ f, f = zlkf G true (zW0 G) C r := ⟨_, rfl⟩
    -- behind both
    have p100 : ∀ b : Bool, b = zSf G C r → RnQ ZR mX12_waysSimply (100, [some (.ref 0), some (.int (nI k)), some (.int (nI t)), some (.int (nI (b0 + zcnt q r))), some (.int (nI r)), some (.int (bI b)), none], [.int f], w) (fun r u => r = some (.int (nI (zwS G C (N.2.2 k) t))) ∧ u = w) := by
      intro b hbv
      have hqr : q r = (b && bt f t) := by rw [hq, hbv, hf]
      have nxt : ∀ c : Bool, c = q r → RnQ ZR mX12_waysSimply (122, [some (.ref 0), some (.int (nI k)), some (.int (nI t)), some (.int (nI (b0 + zcnt q r))), some (.int (nI r)), some (.int (bI b)), some (.int f)], [.int (bI c), .int (nI (b0 + zcnt q r))], w) (fun r u => r = some (.int (nI (zwS G C (N.2.2 k) t))) ∧ u = w) := by
        intro c hc
        refine RQ_n ZR_ok 4 rfl trivial ?_
        refine ih (by omega) () _ _ ⟨rfl, rfl, rfl, ?_, nIs r, trivial⟩ rfl
        rw [zcnt, ← hc]
        cases c with
        | false => show Value.int (nI (b0 + (zcnt q r + 0))) = Value.int (nI (b0 + zcnt q r) + nI 0); rw [nI_add]; rfl
        | true => show Value.int (nI (b0 + (zcnt q r + 1))) = Value.int (nI (b0 + zcnt q r) + nI 1); rw [nI_add]; rfl
      refine RQ_n ZR_ok 3 rfl trivial ?_
      cases b with
      | false =>
        refine RQ_b rfl (fun _ => ?_) (fun q => absurd rfl q)
        refine RQ_n ZR_ok 1 rfl trivial ?_
        exact nxt false (by rw [hqr]; rfl)
      | true =>
        refine RQ_b rfl (fun q => absurd (show (1 : Int32) = 0 from q) (by decide)) (fun _ => ?_)
        refine RQ_n ZR_ok 2 rfl trivial ?_
        refine RQ_s vX12_has (e_has w f (nI t)) rfl k12_237 rfl rfl rfl rfl ?_
        rw [hasB_bt _ (show t < 32 by omega)]
        rw [Bool.true_and] at hqr
        cases e : bt f t with
        | false =>
          refine RQ_b rfl (fun _ => ?_) (fun q => absurd rfl q)
          refine RQ_n ZR_ok 1 rfl trivial ?_
          exact nxt false (by rw [hqr, e])
        | true =>
          refine RQ_b rfl (fun q => absurd (show (1 : Int32) = 0 from q) (by decide)) (fun _ => ?_)
          refine RQ_n ZR_ok 2 rfl trivial ?_
          exact nxt true (by rw [hqr, e])
    have p68 : ∀ b : Bool, b = zSf G C r → RnQ ZR mX12_waysSimply (68, [some (.ref 0), some (.int (nI k)), some (.int (nI t)), some (.int (nI (b0 + zcnt q r))), some (.int (nI r)), none, none], [.int (bI b)], w) (fun r u => r = some (.int (nI (zwS G C (N.2.2 k) t))) ∧ u = w) := by
      intro b hbv
      refine RQ_n ZR_ok 4 rfl trivial ?_
      rw [hG.2.1.1]
      by_cases y : r = zgR G
      · refine RQ_b rfl (fun q => absurd ((zq_eq (a := r) (b := zgR G) rfl rfl (by omega) (by omega)).mpr y) q) (fun _ => ?_)
        refine RQ_n ZR_ok 5 rfl trivial ?_
        rw [hG.2.1.2.2, show (1 : Int32) <<< (nI (zgT G) &&& 31) = f by rw [hf]; unfold zlkf; rw [if_pos rfl, if_pos y]; rfl]
        exact p100 b hbv
      · refine RQ_b rfl (fun _ => ?_) (fun q => absurd ((zq_eq (a := r) (b := zgR G) rfl rfl (by omega) (by omega)).mp (Classical.not_not.mp q)) y)
        have hl6 : zgl G r < 6 := by have := hG.1.2.1 r (by omega); omega
        refine RQ_n ZR_ok 5 rfl trivial ?_
        refine RQ_n ZR_ok 1 rfl ⟨nI_in (by omega) (by omega), trivial⟩ ?_
        rw [nI_clamp (show r < 2 ^ 31 by omega), (hG.2.2.1 r (by omega)).1]
        refine RQ_n ZR_ok 1 rfl ⟨nI_in (by omega) (by omega), trivial⟩ ?_
        rw [nI_clamp (show zgl G r < 2 ^ 31 by omega), hW _ hl6, show zW0 G (zgl G r) = f by rw [hf]; unfold zlkf; rw [if_pos rfl, if_neg y]]
        exact p100 b hbv
    by_cases y : C (6 * r + zgn G r) = 0
    · refine RQ_b rfl (fun _ => ?_) (fun q => absurd y q)
      refine RQ_n ZR_ok 1 rfl trivial ?_
      exact p68 false (zcB_f (fun q => q y)).symm
    · refine RQ_b rfl (fun q => absurd q y) (fun _ => ?_)
      refine RQ_n ZR_ok 2 rfl trivial ?_
      exact p68 true (zcB_t y).symm
  have hv : zwS G C (N.2.2 k) t = (if (zsh G (N.2.2 k) t).isSome = true then 1 else 0) + zcnt q (zgR G + 1) := by rw [hq]; rfl
  have p23 : zsh G (N.2.2 k) t = none → RnQ ZR mX12_waysSimply (23, [some (.ref 0), some (.int (nI k)), some (.int (nI t)), none, none, none, none], [], s) (fun r u => r = some (.int (nI (zwS G C (N.2.2 k) t))) ∧ u = s) := by
    intro e
    rw [e] at hv
    refine RQ_n ZR_ok 1 rfl trivial ?_
    exact p24 0 (by omega) hv
  refine RQ_n ZR_ok 3 rfl trivial ?_
  rw [hG.2.1.2.2]
  refine RQ_b rfl (fun z => ?_) (fun z => ?_)
  · have z := (zq_le (a := zgT G) (b := t) rfl rfl (by omega) (by omega)).mp z
    exact p23 (by unfold zsh; rw [if_neg (by omega)])
  have z := (not_congr (zq_le (a := zgT G) (b := t) rfl rfl (by omega) (by omega))).mp z
  have hs : zsh G (N.2.2 k) t = N.2.2 k t := by unfold zsh; rw [if_pos (by omega)]
  refine RQ_n ZR_ok 4 rfl trivial ?_
  have hgb := m_goesBy s (kd := 2) (by omega) (show k < 200 by omega) (show t < 14 by omega)
  rw [hA.1.2.2 k hk t (by omega)] at hgb
  refine RQ_v vX12_goesBy hgb rfl k12_386 rfl rfl rfl rfl rfl ?_
  refine RQ_n ZR_ok 1 rfl trivial ?_
  cases eg : N.2.2 k t with
  | none =>
    exact RQ_b rfl (fun _ => p23 (hs.trans eg)) (fun q => absurd rfl q)
  | some x =>
    have hx : x < 200 := by
      rcases hF.2.2.1 _ hk t (by omega) with ⟨e, -⟩ | ⟨t', e, ht', -⟩
      · rw [e] at eg; cases eg
      · rw [e] at eg; have := Option.some.inj eg; omega
    refine RQ_b rfl (fun q => absurd (show nI x = -1 from q) (nI_m1 (by omega))) (fun _ => ?_)
    rw [hs, eg] at hv
    refine RQ_n ZR_ok 2 rfl trivial ?_
    exact p24 1 (by omega) hv
end MSim
