/-! feed, the reference's side. -/
/-- byte j of a number, from the left -/
def byW (w : Int32) (j : Nat) : Int32 := ush w (nI (24 - 8 * j)) &&& 255
def byN (a b c d e : Int32) (k : Nat) : Int32 := byW (match k / 4 with
  | 0 => a
  | 1 => b
  | 2 => c
  | 3 => d
  | _ => e) (k % 4)
theorem sh_eq (x : Int32) {t : Int32} {n : Nat} (h : t = nI n) (hn : n ≤ 24) : (x >>> (t &&& 31)) &&& 255 = ush x (nI n) &&& 255 := by
  subst h
  apply b_ext
  intro i hi
  rw [b_and, b_and, b_255, b_sshr n (by omega) x hi]
  unfold ush
  rw [b_ushr n (by omega)]
  by_cases q : i < 8
  · rw [if_pos (by omega)]
  · simp [q]
theorem e_byteOf_0 (s : SM) (a b c d e : Int32) : Ev ZR mX12_byteOf [.int a, .int b, .int c, .int d, .int e, .int (nI 0)] s (some (.int (byN a b c d e 0))) s := by
  refine Ev_T vX12_byteOf rfl ?_
  refine Rn_n ZR_ok 2 rfl trivial ?_
  refine Rn_b rfl (fun z => absurd z (by show ¬ (_ ≤ _); decide)) (fun _ => ?_)
  refine Rn_n ZR_ok 14 rfl ⟨by decide, trivial⟩ ?_
  exact Rn_to (Rn_iret rfl rfl) (congrArg (fun y => some (Value.int y)) (sh_eq _ (n := 24) (by decide) (by decide))) rfl
theorem e_byteOf_1 (s : SM) (a b c d e : Int32) : Ev ZR mX12_byteOf [.int a, .int b, .int c, .int d, .int e, .int (nI 1)] s (some (.int (byN a b c d e 1))) s := by
  refine Ev_T vX12_byteOf rfl ?_
  refine Rn_n ZR_ok 2 rfl trivial ?_
  refine Rn_b rfl (fun z => absurd z (by show ¬ (_ ≤ _); decide)) (fun _ => ?_)
  refine Rn_n ZR_ok 14 rfl ⟨by decide, trivial⟩ ?_
  exact Rn_to (Rn_iret rfl rfl) (congrArg (fun y => some (Value.int y)) (sh_eq _ (n := 16) (by decide) (by decide))) rfl
theorem e_byteOf_2 (s : SM) (a b c d e : Int32) : Ev ZR mX12_byteOf [.int a, .int b, .int c, .int d, .int e, .int (nI 2)] s (some (.int (byN a b c d e 2))) s := by
  refine Ev_T vX12_byteOf rfl ?_
  refine Rn_n ZR_ok 2 rfl trivial ?_
  refine Rn_b rfl (fun z => absurd z (by show ¬ (_ ≤ _); decide)) (fun _ => ?_)
  refine Rn_n ZR_ok 14 rfl ⟨by decide, trivial⟩ ?_
  exact Rn_to (Rn_iret rfl rfl) (congrArg (fun y => some (Value.int y)) (sh_eq _ (n := 8) (by decide) (by decide))) rfl
theorem e_byteOf_3 (s : SM) (a b c d e : Int32) : Ev ZR mX12_byteOf [.int a, .int b, .int c, .int d, .int e, .int (nI 3)] s (some (.int (byN a b c d e 3))) s := by
  refine Ev_T vX12_byteOf rfl ?_
  refine Rn_n ZR_ok 2 rfl trivial ?_
  refine Rn_b rfl (fun z => absurd z (by show ¬ (_ ≤ _); decide)) (fun _ => ?_)
  refine Rn_n ZR_ok 14 rfl ⟨by decide, trivial⟩ ?_
  exact Rn_to (Rn_iret rfl rfl) (congrArg (fun y => some (Value.int y)) (sh_eq _ (n := 0) (by decide) (by decide))) rfl
theorem e_byteOf_4 (s : SM) (a b c d e : Int32) : Ev ZR mX12_byteOf [.int a, .int b, .int c, .int d, .int e, .int (nI 4)] s (some (.int (byN a b c d e 4))) s := by
  refine Ev_T vX12_byteOf rfl ?_
  refine Rn_n ZR_ok 2 rfl trivial ?_
  refine Rn_b rfl (fun _ => ?_) (fun z => absurd (by show _ ≤ _; decide) z)
  refine Rn_n ZR_ok 2 rfl trivial ?_
  refine Rn_b rfl (fun z => absurd z (by show ¬ (_ ≤ _); decide)) (fun _ => ?_)
  refine Rn_n ZR_ok 14 rfl ⟨by decide, trivial⟩ ?_
  exact Rn_to (Rn_iret rfl rfl) (congrArg (fun y => some (Value.int y)) (sh_eq _ (n := 24) (by decide) (by decide))) rfl
theorem e_byteOf_5 (s : SM) (a b c d e : Int32) : Ev ZR mX12_byteOf [.int a, .int b, .int c, .int d, .int e, .int (nI 5)] s (some (.int (byN a b c d e 5))) s := by
  refine Ev_T vX12_byteOf rfl ?_
  refine Rn_n ZR_ok 2 rfl trivial ?_
  refine Rn_b rfl (fun _ => ?_) (fun z => absurd (by show _ ≤ _; decide) z)
  refine Rn_n ZR_ok 2 rfl trivial ?_
  refine Rn_b rfl (fun z => absurd z (by show ¬ (_ ≤ _); decide)) (fun _ => ?_)
  refine Rn_n ZR_ok 14 rfl ⟨by decide, trivial⟩ ?_
  exact Rn_to (Rn_iret rfl rfl) (congrArg (fun y => some (Value.int y)) (sh_eq _ (n := 16) (by decide) (by decide))) rfl
theorem e_byteOf_6 (s : SM) (a b c d e : Int32) : Ev ZR mX12_byteOf [.int a, .int b, .int c, .int d, .int e, .int (nI 6)] s (some (.int (byN a b c d e 6))) s := by
  refine Ev_T vX12_byteOf rfl ?_
  refine Rn_n ZR_ok 2 rfl trivial ?_
  refine Rn_b rfl (fun _ => ?_) (fun z => absurd (by show _ ≤ _; decide) z)
  refine Rn_n ZR_ok 2 rfl trivial ?_
  refine Rn_b rfl (fun z => absurd z (by show ¬ (_ ≤ _); decide)) (fun _ => ?_)
  refine Rn_n ZR_ok 14 rfl ⟨by decide, trivial⟩ ?_
  exact Rn_to (Rn_iret rfl rfl) (congrArg (fun y => some (Value.int y)) (sh_eq _ (n := 8) (by decide) (by decide))) rfl
theorem e_byteOf_7 (s : SM) (a b c d e : Int32) : Ev ZR mX12_byteOf [.int a, .int b, .int c, .int d, .int e, .int (nI 7)] s (some (.int (byN a b c d e 7))) s := by
  refine Ev_T vX12_byteOf rfl ?_
  refine Rn_n ZR_ok 2 rfl trivial ?_
  refine Rn_b rfl (fun _ => ?_) (fun z => absurd (by show _ ≤ _; decide) z)
  refine Rn_n ZR_ok 2 rfl trivial ?_
  refine Rn_b rfl (fun z => absurd z (by show ¬ (_ ≤ _); decide)) (fun _ => ?_)
  refine Rn_n ZR_ok 14 rfl ⟨by decide, trivial⟩ ?_
  exact Rn_to (Rn_iret rfl rfl) (congrArg (fun y => some (Value.int y)) (sh_eq _ (n := 0) (by decide) (by decide))) rfl
theorem e_byteOf_8 (s : SM) (a b c d e : Int32) : Ev ZR mX12_byteOf [.int a, .int b, .int c, .int d, .int e, .int (nI 8)] s (some (.int (byN a b c d e 8))) s := by
  refine Ev_T vX12_byteOf rfl ?_
  refine Rn_n ZR_ok 2 rfl trivial ?_
  refine Rn_b rfl (fun _ => ?_) (fun z => absurd (by show _ ≤ _; decide) z)
  refine Rn_n ZR_ok 2 rfl trivial ?_
  refine Rn_b rfl (fun _ => ?_) (fun z => absurd (by show _ ≤ _; decide) z)
  refine Rn_n ZR_ok 2 rfl trivial ?_
  refine Rn_b rfl (fun z => absurd z (by show ¬ (_ ≤ _); decide)) (fun _ => ?_)
  refine Rn_n ZR_ok 14 rfl ⟨by decide, trivial⟩ ?_
  exact Rn_to (Rn_iret rfl rfl) (congrArg (fun y => some (Value.int y)) (sh_eq _ (n := 24) (by decide) (by decide))) rfl
theorem e_byteOf_9 (s : SM) (a b c d e : Int32) : Ev ZR mX12_byteOf [.int a, .int b, .int c, .int d, .int e, .int (nI 9)] s (some (.int (byN a b c d e 9))) s := by
  refine Ev_T vX12_byteOf rfl ?_
  refine Rn_n ZR_ok 2 rfl trivial ?_
  refine Rn_b rfl (fun _ => ?_) (fun z => absurd (by show _ ≤ _; decide) z)
  refine Rn_n ZR_ok 2 rfl trivial ?_
  refine Rn_b rfl (fun _ => ?_) (fun z => absurd (by show _ ≤ _; decide) z)
  refine Rn_n ZR_ok 2 rfl trivial ?_
  refine Rn_b rfl (fun z => absurd z (by show ¬ (_ ≤ _); decide)) (fun _ => ?_)
  refine Rn_n ZR_ok 14 rfl ⟨by decide, trivial⟩ ?_
  exact Rn_to (Rn_iret rfl rfl) (congrArg (fun y => some (Value.int y)) (sh_eq _ (n := 16) (by decide) (by decide))) rfl
theorem e_byteOf_10 (s : SM) (a b c d e : Int32) : Ev ZR mX12_byteOf [.int a, .int b, .int c, .int d, .int e, .int (nI 10)] s (some (.int (byN a b c d e 10))) s := by
  refine Ev_T vX12_byteOf rfl ?_
  refine Rn_n ZR_ok 2 rfl trivial ?_
  refine Rn_b rfl (fun _ => ?_) (fun z => absurd (by show _ ≤ _; decide) z)
  refine Rn_n ZR_ok 2 rfl trivial ?_
  refine Rn_b rfl (fun _ => ?_) (fun z => absurd (by show _ ≤ _; decide) z)
  refine Rn_n ZR_ok 2 rfl trivial ?_
  refine Rn_b rfl (fun z => absurd z (by show ¬ (_ ≤ _); decide)) (fun _ => ?_)
  refine Rn_n ZR_ok 14 rfl ⟨by decide, trivial⟩ ?_
  exact Rn_to (Rn_iret rfl rfl) (congrArg (fun y => some (Value.int y)) (sh_eq _ (n := 8) (by decide) (by decide))) rfl
theorem e_byteOf_11 (s : SM) (a b c d e : Int32) : Ev ZR mX12_byteOf [.int a, .int b, .int c, .int d, .int e, .int (nI 11)] s (some (.int (byN a b c d e 11))) s := by
  refine Ev_T vX12_byteOf rfl ?_
  refine Rn_n ZR_ok 2 rfl trivial ?_
  refine Rn_b rfl (fun _ => ?_) (fun z => absurd (by show _ ≤ _; decide) z)
  refine Rn_n ZR_ok 2 rfl trivial ?_
  refine Rn_b rfl (fun _ => ?_) (fun z => absurd (by show _ ≤ _; decide) z)
  refine Rn_n ZR_ok 2 rfl trivial ?_
  refine Rn_b rfl (fun z => absurd z (by show ¬ (_ ≤ _); decide)) (fun _ => ?_)
  refine Rn_n ZR_ok 14 rfl ⟨by decide, trivial⟩ ?_
  exact Rn_to (Rn_iret rfl rfl) (congrArg (fun y => some (Value.int y)) (sh_eq _ (n := 0) (by decide) (by decide))) rfl
theorem e_byteOf_12 (s : SM) (a b c d e : Int32) : Ev ZR mX12_byteOf [.int a, .int b, .int c, .int d, .int e, .int (nI 12)] s (some (.int (byN a b c d e 12))) s := by
  refine Ev_T vX12_byteOf rfl ?_
  refine Rn_n ZR_ok 2 rfl trivial ?_
  refine Rn_b rfl (fun _ => ?_) (fun z => absurd (by show _ ≤ _; decide) z)
  refine Rn_n ZR_ok 2 rfl trivial ?_
  refine Rn_b rfl (fun _ => ?_) (fun z => absurd (by show _ ≤ _; decide) z)
  refine Rn_n ZR_ok 2 rfl trivial ?_
  refine Rn_b rfl (fun _ => ?_) (fun z => absurd (by show _ ≤ _; decide) z)
  refine Rn_n ZR_ok 2 rfl trivial ?_
  refine Rn_b rfl (fun z => absurd z (by show ¬ (_ ≤ _); decide)) (fun _ => ?_)
  refine Rn_n ZR_ok 14 rfl ⟨by decide, trivial⟩ ?_
  exact Rn_to (Rn_iret rfl rfl) (congrArg (fun y => some (Value.int y)) (sh_eq _ (n := 24) (by decide) (by decide))) rfl
theorem e_byteOf_13 (s : SM) (a b c d e : Int32) : Ev ZR mX12_byteOf [.int a, .int b, .int c, .int d, .int e, .int (nI 13)] s (some (.int (byN a b c d e 13))) s := by
  refine Ev_T vX12_byteOf rfl ?_
  refine Rn_n ZR_ok 2 rfl trivial ?_
  refine Rn_b rfl (fun _ => ?_) (fun z => absurd (by show _ ≤ _; decide) z)
  refine Rn_n ZR_ok 2 rfl trivial ?_
  refine Rn_b rfl (fun _ => ?_) (fun z => absurd (by show _ ≤ _; decide) z)
  refine Rn_n ZR_ok 2 rfl trivial ?_
  refine Rn_b rfl (fun _ => ?_) (fun z => absurd (by show _ ≤ _; decide) z)
  refine Rn_n ZR_ok 2 rfl trivial ?_
  refine Rn_b rfl (fun z => absurd z (by show ¬ (_ ≤ _); decide)) (fun _ => ?_)
  refine Rn_n ZR_ok 14 rfl ⟨by decide, trivial⟩ ?_
  exact Rn_to (Rn_iret rfl rfl) (congrArg (fun y => some (Value.int y)) (sh_eq _ (n := 16) (by decide) (by decide))) rfl
theorem e_byteOf_14 (s : SM) (a b c d e : Int32) : Ev ZR mX12_byteOf [.int a, .int b, .int c, .int d, .int e, .int (nI 14)] s (some (.int (byN a b c d e 14))) s := by
  refine Ev_T vX12_byteOf rfl ?_
  refine Rn_n ZR_ok 2 rfl trivial ?_
  refine Rn_b rfl (fun _ => ?_) (fun z => absurd (by show _ ≤ _; decide) z)
  refine Rn_n ZR_ok 2 rfl trivial ?_
  refine Rn_b rfl (fun _ => ?_) (fun z => absurd (by show _ ≤ _; decide) z)
  refine Rn_n ZR_ok 2 rfl trivial ?_
  refine Rn_b rfl (fun _ => ?_) (fun z => absurd (by show _ ≤ _; decide) z)
  refine Rn_n ZR_ok 2 rfl trivial ?_
  refine Rn_b rfl (fun z => absurd z (by show ¬ (_ ≤ _); decide)) (fun _ => ?_)
  refine Rn_n ZR_ok 14 rfl ⟨by decide, trivial⟩ ?_
  exact Rn_to (Rn_iret rfl rfl) (congrArg (fun y => some (Value.int y)) (sh_eq _ (n := 8) (by decide) (by decide))) rfl
theorem e_byteOf_15 (s : SM) (a b c d e : Int32) : Ev ZR mX12_byteOf [.int a, .int b, .int c, .int d, .int e, .int (nI 15)] s (some (.int (byN a b c d e 15))) s := by
  refine Ev_T vX12_byteOf rfl ?_
  refine Rn_n ZR_ok 2 rfl trivial ?_
  refine Rn_b rfl (fun _ => ?_) (fun z => absurd (by show _ ≤ _; decide) z)
  refine Rn_n ZR_ok 2 rfl trivial ?_
  refine Rn_b rfl (fun _ => ?_) (fun z => absurd (by show _ ≤ _; decide) z)
  refine Rn_n ZR_ok 2 rfl trivial ?_
  refine Rn_b rfl (fun _ => ?_) (fun z => absurd (by show _ ≤ _; decide) z)
  refine Rn_n ZR_ok 2 rfl trivial ?_
  refine Rn_b rfl (fun z => absurd z (by show ¬ (_ ≤ _); decide)) (fun _ => ?_)
  refine Rn_n ZR_ok 14 rfl ⟨by decide, trivial⟩ ?_
  exact Rn_to (Rn_iret rfl rfl) (congrArg (fun y => some (Value.int y)) (sh_eq _ (n := 0) (by decide) (by decide))) rfl
theorem e_byteOf_16 (s : SM) (a b c d e : Int32) : Ev ZR mX12_byteOf [.int a, .int b, .int c, .int d, .int e, .int (nI 16)] s (some (.int (byN a b c d e 16))) s := by
  refine Ev_T vX12_byteOf rfl ?_
  refine Rn_n ZR_ok 2 rfl trivial ?_
  refine Rn_b rfl (fun _ => ?_) (fun z => absurd (by show _ ≤ _; decide) z)
  refine Rn_n ZR_ok 2 rfl trivial ?_
  refine Rn_b rfl (fun _ => ?_) (fun z => absurd (by show _ ≤ _; decide) z)
  refine Rn_n ZR_ok 2 rfl trivial ?_
  refine Rn_b rfl (fun _ => ?_) (fun z => absurd (by show _ ≤ _; decide) z)
  refine Rn_n ZR_ok 2 rfl trivial ?_
  refine Rn_b rfl (fun _ => ?_) (fun z => absurd (by show _ ≤ _; decide) z)
  refine Rn_n ZR_ok 13 rfl ⟨by decide, trivial⟩ ?_
  exact Rn_to (Rn_iret rfl rfl) (congrArg (fun y => some (Value.int y)) (sh_eq _ (n := 24) (by decide) (by decide))) rfl
theorem e_byteOf_17 (s : SM) (a b c d e : Int32) : Ev ZR mX12_byteOf [.int a, .int b, .int c, .int d, .int e, .int (nI 17)] s (some (.int (byN a b c d e 17))) s := by
  refine Ev_T vX12_byteOf rfl ?_
  refine Rn_n ZR_ok 2 rfl trivial ?_
  refine Rn_b rfl (fun _ => ?_) (fun z => absurd (by show _ ≤ _; decide) z)
  refine Rn_n ZR_ok 2 rfl trivial ?_
  refine Rn_b rfl (fun _ => ?_) (fun z => absurd (by show _ ≤ _; decide) z)
  refine Rn_n ZR_ok 2 rfl trivial ?_
  refine Rn_b rfl (fun _ => ?_) (fun z => absurd (by show _ ≤ _; decide) z)
  refine Rn_n ZR_ok 2 rfl trivial ?_
  refine Rn_b rfl (fun _ => ?_) (fun z => absurd (by show _ ≤ _; decide) z)
  refine Rn_n ZR_ok 13 rfl ⟨by decide, trivial⟩ ?_
  exact Rn_to (Rn_iret rfl rfl) (congrArg (fun y => some (Value.int y)) (sh_eq _ (n := 16) (by decide) (by decide))) rfl
theorem e_byteOf_18 (s : SM) (a b c d e : Int32) : Ev ZR mX12_byteOf [.int a, .int b, .int c, .int d, .int e, .int (nI 18)] s (some (.int (byN a b c d e 18))) s := by
  refine Ev_T vX12_byteOf rfl ?_
  refine Rn_n ZR_ok 2 rfl trivial ?_
  refine Rn_b rfl (fun _ => ?_) (fun z => absurd (by show _ ≤ _; decide) z)
  refine Rn_n ZR_ok 2 rfl trivial ?_
  refine Rn_b rfl (fun _ => ?_) (fun z => absurd (by show _ ≤ _; decide) z)
  refine Rn_n ZR_ok 2 rfl trivial ?_
  refine Rn_b rfl (fun _ => ?_) (fun z => absurd (by show _ ≤ _; decide) z)
  refine Rn_n ZR_ok 2 rfl trivial ?_
  refine Rn_b rfl (fun _ => ?_) (fun z => absurd (by show _ ≤ _; decide) z)
  refine Rn_n ZR_ok 13 rfl ⟨by decide, trivial⟩ ?_
  exact Rn_to (Rn_iret rfl rfl) (congrArg (fun y => some (Value.int y)) (sh_eq _ (n := 8) (by decide) (by decide))) rfl
theorem e_byteOf_19 (s : SM) (a b c d e : Int32) : Ev ZR mX12_byteOf [.int a, .int b, .int c, .int d, .int e, .int (nI 19)] s (some (.int (byN a b c d e 19))) s := by
  refine Ev_T vX12_byteOf rfl ?_
  refine Rn_n ZR_ok 2 rfl trivial ?_
  refine Rn_b rfl (fun _ => ?_) (fun z => absurd (by show _ ≤ _; decide) z)
  refine Rn_n ZR_ok 2 rfl trivial ?_
  refine Rn_b rfl (fun _ => ?_) (fun z => absurd (by show _ ≤ _; decide) z)
  refine Rn_n ZR_ok 2 rfl trivial ?_
  refine Rn_b rfl (fun _ => ?_) (fun z => absurd (by show _ ≤ _; decide) z)
  refine Rn_n ZR_ok 2 rfl trivial ?_
  refine Rn_b rfl (fun _ => ?_) (fun z => absurd (by show _ ≤ _; decide) z)
  refine Rn_n ZR_ok 13 rfl ⟨by decide, trivial⟩ ?_
  exact Rn_to (Rn_iret rfl rfl) (congrArg (fun y => some (Value.int y)) (sh_eq _ (n := 0) (by decide) (by decide))) rfl
theorem e_byteOf (s : SM) (a b c d e : Int32) (k : Nat) (h : k < 20) : Ev ZR mX12_byteOf [.int a, .int b, .int c, .int d, .int e, .int (nI k)] s (some (.int (byN a b c d e k))) s := by
  match k, h with
  | 0, _ => exact e_byteOf_0 s a b c d e
  | 1, _ => exact e_byteOf_1 s a b c d e
  | 2, _ => exact e_byteOf_2 s a b c d e
  | 3, _ => exact e_byteOf_3 s a b c d e
  | 4, _ => exact e_byteOf_4 s a b c d e
  | 5, _ => exact e_byteOf_5 s a b c d e
  | 6, _ => exact e_byteOf_6 s a b c d e
  | 7, _ => exact e_byteOf_7 s a b c d e
  | 8, _ => exact e_byteOf_8 s a b c d e
  | 9, _ => exact e_byteOf_9 s a b c d e
  | 10, _ => exact e_byteOf_10 s a b c d e
  | 11, _ => exact e_byteOf_11 s a b c d e
  | 12, _ => exact e_byteOf_12 s a b c d e
  | 13, _ => exact e_byteOf_13 s a b c d e
  | 14, _ => exact e_byteOf_14 s a b c d e
  | 15, _ => exact e_byteOf_15 s a b c d e
  | 16, _ => exact e_byteOf_16 s a b c d e
  | 17, _ => exact e_byteOf_17 s a b c d e
  | 18, _ => exact e_byteOf_18 s a b c d e
  | 19, _ => exact e_byteOf_19 s a b c d e
  | k + 20, h => exact absurd h (by omega)
/-- what stands on a row of bytes when those that aren't 0 come behind -/
def apN (f : Nat → Int32) (t : Nat → Int32) (n : Nat) : Nat → (Nat → Int32) × Nat
  | 0 => (t, n)
  | k + 1 => if f k = 0 then apN f t n k else (upd (apN f t n k).1 (apN f t n k).2 (f k), (apN f t n k).2 + 1)
def cnN (f : Nat → Int32) : Nat → Nat
  | 0 => 0
  | k + 1 => if f k = 0 then cnN f k else cnN f k + 1
theorem cnN_le (f : Nat → Int32) : ∀ k, cnN f k ≤ k
  | 0 => Nat.le_refl 0
  | k + 1 => by have := cnN_le f k; unfold cnN; split <;> omega
theorem apN_n (f t : Nat → Int32) (n : Nat) : ∀ k, (apN f t n k).2 = n + cnN f k
  | 0 => rfl
  | k + 1 => by
    have ih := apN_n f t n k
    unfold apN cnN
    split
    · exact ih
    · show (apN f t n k).2 + 1 = _; omega
theorem cnN_mono (f : Nat → Int32) : ∀ {a b : Nat}, a ≤ b → cnN f a ≤ cnN f b := by
  intro a b h
  induction h with
  | refl => exact Nat.le_refl _
  | step h ih => rename_i m; refine Nat.le_trans ih ?_; rw [show cnN f (m + 1) = if f m = 0 then cnN f m else cnN f m + 1 from rfl]; split <;> omega
def setA (f : Nat → Nat → Int32) (a : Nat) (t : Nat → Int32) : Nat → Nat → Int32 := fun b => bif Nat.beq b a then t else f b
theorem updA_setA {f : Nat → Nat → Int32} {a j : Nat} {t : Nat → Int32} {x : Int32} : updA (setA f a t) a j x = setA f a (upd t j x) := by
  funext b
  unfold updA setA
  rw [Nat.beq_refl]
  cases Nat.beq b a <;> rfl
theorem setA_self {f : Nat → Nat → Int32} {a : Nat} : setA f a (f a) = f := by
  funext b
  unfold setA
  cases h : Nat.beq b a with
  | true => rw [Nat.eq_of_beq_eq_true h]; rfl
  | false => rfl
theorem updS_updS {f : Nat → Int32} {k : Nat} {x y : Int32} : updS (updS f k x) k y = updS f k y := by
  funext b
  unfold updS
  cases Nat.beq b k <;> rfl
theorem updS_self {f : Nat → Int32} {k : Nat} : updS f k (f k) = f := by
  funext b
  unfold updS
  cases h : Nat.beq b k with
  | true => rw [Nat.eq_of_beq_eq_true h]; rfl
  | false => rfl
/-- the reference's state with another tape -/
def mtp (s : SM) (t : (Nat → Int32) × Nat) : SM := (updS s.1 2 (nI t.2), setA s.2.1 1 t.1, s.2.2)
set_option maxHeartbeats 4000000 in
theorem m_feed (s : SM) (a b c d e : Int32) (n : Nat) (hn : s.1 2 = nI n) (hn2 : n ≤ 240) : Ev ZR mX12_feed [.ref 0, .int a, .int b, .int c, .int d, .int e] s (some (.int (if n + cnN (byN a b c d e) 20 ≤ 240 then nI (n + cnN (byN a b c d e) 20) else -1))) (if n + cnN (byN a b c d e) 20 ≤ 240 then mtp s (apN (byN a b c d e) (s.2.1 1) n 20) else s) := by
  generalize hf : byN a b c d e = f
  have hb : ∀ (s1 : SM) (k : Nat), k < 20 → Ev ZR mX12_byteOf [.int a, .int b, .int c, .int d, .int e, .int (nI k)] s1 (some (.int (f k))) s1 := fun s1 k h => by rw [← hf]; exact e_byteOf s1 a b c d e k h
  generalize hr : (some (Value.int (if n + cnN f 20 ≤ 240 then nI (n + cnN f 20) else -1)) : Option Value) = r
  generalize hE : (if n + cnN f 20 ≤ 240 then mtp s (apN f (s.2.1 1) n 20) else s) = sE
  refine Ev_V vX12_feed rfl ?_
  have loop2 : n + cnN f 20 ≤ 240 → ∀ (dd k : Nat) (x7 : Int32) (y : Option Value) (s1 : SM), k + dd = 20 → x7 = nI k → s1 = mtp s (apN f (s.2.1 1) n k) → Rn ZR mX12_feed (62, [some (.ref 0), some (.int a), some (.int b), some (.int c), some (.int d), some (.int e), some (.int (nI (cnN f 20))), some (.int x7), y], [], s1) r sE := by
    intro hle dd
    induction dd with
    | zero =>
      intro k x7 y s1 hk e7 es
      subst e7; subst es
      have hk20 : k = 20 := by omega
      subst hk20
      refine Rn_n ZR_ok 2 rfl trivial ?_
      refine Rn_b rfl (fun _ => ?_) (fun z => absurd (by show _ ≤ _; decide) z)
      refine Rn_n ZR_ok 2 rfl trivial ?_
      rw [← hr, ← hE, if_pos hle, if_pos hle]
      exact Rn_to (Rn_iret rfl rfl) (by show some (Value.int (nI (apN f (s.2.1 1) n 20).2)) = _; rw [apN_n]) rfl
    | succ dd ih =>
      intro k x7 y s1 hk e7 es
      subst e7; subst es
      refine Rn_n ZR_ok 2 rfl trivial ?_
      refine Rn_b rfl (fun z => absurd z (nI_ge (b := 20) (by omega) (by decide))) (fun _ => ?_)
      refine Rn_n ZR_ok 6 rfl trivial ?_
      refine Rn_S vX12_byteOf (hb _ k (by omega)) rfl k12_163 rfl rfl rfl rfl ?_
      refine Rn_n ZR_ok 2 rfl trivial ?_
      refine Rn_b rfl (fun z => ?_) (fun z => ?_)
      · have z : f k = 0 := z
        refine Rn_n ZR_ok 2 rfl trivial ?_
        exact ih (k + 1) _ _ _ (by omega) (nI_1 k) (by show mtp s (apN f (s.2.1 1) n k) = mtp s (apN f (s.2.1 1) n (k + 1)); rw [apN, if_pos z])
      · have z : ¬ f k = 0 := z
        have hm := cnN_mono f (show k + 1 ≤ 20 by omega)
        have hc : cnN f (k + 1) = cnN f k + 1 := by rw [cnN, if_neg z]
        refine Rn_n ZR_ok 14 rfl ⟨by show vp_in (nI (apN f (s.2.1 1) n k).2) 240; rw [apN_n]; exact vp_in_nI (by omega) (by decide), trivial⟩ ?_
        refine ih (k + 1) _ _ _ (by omega) (nI_1 k) ?_
        show (updS (updS s.1 2 (nI (apN f (s.2.1 1) n k).2)) 2 (nI (apN f (s.2.1 1) n k).2 + 1), updA (setA s.2.1 1 (apN f (s.2.1 1) n k).1) 1 (nI (apN f (s.2.1 1) n k).2).toNatClampNeg (f k), s.2.2) = mtp s (apN f (s.2.1 1) n (k + 1))
        rw [updS_updS, updA_setA, nI_1, nI_clamp (by rw [apN_n]; omega)]
        rw [apN, if_neg z]
        rfl
  have loop1 : ∀ (dd k : Nat) (x6 x7 : Int32), k + dd = 20 → x6 = nI (cnN f k) → x7 = nI k → Rn ZR mX12_feed (6, [some (.ref 0), some (.int a), some (.int b), some (.int c), some (.int d), some (.int e), some (.int x6), some (.int x7), none], [], s) r sE := by
    intro dd
    induction dd with
    | zero =>
      intro k x6 x7 hk e6 e7
      subst e6; subst e7
      have hk20 : k = 20 := by omega
      subst hk20
      refine Rn_n ZR_ok 2 rfl trivial ?_
      refine Rn_b rfl (fun _ => ?_) (fun z => absurd (by show _ ≤ _; decide) z)
      refine Rn_n ZR_ok 5 rfl trivial ?_
      have hcl := cnN_le f 20
      have hsum : s.1 2 + nI (cnN f 20) = nI (n + cnN f 20) := by rw [hn, nI_add]
      refine Rn_b rfl (fun z => ?_) (fun z => ?_)
      · have z : s.1 2 + nI (cnN f 20) ≤ 240 := z
        rw [hsum] at z
        have hle : n + cnN f 20 ≤ 240 := (nI_leI (b := 240) (by omega) (by decide)).mp z
        refine Rn_n ZR_ok 2 rfl trivial ?_
        refine loop2 hle 20 0 _ _ _ (by omega) rfl ?_
        show s = mtp s (s.2.1 1, n)
        unfold mtp
        rw [← hn, updS_self, setA_self]
      · have z : ¬ s.1 2 + nI (cnN f 20) ≤ 240 := z
        rw [hsum] at z
        have hle : ¬ n + cnN f 20 ≤ 240 := fun q => z (nI_le q (by decide))
        refine Rn_n ZR_ok 1 rfl trivial ?_
        rw [← hr, ← hE, if_neg hle, if_neg hle]
        exact Rn_iret rfl rfl
    | succ dd ih =>
      intro k x6 x7 hk e6 e7
      subst e6; subst e7
      refine Rn_n ZR_ok 2 rfl trivial ?_
      refine Rn_b rfl (fun z => absurd z (nI_ge (b := 20) (by omega) (by decide))) (fun _ => ?_)
      refine Rn_n ZR_ok 7 rfl trivial ?_
      refine Rn_S vX12_byteOf (hb s k (by omega)) rfl k12_163 rfl rfl rfl rfl ?_
      refine Rn_b rfl (fun z => ?_) (fun z => ?_)
      · have z : f k = 0 := z
        refine Rn_n ZR_ok 5 rfl trivial ?_
        exact ih (k + 1) _ _ (by omega) (by show nI (cnN f k) + 0 = _; rw [cnN, if_pos z]; exact Int32.add_zero _) (nI_1 k)
      · have z : ¬ f k = 0 := z
        refine Rn_n ZR_ok 6 rfl trivial ?_
        exact ih (k + 1) _ _ (by omega) (by show nI (cnN f k) + 1 = _; rw [cnN, if_neg z]; exact nI_1 _) (nI_1 k)
  refine Rn_n ZR_ok 4 rfl trivial ?_
  exact loop1 20 0 _ _ (by omega) rfl rfl
