/-- a constant of a class of the JDK -/
theorem Rn_ldcw {S : Type} {Z : ZW S} {M : MD} {pc nx tg idx : Nat} {v w : Int32} {l : List (Option Value)} {st : List Value} {s sE : S} {r : Option Value} (hw : Cond.constant M.2.1.cls idx w ∈ zT) (hfe : zfe M pc = some (.ldc_w idx, 3, nx, tg, v)) (k : Rn Z M (nx, l, .int w :: st, s) r sE) : Rn Z M (pc, l, st, s) r sE := by
  refine Rn_pure (fun p l0 e R s0 m args below meth c H locs cells slots Q ls A dC dI dA ad hC hH hl ww => ?_) k
  obtain ⟨hd, rfl, -⟩ := zD hC hfe
  exact lv_ldcw hC.1 hC.2.1 hC.2.2.2.2.2.1 (hC.2.2.2.2.1 _ hw) hd ww
theorem kJ_265 : Cond.constant RJ6 265 1431655765 ∈ zT := zT_at 3067 (by decide +kernel) rfl
theorem kJ_266 : Cond.constant RJ6 266 858993459 ∈ zT := zT_at 3068 (by decide +kernel) rfl
theorem kJ_267 : Cond.constant RJ6 267 252645135 ∈ zT := zT_at 3069 (by decide +kernel) rfl
def ush (x y : Int32) : Int32 := (x.toUInt32 >>> (y.toUInt32 &&& Int32.toUInt32 31)).toInt32
/-- Integer.bitCount, as the JDK has it -/
def bc1 (x : Int32) : Int32 := x - (ush x 1 &&& 1431655765)
def bc2 (x : Int32) : Int32 := (x &&& 858993459) + (ush x 2 &&& 858993459)
def bc3 (x : Int32) : Int32 := (x + ush x 4) &&& 252645135
def bc4 (x : Int32) : Int32 := x + ush x 8
def bc5 (x : Int32) : Int32 := x + ush x 16
def bitC (x : Int32) : Int32 := bc5 (bc4 (bc3 (bc2 (bc1 x)))) &&& 63
set_option maxHeartbeats 4000000 in
theorem e_bitCount {S : Type} {Z : ZW S} (hZ : ZOk Z) (s : S) (x : Int32) : Ev Z mJ6_bitCount_0f7a4 [.int x] s (some (.int (bitC x))) s := by
  refine Ev_T vJ6_bitCount_0f7a4 rfl ?_
  refine Rn_n hZ 4 rfl trivial ?_
  refine Rn_ldcw kJ_265 rfl ?_
  refine Rn_n hZ 4 rfl trivial ?_
  refine Rn_ldcw kJ_266 rfl ?_
  refine Rn_n hZ 4 rfl trivial ?_
  refine Rn_ldcw kJ_266 rfl ?_
  refine Rn_n hZ 8 rfl trivial ?_
  refine Rn_ldcw kJ_267 rfl ?_
  refine Rn_n hZ 17 rfl trivial ?_
  exact Rn_iret rfl rfl
