/-! The invariant itself. -/
def TPc (n : Nat) (f : Nat → Int32) (u : SX) (s : SM) : Prop := (u.1 1 1 = nI n ∧ u.2.1 2 = f) ∧ (s.1 2 = nI n ∧ s.2.1 1 = f) ∧ n ≤ 240 ∧ ∀ j, j < n → f j ≠ -1
def Snn (m : Nat) (ln : Nat → Nat) (yy : Nat → Nat → Nat) (u : SX) (s : SM) : Prop := SnX m ln yy u ∧ SnM m ln yy s
def IvN (u : SX) (s : SM) : Prop := (u.1 3 0 = 0 ∧ u.1 3 1 = 0 ∧ u.1 3 2 = 0 ∧ u.1 3 3 = 0) ∧ (s.1 15 = 0 ∧ s.1 16 = 0 ∧ s.1 17 = 0 ∧ s.1 23 = 0) ∧ (u.1 23 0 = 0 ∧ s.1 37 = 0 ∧ u.1 23 1 = 0 ∧ s.1 77 = 0) ∧ XB u ∧ WyX u
/-- the image -/
def ImC (R : Nat) (u : SX) (s : SM) : Prop := (u.1 23 1 = 0 ∧ s.1 77 = 0) ∨ (u.1 23 1 = 1 ∧ s.1 77 = 1 ∧ CMk R (u.1 23 2) (s.1 75) ∧ u.1 23 3 = s.1 76)
def IvG (G : ZGT) (nb : Nat → Int32) (sl : Nat → Nat) (a : Nat) (ac : Nat → Nat) (ko kp : Nat → Int32) (u : SX) (s : SM) : Prop :=
  (X3 G (zos G) u ∧ RGr G (zos G) s) ∧ (TXc G nb sl u ∧ TMc G nb sl s) ∧ TrX G u ∧ (CMk (zgR G) (u.1 3 3) (s.1 23) ∧ u.1 3 4 = s.1 24) ∧ (HsX a ac u ∧ HsM a ko kp s ∧ HsR (zgR G) (zgT G) a ac ko kp (s.1 23) (s.1 24)) ∧ ImC (zgR G) u s
def Iv0 (u : SX) (s : SM) : Prop := (∃ n f, TPc n f u s) ∧ (∃ m ln yy, Snn m ln yy u s) ∧ (IvN u s ∨ ∃ G nb sl a ac ko kp, IvG G nb sl a ac ko kp u s)
theorem Iv0.n {u : SX} {s : SM} (h : Iv0 u s) : u.2.2.2.2.1 ≤ 600 := by
  rcases h.2.2 with h | ⟨G, nb, sl, a, ac, ko, kp, h⟩
  · exact h.2.2.2.1.n
  · exact h.1.1.b.n
/-- all that the invariant asks of the class is as it was, but the kinds and the trees -/
def frI (u v : SX) : Prop := (v.1 1 1 = u.1 1 1 ∧ v.1 11 0 = u.1 11 0 ∧ (∀ j, v.1 3 j = u.1 3 j) ∧ ∀ j, v.1 23 j = u.1 23 j) ∧ ∀ a, a ∈ [2, 7, 9, 10, 12, 13, 24] → v.2.1 a = u.2.1 a
theorem frI.rf {u : SX} : frI u u := ⟨⟨rfl, rfl, fun _ => rfl, fun _ => rfl⟩, fun _ _ => rfl⟩
theorem frZ.i {u v : SX} (f : frZ u v) : frI u v := ⟨⟨f.1 1 1 (by omega), f.1 11 0 (by omega), fun j => f.1 3 j (by omega), fun j => f.1 23 j (by omega)⟩, fun a ha => f.2.1 a (by simp only [List.mem_cons, List.not_mem_nil, or_false] at ha; omega)⟩
theorem frZs.i {u v : SX} (f : frZs u v) : frI u v := ⟨⟨f.1 1 1 (by omega), f.1 11 0 (by omega), fun j => f.1 3 j (by omega), fun j => f.1 23 j (by omega)⟩, fun a ha => f.2.1 a (by simp only [List.mem_cons, List.not_mem_nil, or_false] at ha; omega) (by simp only [List.mem_cons, List.not_mem_nil, or_false] at ha; omega)⟩
theorem frDw.i {u v : SX} (f : frDw u v) : frI u v := ⟨⟨f.1 1 1 (by decide), f.1 11 0 (by decide), fun j => f.1 3 j (by simp), fun j => f.1 23 j (by simp)⟩, fun a ha => f.2.1 a (by simp only [List.mem_cons, List.not_mem_nil, or_false] at ha; omega)⟩
theorem frTz.i {u v : SX} (f : frTz u v) : frI u v := ⟨⟨f.1 1 1 (by decide), f.1 11 0 (by decide), fun j => f.1 3 j (by simp), fun j => f.1 23 j (by simp)⟩, fun a ha => f.2.1 a (by simp only [List.mem_cons, List.not_mem_nil, or_false] at ha; omega)⟩
section IvT
variable {G : ZGT} {nb : Nat → Int32} {sl : Nat → Nat} {a : Nat} {ac : Nat → Nat} {ko kp : Nat → Int32} {u v : SX} {s w : SM} {n m : Nat} {f : Nat → Int32} {ln : Nat → Nat} {yy : Nat → Nat → Nat}
theorem WyX.fr (h : WyX u) (e : ∀ j, v.2.2.2.1 14 j = u.2.2.2.1 14 j) : WyX v := by
  unfold WyX at h ⊢
  rw [e 11, e 12]; exact h
theorem TrX.fr (h : TrX G u) (e1 : v.1 14 10 = u.1 14 10) (e2 : v.2.1 20 = u.2.1 20) (e3 : ∀ j, v.2.2.2.1 14 j = u.2.2.2.1 14 j) : TrX G v := by
  refine ⟨h.1.fr e3, ?_⟩
  have h2 := h.2
  unfold TrW at h2 ⊢
  rw [e1, e2]; exact h2
theorem TrX.z (h : TrX G u) (f : frZ u v) : TrX G v := h.fr (f.1 14 10 (by omega)) (f.2.1 20 (by omega)) (fun j => f.2.2.2 14 j (by omega))
theorem TPc.fr (h : TPc n f u s) (fu : frI u v) (fs : frV s w) : TPc n f v w := by
  unfold TPc at h ⊢
  rw [fu.1.1, fu.2 2 (by decide), fs.1 2 (by decide), fs.2 1 (by decide)]; exact h
theorem SnX.i (h : SnX m ln yy u) (fu : frI u v) : SnX m ln yy v := by
  unfold SnX at h ⊢
  rw [fu.1.2.1, fu.2 12 (by decide), fu.2 13 (by decide)]; exact h
theorem SnM.fv (h : SnM m ln yy s) (fs : frV s w) : SnM m ln yy w := by
  unfold SnM at h ⊢
  rw [fs.1 14 (by decide), fs.2 12 (by decide), fs.2 13 (by decide)]; exact h
theorem TXc.i (h : TXc G nb sl u) (fu : frI u v) : TXc G nb sl v := by
  unfold TXc at h ⊢
  rw [fu.2 7 (by decide), fu.2 9 (by decide), fu.2 10 (by decide)]; exact h
theorem TMc.fv (h : TMc G nb sl s) (fs : frV s w) : TMc G nb sl w := by
  unfold TMc at h ⊢
  rw [fs.2 21 (by decide), fs.2 22 (by decide)]; exact h
theorem IvG.fr (h : IvG G nb sl a ac ko kp u s) (hX : X3 G (zos G) v) (hR : RGr G (zos G) w) (hT : TrX G v) (fu : frI u v) (fs : frV s w) : IvG G nb sl a ac ko kp v w := by
  obtain ⟨-, ⟨h1, h2⟩, -, ⟨h3, h4⟩, ⟨h5, h6, h7⟩, h8⟩ := h
  refine ⟨⟨hX, hR⟩, ⟨h1.i fu, h2.fv fs⟩, hT, ⟨?_, ?_⟩, ⟨?_, ?_, ?_⟩, ?_⟩
  · rw [fu.1.2.2.1 3, fs.1 23 (by decide)]; exact h3
  · rw [fu.1.2.2.1 4, fs.1 24 (by decide)]; exact h4
  · unfold HsX at h5 ⊢
    rw [fu.1.2.2.2 0, fu.2 24 (by decide)]; exact h5
  · unfold HsM at h6 ⊢
    rw [fs.1 37 (by decide), fs.2 35 (by decide), fs.2 36 (by decide)]; exact h6
  · rw [fs.1 23 (by decide), fs.1 24 (by decide)]; exact h7
  · unfold ImC at h8 ⊢
    rw [fu.1.2.2.2 1, fu.1.2.2.2 2, fu.1.2.2.2 3, fs.1 75 (by decide), fs.1 76 (by decide), fs.1 77 (by decide)]; exact h8
theorem Iv_g (hP : TPc n f u s) (hS : Snn m ln yy u s) (h : IvG G nb sl a ac ko kp u s) (hX : X3 G (zos G) v) (hR : RGr G (zos G) w) (hT : TrX G v) (fu : frI u v) (fs : frV s w) : Iv0 v w :=
  ⟨⟨n, f, hP.fr fu fs⟩, ⟨m, ln, yy, hS.1.i fu, hS.2.fv fs⟩, Or.inr ⟨G, nb, sl, a, ac, ko, kp, h.fr hX hR hT fu fs⟩⟩
/-- class and reference answer alike, by what is known of each -/
theorem Ag_of {MX MR : MD} {as : List Value} {I : SX → SM → Prop} {QX : Option Value → SX → Prop} {QM : Option Value → SM → Prop} (r : Int32) (hx : EvQ (ZY YP0) MX (.ref 0 :: as) u QX) (hm : EvQ ZR MR (.ref 0 :: as) s QM) (h1 : ∀ x v, QX x v → x = some (.int r)) (h2 : ∀ y w, QM y w → y = some (.int r)) (h3 : ∀ x v y w, QX x v → QM y w → I v w) : Ag MX MR as u s I := by
  rw [ZY_0] at hx
  obtain ⟨x, v, qx, ex⟩ := hx
  obtain ⟨y, w, qm, em⟩ := hm
  have e1 := h1 x v qx
  have e2 := h2 y w qm
  subst e1; subst e2
  exact ⟨r, v, w, ex, em, h3 _ _ _ _ qx qm⟩
/-- both stay as they are -/
theorem Ag_same {MX MR : MD} {as : List Value} {I : SX → SM → Prop} {r : Int32} (hx : Ev ZX MX (.ref 0 :: as) u (some (.int r)) u) (hm : Ev ZR MR (.ref 0 :: as) s (some (.int r)) s) (hI : I u s) : Ag MX MR as u s I := ⟨r, u, s, hx, hm, hI⟩
theorem IvG.z (h : IvG G nb sl a ac ko kp u s) : ∀ kd, kd < 3 → ZAt G kd (zos G kd) := h.1.1.f.os
/-- a call by a kind -/
theorem Ag_kd {MX MR : MD} {as : List Value} {r : Int32} (hP : TPc n f u s) (hS : Snn m ln yy u s) (h : IvG G nb sl a ac ko kp u s) (e1 : EvQ ZX MX (.ref 0 :: as) u (k3Q G (zos G) u r)) (e2 : EvQ ZR MR (.ref 0 :: as) s (rfQ G (zos G) s r)) : Ag MX MR as u s Iv0 := by
  rw [← ZY_0] at e1
  refine Ag_of r e1 e2 (fun _ _ q => q.1) (fun _ _ q => q.1) (fun x v y w q1 q2 => ?_)
  exact Iv_g hP hS h q1.2.1 q2.2.1 (h.2.2.1.z q1.2.2) q1.2.2.i q2.2.2.v
theorem SnX.sw {d : Nat} (hd : d < 3) (h : SnX m ln yy u) : SnX m ln yy (swX d u) := by
  unfold SnX at h ⊢
  show u.1 (zsw d 11) 0 = _ ∧ m ≤ 4 ∧ ∀ k, k < m → u.2.1 (zsw d 12) k = nI (ln k) ∧ ln k ≤ 24 ∧ ∀ j, j < ln k → u.2.1 (zsw d 13) (24 * k + j) = nI (yy k j) ∧ yy k j < 26
  rw [zsw_99 hd (by omega), zsw_99 hd (by omega), zsw_99 hd (by omega)]; exact h
theorem TXc.sw {d : Nat} (hd : d < 3) (h : TXc G nb sl u) : TXc G nb sl (swX d u) := by
  unfold TXc at h ⊢
  show (∀ k, k < zgN G → u.2.1 (zsw d 7) k = nb k) ∧ (∀ k, k < zgT G → u.2.1 (zsw d 9) k = nI (sl k) ∧ sl k < 26) ∧ ∀ j, j < 26 → u.2.1 (zsw d 10) j = zsg sl (zgT G) j
  rw [zsw_99 hd (by omega), zsw_99 hd (by omega), zsw_99 hd (by omega)]; exact h
theorem sw34 {d : Nat} (hd : d < 3) : (swX d u).1 3 4 = u.1 3 4 := by
  show u.1 (zsw d 3) 4 = _
  rw [zsw_99 hd (by omega)]
end IvT
