/-! Class and reference alike: the other calls. -/
section AgO
variable {G : ZGT} {nb : Nat → Int32} {sl : Nat → Nat} {a : Nat} {ac : Nat → Nat} {ko kp : Nat → Int32} {u v : SX} {s w : SM} {n m : Nat} {f : Nat → Int32} {ln : Nat → Nat} {yy : Nat → Nat → Nat}
theorem i_letter (h : Iv0 u s) (x0 x1 : Int32) : Ag mX11_letter mX12_letter [.int x0, .int x1] u s Iv0 := by
  obtain ⟨-, -, hG⟩ := id h
  rcases hG with hN | ⟨G, nb, sl, a, ac, ko, kp, hG⟩
  · exact Ag_same (x_letter u hN.1.1 x0 x1) (n_letter s hN.2.1.1 x0 x1) h
  have e := y_letter (P := YP0) hG.1.1.f.1 x0 x1
  rw [ZY_0] at e
  exact Ag_same e (m_letter hG.1.2.1 x0 x1) h
theorem i_sign (h : Iv0 u s) (x0 x1 : Int32) : Ag mX11_sign mX12_sign [.int x0, .int x1] u s Iv0 := by
  obtain ⟨-, ⟨m, ln, yy, hS⟩, hG⟩ := id h
  rcases hG with hN | ⟨G, nb, sl, a, ac, ko, kp, hG⟩
  · exact Ag_same (x_sign u hN.1.1 x0 x1) (n_sign s hN.2.1.1 x0 x1) h
  have e := y_sign (P := YP0) hG.1.1.f.1 hS.1 hG.2.1.1 x0 x1
  rw [ZY_0] at e
  exact Ag_same e (m_sign hG.1.2.1 hS.2 hG.2.1.2 x0 x1) h
theorem i_name (h : Iv0 u s) (x0 x1 : Int32) : Ag mX11_name mX12_name [.int x0, .int x1] u s Iv0 := by
  obtain ⟨⟨n, f, hP⟩, ⟨m, ln, yy, hS⟩, hG⟩ := id h
  rcases hG with hN | ⟨G, nb, sl, a, ac, ko, kp, hG⟩
  · exact Ag_same (x_name u hN.1.2.1 x0 x1) (n_name s hN.2.1.2.1 x0 x1) h
  refine Ag_of (QX := fun x v => x = some (.int (zvNm G nb x0 x1)) ∧ v = u) _ (EQ_of (y_name hG.1.1.f hG.2.1.1 x0 x1) ⟨rfl, rfl⟩) (m_name hG.1.2 hG.2.1.2 x0 x1) (fun _ _ q => q.1) (fun _ _ q => q.1) (fun x v y w q1 q2 => ?_)
  obtain ⟨-, rfl⟩ := q1
  exact Iv_g hP hS hG hG.1.1 q2.2.1 hG.2.2.1 frI.rf q2.2.2
theorem i_names (h : Iv0 u s) (x0 : Int32) : Ag mX11_names mX12_names [.int x0] u s Iv0 := by
  obtain ⟨⟨n, f, hP⟩, ⟨m, ln, yy, hS⟩, hG⟩ := id h
  rcases hG with hN | ⟨G, nb, sl, a, ac, ko, kp, hG⟩
  · exact Ag_same (x_names u hN.1.1 x0) (n_names s hN.2.1.1 x0) h
  refine Ag_of (QX := fun x v => x = some (.int (zvNs G x0)) ∧ v = u) _ (EQ_of (y_names hG.1.1.f x0) ⟨rfl, rfl⟩) (m_names hG.1.2 x0) (fun _ _ q => q.1) (fun _ _ q => q.1) (fun x v y w q1 q2 => ?_)
  obtain ⟨-, rfl⟩ := q1
  exact Iv_g hP hS hG hG.1.1 q2.2.1 hG.2.2.1 frI.rf q2.2.2
theorem i_trees (h : Iv0 u s) (x0 x1 x2 : Int32) : Ag mX11_trees mX12_trees [.int x0, .int x1, .int x2] u s Iv0 := by
  obtain ⟨⟨n, f, hP⟩, ⟨m, ln, yy, hS⟩, hG⟩ := id h
  rcases hG with hN | ⟨G, nb, sl, a, ac, ko, kp, hG⟩
  · exact Ag_same (x_trees u hN.1.2.1 x0 x1 x2) (n_trees s hN.2.1.2.1 x0 x1 x2) h
  refine Ag_of _ (y_trees hG.1.1.f.1 hG.2.2.1 x0 x1 x2) (m_trees hG.1.2 x0 x1 x2) (fun _ _ q => q.1) (fun _ _ q => q.1) (fun x v y w q1 q2 => ?_)
  exact Iv_g hP hS hG (hG.1.1.tz q1.2.2 q1.2.1.1) q2.2.1 q1.2.1 q1.2.2.i q2.2.2
theorem i_word (h : Iv0 u s) (x0 : Int64) (x1 : Int32) : Ag mX11_word mX12_word [.long x0, .int x1] u s Iv0 := by
  obtain ⟨⟨n, f, hP⟩, ⟨m, ln, yy, hS⟩, hG⟩ := id h
  rcases hG with hN | ⟨G, nb, sl, a, ac, ko, kp, hG⟩
  · exact Ag_same (x_word u hN.1.1 x0 x1) (n_word s hN.2.1.1 x0 x1) h
  refine Ag_of _ (y_word hG.1.1.f x0 x1) (m_word hG.1.2 x0 x1) (fun _ _ q => q.1) (fun _ _ q => q.1) (fun x v y w q1 q2 => ?_)
  exact Iv_g hP hS hG (hG.1.1.kp q1.2.kp) q2.2.1 (hG.2.2.1.fr (q1.2.1 14 10 (by decide)) (q1.2.2.1 20 (by decide)) (fun j => by rw [q1.2.2.2.2])) q1.2.i q2.2.2
theorem i_keep (h : Iv0 u s) (x0 : Int64) : Ag mX11_keep mX12_keep [.long x0] u s Iv0 := by
  obtain ⟨⟨n, f, hP⟩, ⟨m, ln, yy, hS⟩, hG⟩ := id h
  rcases hG with hN | ⟨G, nb, sl, a, ac, ko, kp, hG⟩
  · exact Ag_same (x_keep u hN.1.1 x0) (n_keep s hN.2.1.1 x0) h
  refine Ag_of _ (y_keepG hG.1.1.f hS.1 hG.2.1.1 x0) (m_keepG hG.1.2 hS.2 hG.2.1.2 (fun k hk => (hG.2.1.1.2.1 k hk).2) x0) (fun _ _ q => q.1) (fun _ _ q => q.1) (fun x v y w q1 q2 => ?_)
  obtain ⟨-, g1, fu⟩ := q1
  obtain ⟨-, k1, k2, fs⟩ := q2
  refine ⟨⟨n, f, ?_⟩, ⟨_, _, _, g1, k2⟩, Or.inr ⟨G, nb, sl, a, ac, ko, kp, hG.fj (hG.1.1.kp fu) k1 (hG.2.2.1.fr (fu.1 14 10 (by decide)) (fu.2.1 20 (by decide)) (fun j => by rw [fu.2.2.2])) ⟨fun j => fu.1 3 j (by simp), fun j => fu.1 23 j (by simp), fun b hb => fu.2.1 b (fun y => by simp only [List.mem_cons, List.not_mem_nil, or_false] at y hb; omega)⟩ fs.j⟩⟩
  unfold TPc at hP ⊢
  rw [fu.1 1 1 (by decide), fu.2.1 2 (by decide), fs.1 2 (by decide), fs.2 1 (by decide)]; exact hP
/-- behind a change of rules -/
theorem Iv_rules (hP : TPc n f u s) (hS : Snn m ln yy u s) (h : IvG G nb sl a ac ko kp u s) {x y p : Int32} {a' : Nat} {ac' : Nat → Nat} {ko' kp' : Nat → Int32} (hx : v.1 3 3 = x) (hF : ZFX (zwi G x) v) (h10 : v.1 14 10 = 0) (hs1 : v.1 36 3 = 1 ∧ v.1 53 3 = 1 ∧ v.1 70 3 = 1) (hs2 : v.1 47 3 = 1 ∧ v.1 64 3 = 1 ∧ v.1 81 3 = 1) (hp : v.1 3 4 = p) (hH : HsX a' ac' v) (fu : frX ((3, 4) :: (23, 0) :: swKs) [15, 16, 17, 18, 19, 24] u v)
    (hy : w.1 23 = y) (hp2 : w.1 24 = p) (h29 : w.1 29 = 0) (h30 : w.2.1 30 0 = 0 ∧ w.2.1 30 1 = 0 ∧ w.2.1 30 2 = 0) (hM : HsM a' ko' kp' w) (fs : frM [23, 24, 29, 37] [30, 35, 36] s w) (hc : CMk (zgR G) x y) (hR : HsR (zgR G) (zgT G) a' ac' ko' kp' y p) : Iv0 v w := by
  have hGM := h.1.2.1
  have hZ : ZGM (zwi G x) w := by
    refine zwi_m hGM.1 ?_ (fun r hr => ?_) (fun r hr => ?_) (by rw [hy]; exact hc)
    · rw [fs.1 15 (by decide), fs.1 16 (by decide), fs.1 17 (by decide)]; exact hGM.2.1
    · rw [fs.2.1 18 (by decide)]; exact (hGM.2.2.1 r hr).1
    · rw [fs.2.1 19 (by decide), fs.2.1 20 (by decide)]; exact hGM.2.2.2 r hr
  refine ⟨⟨n, f, ?_⟩, ⟨m, ln, yy, ?_, ?_⟩, Or.inr ⟨zwi G x, nb, sl, a', ac', ko', kp', ⟨X3_new (h.1.1.b.fr fu (by decide)) hF hs1 hs2, RGr_new hZ h29 h30⟩, ⟨?_, ?_⟩, ⟨h.2.2.1.1.e fu.2.2, Or.inl h10⟩, ⟨by rw [hx, hy]; exact hc, by rw [hp, hp2]⟩, ⟨hH, hM, by rw [hy, hp2]; exact hR⟩, ?_⟩⟩
  · unfold TPc at hP ⊢
    rw [fu.1 1 1 (by decide), fu.2.1 2 (by decide), fs.1 2 (by decide), fs.2.1 1 (by decide)]; exact hP
  · have hSX := hS.1
    unfold SnX at hSX ⊢
    rw [fu.1 11 0 (by decide), fu.2.1 12 (by decide), fu.2.1 13 (by decide)]; exact hSX
  · have hSM := hS.2
    unfold SnM at hSM ⊢
    rw [fs.1 14 (by decide), fs.2.1 12 (by decide), fs.2.1 13 (by decide)]; exact hSM
  · have h1 := h.2.1.1
    unfold TXc at h1 ⊢
    rw [fu.2.1 7 (by decide), fu.2.1 9 (by decide), fu.2.1 10 (by decide)]; exact h1
  · have h1 := h.2.1.2
    unfold TMc at h1 ⊢
    rw [fs.2.1 21 (by decide), fs.2.1 22 (by decide)]; exact h1
  · have h8 := h.2.2.2.2.2
    unfold ImC at h8 ⊢
    rw [fu.1 23 1 (by decide), fu.1 23 2 (by decide), fu.1 23 3 (by decide), fs.1 75 (by decide), fs.1 76 (by decide), fs.1 77 (by decide)]; exact h8
theorem setA_2 {g : Nat → Nat → Int32} {k : Nat} {t : Nat → Int32} (c : Nat) : setA g k t c = if c = k then t else g c := by
  by_cases e : c = k
  · rw [if_pos e, e, setA_at]
  · rw [if_neg e, setA_ne e]
/-- another preference, another history -/
theorem X3_pref2 {os : Nat → Option ZAS} (h : X3 G os u) (fu : frX [(3, 4), (47, 3), (64, 3), (81, 3), (23, 0)] [24] u v) (h2 : v.1 47 3 = 1 ∧ v.1 64 3 = 1 ∧ v.1 81 3 = 1) : X3 G os v := by
  obtain ⟨z, hz⟩ : ∃ z : SX, z = (updI v.1 23 0 (u.1 23 0), setA v.2.1 24 (u.2.1 24), v.2.2) := ⟨_, rfl⟩
  have fz : frX [(23, 0)] [24] z v := by
    rw [hz]
    refine ⟨fun c b hb => ?_, fun a ha => ?_, rfl⟩
    · show v.1 c b = updI v.1 23 0 (u.1 23 0) c b
      exact ((frX.i (s := v) (ks := [(23, 0)]) (as := []) 23 0 (x := u.1 23 0) (by decide)).1 c b hb).symm
    · show v.2.1 a = setA v.2.1 24 (u.2.1 24) a
      rw [setA_ne (fun y => ha (by rw [y]; decide))]
  have f1 : frX [(3, 4), (47, 3), (64, 3), (81, 3)] [] u z := by
    rw [hz]
    refine ⟨fun c b hb => ?_, fun a _ => ?_, fu.2.2⟩
    · show updI v.1 23 0 (u.1 23 0) c b = u.1 c b
      by_cases e : (c, b) = (23, 0)
      · cases e; rfl
      · have e0 : updI v.1 23 0 (u.1 23 0) c b = v.1 c b := (frX.i (s := v) (ks := [(23, 0)]) (as := []) 23 0 (x := u.1 23 0) (by decide)).1 c b (fun y => e (List.mem_singleton.mp y))
        rw [e0]
        exact fu.1 c b (fun y => by
          rcases List.mem_append.mp (show (c, b) ∈ [(3, 4), (47, 3), (64, 3), (81, 3)] ++ [(23, 0)] from y) with q | q
          · exact hb q
          · exact e (List.mem_singleton.mp q))
    · show setA v.2.1 24 (u.2.1 24) a = u.2.1 a
      rw [setA_2]
      by_cases e : a = 24
      · rw [if_pos e, e]
      · rw [if_neg e]; exact fu.2.1 a (fun y => e (List.mem_singleton.mp y))
  refine (X3_pref h f1 ?_).low fz (by decide) (by decide)
  rw [← fz.1 47 3 (by decide), ← fz.1 64 3 (by decide), ← fz.1 81 3 (by decide)]
  exact h2
/-- behind a change of preferences -/
theorem Iv_pref (hP : TPc n f u s) (hS : Snn m ln yy u s) (h : IvG G nb sl a ac ko kp u s) {p : Int32} {a' : Nat} {ac' : Nat → Nat} {ko' kp' : Nat → Int32} (hs2 : v.1 47 3 = 1 ∧ v.1 64 3 = 1 ∧ v.1 81 3 = 1) (hp : v.1 3 4 = p) (hH : HsX a' ac' v) (fu : frX [(3, 4), (47, 3), (64, 3), (81, 3), (23, 0)] [24] u v)
    (hy : w.1 23 = s.1 23) (hp2 : w.1 24 = p) (h29 : w.1 29 = 0) (h30 : w.2.1 30 0 = 0 ∧ w.2.1 30 1 = 0 ∧ w.2.1 30 2 = 0) (hM : HsM a' ko' kp' w) (fs : frM [23, 24, 29, 37] [30, 35, 36] s w) (hR : HsR (zgR G) (zgT G) a' ac' ko' kp' (s.1 23) p) : Iv0 v w := by
  have hGM := h.1.2.1
  have hZ : ZGM G w := by
    unfold ZGM at hGM ⊢
    rw [fs.1 15 (by decide), fs.1 16 (by decide), fs.1 17 (by decide), hy, fs.2.1 18 (by decide), fs.2.1 19 (by decide), fs.2.1 20 (by decide)]; exact hGM
  refine ⟨⟨n, f, ?_⟩, ⟨m, ln, yy, ?_, ?_⟩, Or.inr ⟨G, nb, sl, a', ac', ko', kp', ⟨X3_pref2 h.1.1 fu hs2, RGr_new hZ h29 h30⟩, ⟨?_, ?_⟩, h.2.2.1.fr (fu.1 14 10 (by decide)) (fu.2.1 20 (by decide)) (fun j => by rw [fu.2.2]), ⟨by rw [fu.1 3 3 (by decide), hy]; exact h.2.2.2.1.1, by rw [hp, hp2]⟩, ⟨hH, hM, by rw [hy, hp2]; exact hR⟩, ?_⟩⟩
  · unfold TPc at hP ⊢
    rw [fu.1 1 1 (by decide), fu.2.1 2 (by decide), fs.1 2 (by decide), fs.2.1 1 (by decide)]; exact hP
  · have hSX := hS.1
    unfold SnX at hSX ⊢
    rw [fu.1 11 0 (by decide), fu.2.1 12 (by decide), fu.2.1 13 (by decide)]; exact hSX
  · have hSM := hS.2
    unfold SnM at hSM ⊢
    rw [fs.1 14 (by decide), fs.2.1 12 (by decide), fs.2.1 13 (by decide)]; exact hSM
  · have h1 := h.2.1.1
    unfold TXc at h1 ⊢
    rw [fu.2.1 7 (by decide), fu.2.1 9 (by decide), fu.2.1 10 (by decide)]; exact h1
  · have h1 := h.2.1.2
    unfold TMc at h1 ⊢
    rw [fs.2.1 21 (by decide), fs.2.1 22 (by decide)]; exact h1
  · have h8 := h.2.2.2.2.2
    unfold ImC at h8 ⊢
    rw [fu.1 23 1 (by decide), fu.1 23 2 (by decide), fu.1 23 3 (by decide), fs.1 75 (by decide), fs.1 76 (by decide), fs.1 77 (by decide)]; exact h8
theorem i_toggle (h : Iv0 u s) (x0 : Int32) : Ag mX11_toggle mX12_toggle [.int x0] u s Iv0 := by
  obtain ⟨⟨n, f, hP⟩, ⟨m, ln, yy, hS⟩, hG⟩ := id h
  rcases hG with hN | ⟨G, nb, sl, a, ac, ko, kp, hG⟩
  · exact Ag_same (x_toggle u hN.1.1 x0) (n_toggle s hN.2.1.1 x0) h
  have hGX := hG.1.1.f.1
  have hb := hGX.b
  cases e : zix x0 (zgR G) with
  | none =>
    have e1 := y_toggle0 hGX e
    rw [ZY_0] at e1
    exact Ag_same e1 (m_toggle0 hG.1.2.1 e) h
  | some k =>
  obtain ⟨hk, rfl⟩ := zix_s e
  obtain ⟨hH1, hH2, hH3⟩ := hG.2.2.2.2.1
  have hc := hG.2.2.2.1.1.x hk hb.1
  have hbt := (hc k (by omega)).1
  rw [decide_eq_true hk, Bool.true_and] at hbt
  refine Ag_of (bI (bt (u.1 3 3 ^^^ zbi k) k)) (y_toggle1 hGX hH1 hk) (m_toggle1 hG.1.2.1 hH2 hk) (fun _ _ q => q.1) (fun _ _ q => by rw [hbt]; exact q.1) (fun x v y w q1 q2 => ?_)
  obtain ⟨-, g1, g2, g3, g4, g5, g6, g7⟩ := q1
  obtain ⟨-, k1, k2, k3, k4, k5, k6⟩ := q2
  exact Iv_rules hP hS hG g1 g2 g3 g4 g5 ((g7.1 3 4 (by decide)).trans hG.2.2.2.1.2) g6 (g7.up (by decide) (by decide)) k1 k2 k3 k4 k5 k6 hc (hH3.rule hH1.2.1 hk)
theorem i_prefer (h : Iv0 u s) (x0 : Int32) : Ag mX11_prefer mX12_prefer [.int x0] u s Iv0 := by
  obtain ⟨⟨n, f, hP⟩, ⟨m, ln, yy, hS⟩, hG⟩ := id h
  rcases hG with hN | ⟨G, nb, sl, a, ac, ko, kp, hG⟩
  · exact Ag_same (x_prefer u hN.1.1 x0) (n_prefer s hN.2.1.1 x0) h
  have hGX := hG.1.1.f.1
  have hb := hGX.b
  cases e : zix x0 (zgT G + 1) with
  | none =>
    have e1 := y_prefer0 hGX e
    rw [ZY_0] at e1
    exact Ag_same e1 (m_prefer0 hG.1.2.1 e) h
  | some k =>
  obtain ⟨hk, rfl⟩ := zix_s e
  obtain ⟨hH1, hH2, hH3⟩ := hG.2.2.2.2.1
  have e34 := hG.2.2.2.1.2
  refine Ag_of (bI (bt (u.1 3 4 ^^^ zbi k) k)) (y_prefer1 hGX hH1 (k := k) (by omega)) (m_prefer1 hG.1.2.1 hH2 (k := k) (by omega)) (fun _ _ q => q.1) (fun _ _ q => by rw [e34]; exact q.1) (fun x v y w q1 q2 => ?_)
  obtain ⟨-, g1, g2, g3, g4⟩ := q1
  obtain ⟨-, k1, k2, k3, k4, k5, k6⟩ := q2
  rw [e34] at g1
  exact Iv_pref hP hS hG g2 g1 g3 g4 k1 k2 k3 k4 k5 k6 (hH3.pref hH1.2.1 (by omega))
theorem i_undo (h : Iv0 u s) : Ag mX11_undo mX12_undo [] u s Iv0 := by
  obtain ⟨⟨n, f, hP⟩, ⟨m, ln, yy, hS⟩, hG⟩ := id h
  rcases hG with hN | ⟨G, nb, sl, a, ac, ko, kp, hG⟩
  · exact Ag_same (x_undo u hN.2.2.1.1) (n_undo s hN.2.2.1.2.1) h
  have hGX := hG.1.1.f.1
  have hb := hGX.b
  obtain ⟨hH1, hH2, hH3⟩ := hG.2.2.2.2.1
  cases a with
  | zero => exact Ag_same (x_undo u hH1.1) (n_undo s hH2.1) h
  | succ a =>
  obtain ⟨hU, hA⟩ := hH3.un
  rcases hA with ⟨a1, a2, a3⟩ | ⟨a1, a2, a3, a4⟩
  · refine Ag_of (nI a) (y_undoR hGX hH1 (by omega)) (m_undo1 hH2) (fun _ _ q => q.1) (fun _ _ q => q.1) (fun x v y w q1 q2 => ?_)
    obtain ⟨-, g1, g2, g3, g4, g5, g6, g7⟩ := q1
    obtain ⟨-, k1, k2, k3, k4, k5, k6⟩ := q2
    refine Iv_rules hP hS hG g1 g2 g3 g4 g5 ((g7.1 3 4 (by decide)).trans (hG.2.2.2.1.2.trans a3.symm)) g6 (g7.up (by decide) (by decide)) k1 k2 k3 k4 k5 k6 ?_ hU
    rw [a2]
    exact hG.2.2.2.1.1.x a1 hb.1
  · obtain ⟨k, hk⟩ : ∃ k, ac a = 16 + k := ⟨ac a - 16, by omega⟩
    refine Ag_of (nI a) (y_undoP hH1 (k := k) (by omega) hk) (m_undo1 hH2) (fun _ _ q => q.1) (fun _ _ q => q.1) (fun x v y w q1 q2 => ?_)
    obtain ⟨-, g1, g2, g3, g4⟩ := q1
    obtain ⟨-, k1, k2, k3, k4, k5, k6⟩ := q2
    refine Iv_pref (p := kp a) hP hS hG g2 ?_ g3 g4 (k1.trans a3) k2 k3 k4 k5 k6 (by rw [← a3]; exact hU)
    rw [g1, a4, hk, show 16 + k - 16 = k by omega, hG.2.2.2.1.2]
theorem i_image (h : Iv0 u s) : Ag mX11_image mX12_image [] u s Iv0 := by
  obtain ⟨⟨n, f, hP⟩, ⟨m, ln, yy, hS⟩, hG⟩ := id h
  rcases hG with hN | ⟨G, nb, sl, a, ac, ko, kp, hG⟩
  · exact Ag_same (x_image u hN.1.1) (n_image s hN.2.1.1) h
  have hGX := hG.1.1.f.1
  have hb := hGX.b
  have hc := hG.2.2.2.1.1
  refine Ag_of (bitC (u.1 3 3)) (y_image hGX) (m_image hG.1.2.1) (fun _ _ q => q.1) (fun _ _ q => by rw [hc.c hb.1, ← hG.1.2.1.2.1.1]; exact q.1) (fun x v y w q1 q2 => ?_)
  obtain ⟨-, g1, g2, g3, fu⟩ := q1
  obtain ⟨-, k1, k2, k3, fs⟩ := q2
  obtain ⟨hH1, hH2, hH3⟩ := hG.2.2.2.2.1
  refine ⟨⟨n, f, ?_⟩, ⟨m, ln, yy, ?_, ?_⟩, Or.inr ⟨G, nb, sl, a, ac, ko, kp, ⟨hG.1.1.low fu (by decide) (by decide), hG.1.2.fr fs (by decide) (by decide)⟩, ⟨hG.2.1.1.fr fu (by decide), ?_⟩, hG.2.2.1.fr (fu.1 14 10 (by decide)) (fu.2.1 20 (by decide)) (fun j => by rw [fu.2.2]), ⟨?_, ?_⟩, ⟨hH1.fr fu (by decide) (by decide), ?_, ?_⟩, Or.inr ⟨g1, k1, ?_, ?_⟩⟩⟩
  · unfold TPc at hP ⊢
    rw [fu.1 1 1 (by decide), fu.2.1 2 (by decide), fs.1 2 (by decide), fs.2.1 1 (by decide)]; exact hP
  · have hSX := hS.1
    unfold SnX at hSX ⊢
    rw [fu.1 11 0 (by decide), fu.2.1 12 (by decide), fu.2.1 13 (by decide)]; exact hSX
  · have hSM := hS.2
    unfold SnM at hSM ⊢
    rw [fs.1 14 (by decide), fs.2.1 12 (by decide), fs.2.1 13 (by decide)]; exact hSM
  · have h1 := hG.2.1.2
    unfold TMc at h1 ⊢
    rw [fs.2.1 21 (by decide), fs.2.1 22 (by decide)]; exact h1
  · rw [fu.1 3 3 (by decide), fs.1 23 (by decide)]; exact hc
  · rw [fu.1 3 4 (by decide), fs.1 24 (by decide)]; exact hG.2.2.2.1.2
  · unfold HsM at hH2 ⊢
    rw [fs.1 37 (by decide), fs.2.1 35 (by decide), fs.2.1 36 (by decide)]; exact hH2
  · rw [fs.1 23 (by decide), fs.1 24 (by decide)]; exact hH3
  · rw [g2, k2]; exact hc
  · rw [g3, k3]; exact hG.2.2.2.1.2
theorem i_back (h : Iv0 u s) : Ag mX11_back mX12_back [] u s Iv0 := by
  obtain ⟨⟨n, f, hP⟩, ⟨m, ln, yy, hS⟩, hG⟩ := id h
  rcases hG with hN | ⟨G, nb, sl, a, ac, ko, kp, hG⟩
  · exact Ag_same (x_back u hN.2.2.1.2.2.1) (n_back s hN.2.2.1.2.2.2) h
  have hGX := hG.1.1.f.1
  have hb := hGX.b
  rcases hG.2.2.2.2.2 with ⟨i1, i2⟩ | ⟨i1, i2, i3, i4⟩
  · exact Ag_same (x_back u i1) (n_back s i2) h
  refine Ag_of (bitC (u.1 23 2)) (y_back1 hGX i1) (m_back1 i2) (fun _ _ q => q.1) (fun _ _ q => by rw [i3.c hb.1, ← hG.1.2.1.2.1.1]; exact q.1) (fun x v y w q1 q2 => ?_)
  obtain ⟨-, g1, g2, g3, g4, g5, g6, g7, g8⟩ := q1
  obtain ⟨-, k1, k2, k3, k4, k5, k6⟩ := q2
  refine Iv_rules (p := s.1 76) (a' := 0) (ac' := fun _ => 0) (ko' := fun _ => 0) (kp' := fun _ => 0) hP hS hG g1 g4 g5 g6 g7 (g2.trans i4) ⟨g3, by omega, fun i hi => absurd hi (Nat.not_lt_zero _)⟩ (g8.up (by decide) (by decide)) k1 k2 k3 k4 ⟨k5, by omega, fun i hi => absurd hi (Nat.not_lt_zero _)⟩ (k6.up (by decide) (by decide)) i3 (fun i hi => absurd hi (Nat.not_lt_zero _))
end AgO
