/-- class and reference answer alike, and come to states of a kind -/
def Ag (MX MR : MD) (as : List Value) (sX : SX) (sM : SM) (I : SX → SM → Prop) : Prop := ∃ (r : Int32) (sX1 : SX) (sM1 : SM), Ev ZX MX (.ref 0 :: as) sX (some (.int r)) sX1 ∧ Ev ZR MR (.ref 0 :: as) sM (some (.int r)) sM1 ∧ I sX1 sM1
theorem kL_19 : Cond.methodLink R_law 19 yX11_feed ∈ zT := zT_at 3032 (by decide +kernel) rfl
theorem kL_23 : Cond.methodLink R_law 23 yX12_feed ∈ zT := zT_at 7111 (by decide +kernel) rfl
theorem kL_24 : Cond.methodLink R_law 24 yX11_end ∈ zT := zT_at 3043 (by decide +kernel) rfl
theorem kL_28 : Cond.methodLink R_law 28 yX12_end ∈ zT := zT_at 7118 (by decide +kernel) rfl
theorem kL_29 : Cond.methodLink R_law 29 yX11_fault ∈ zT := zT_at 3047 (by decide +kernel) rfl
theorem kL_33 : Cond.methodLink R_law 33 yX12_fault ∈ zT := zT_at 7125 (by decide +kernel) rfl
theorem kL_34 : Cond.methodLink R_law 34 yX11_text ∈ zT := zT_at 3074 (by decide +kernel) rfl
theorem kL_37 : Cond.methodLink R_law 37 yX12_text ∈ zT := zT_at 7160 (by decide +kernel) rfl
theorem kL_48 : Cond.methodLink R_law 48 yX11_letter ∈ zT := zT_at 3210 (by decide +kernel) rfl
theorem kL_51 : Cond.methodLink R_law 51 yX12_letter ∈ zT := zT_at 7203 (by decide +kernel) rfl
theorem kL_52 : Cond.methodLink R_law 52 yX11_sign ∈ zT := zT_at 3222 (by decide +kernel) rfl
theorem kL_55 : Cond.methodLink R_law 55 yX12_sign ∈ zT := zT_at 7207 (by decide +kernel) rfl
theorem kL_56 : Cond.methodLink R_law 56 yX11_name ∈ zT := zT_at 3234 (by decide +kernel) rfl
theorem kL_59 : Cond.methodLink R_law 59 yX12_name ∈ zT := zT_at 7211 (by decide +kernel) rfl
theorem kL_60 : Cond.methodLink R_law 60 yX11_trees ∈ zT := zT_at 4006 (by decide +kernel) rfl
theorem kL_64 : Cond.methodLink R_law 64 yX12_trees ∈ zT := zT_at 8009 (by decide +kernel) rfl
theorem kL_65 : Cond.methodLink R_law 65 yX11_names ∈ zT := zT_at 4043 (by decide +kernel) rfl
theorem kL_68 : Cond.methodLink R_law 68 yX12_names ∈ zT := zT_at 8026 (by decide +kernel) rfl
theorem kL_69 : Cond.methodLink R_law 69 yX11_toggle ∈ zT := zT_at 4051 (by decide +kernel) rfl
theorem kL_72 : Cond.methodLink R_law 72 yX12_toggle ∈ zT := zT_at 8046 (by decide +kernel) rfl
theorem kL_73 : Cond.methodLink R_law 73 yX11_prefer ∈ zT := zT_at 4065 (by decide +kernel) rfl
theorem kL_76 : Cond.methodLink R_law 76 yX12_prefer ∈ zT := zT_at 8058 (by decide +kernel) rfl
theorem kL_77 : Cond.methodLink R_law 77 yX11_undo ∈ zT := zT_at 4077 (by decide +kernel) rfl
theorem kL_80 : Cond.methodLink R_law 80 yX12_undo ∈ zT := zT_at 8062 (by decide +kernel) rfl
theorem kL_81 : Cond.methodLink R_law 81 yX11_states ∈ zT := zT_at 4085 (by decide +kernel) rfl
theorem kL_84 : Cond.methodLink R_law 84 yX12_states ∈ zT := zT_at 8066 (by decide +kernel) rfl
theorem kL_85 : Cond.methodLink R_law 85 yX11_look ∈ zT := zT_at 4206 (by decide +kernel) rfl
theorem kL_89 : Cond.methodLink R_law 89 yX12_look ∈ zT := zT_at 8160 (by decide +kernel) rfl
theorem kL_90 : Cond.methodLink R_law 90 yX11_state ∈ zT := zT_at 4226 (by decide +kernel) rfl
theorem kL_93 : Cond.methodLink R_law 93 yX12_state ∈ zT := zT_at 8168 (by decide +kernel) rfl
theorem kL_94 : Cond.methodLink R_law 94 yX11_goesTo ∈ zT := zT_at 5039 (by decide +kernel) rfl
theorem kL_97 : Cond.methodLink R_law 97 yX12_goesTo ∈ zT := zT_at 8184 (by decide +kernel) rfl
theorem kL_98 : Cond.methodLink R_law 98 yX11_action ∈ zT := zT_at 5044 (by decide +kernel) rfl
theorem kL_102 : Cond.methodLink R_law 102 yX12_action ∈ zT := zT_at 8192 (by decide +kernel) rfl
theorem kL_103 : Cond.methodLink R_law 103 yX11_bridge ∈ zT := zT_at 5053 (by decide +kernel) rfl
theorem kL_107 : Cond.methodLink R_law 107 yX12_bridge ∈ zT := zT_at 8201 (by decide +kernel) rfl
theorem kL_108 : Cond.methodLink R_law 108 yX11_counts ∈ zT := zT_at 5066 (by decide +kernel) rfl
theorem kL_111 : Cond.methodLink R_law 111 yX12_counts ∈ zT := zT_at 8213 (by decide +kernel) rfl
theorem kL_112 : Cond.methodLink R_law 112 yX11_path ∈ zT := zT_at 5106 (by decide +kernel) rfl
theorem kL_115 : Cond.methodLink R_law 115 yX12_path ∈ zT := zT_at 8209 (by decide +kernel) rfl
theorem kL_116 : Cond.methodLink R_law 116 yX11_reads ∈ zT := zT_at 5114 (by decide +kernel) rfl
theorem kL_119 : Cond.methodLink R_law 119 yX12_reads ∈ zT := zT_at 8230 (by decide +kernel) rfl
theorem kL_120 : Cond.methodLink R_law 120 yX11_reduced ∈ zT := zT_at 5159 (by decide +kernel) rfl
theorem kL_123 : Cond.methodLink R_law 123 yX12_reduced ∈ zT := zT_at 9026 (by decide +kernel) rfl
theorem kL_124 : Cond.methodLink R_law 124 yX11_expects ∈ zT := zT_at 5163 (by decide +kernel) rfl
theorem kL_127 : Cond.methodLink R_law 127 yX12_expects ∈ zT := zT_at 9030 (by decide +kernel) rfl
theorem kL_128 : Cond.methodLink R_law 128 yX11_mends ∈ zT := zT_at 5175 (by decide +kernel) rfl
theorem kL_131 : Cond.methodLink R_law 131 yX12_mends ∈ zT := zT_at 9038 (by decide +kernel) rfl
theorem kL_132 : Cond.methodLink R_law 132 yX11_tree ∈ zT := zT_at 5187 (by decide +kernel) rfl
theorem kL_135 : Cond.methodLink R_law 135 yX12_tree ∈ zT := zT_at 9050 (by decide +kernel) rfl
theorem kL_136 : Cond.methodLink R_law 136 yX11_sorts ∈ zT := zT_at 5191 (by decide +kernel) rfl
theorem kL_139 : Cond.methodLink R_law 139 yX12_sorts ∈ zT := zT_at 9054 (by decide +kernel) rfl
theorem kL_140 : Cond.methodLink R_law 140 yX11_same ∈ zT := zT_at 5203 (by decide +kernel) rfl
theorem kL_143 : Cond.methodLink R_law 143 yX12_same ∈ zT := zT_at 9079 (by decide +kernel) rfl
theorem kL_146 : Cond.methodLink R_law 146 yX11_word ∈ zT := zT_at 5223 (by decide +kernel) rfl
theorem kL_150 : Cond.methodLink R_law 150 yX12_word ∈ zT := zT_at 9095 (by decide +kernel) rfl
theorem kL_151 : Cond.methodLink R_law 151 yX11_keep ∈ zT := zT_at 6013 (by decide +kernel) rfl
theorem kL_155 : Cond.methodLink R_law 155 yX12_keep ∈ zT := zT_at 9121 (by decide +kernel) rfl
theorem kL_156 : Cond.methodLink R_law 156 yX11_image ∈ zT := zT_at 6017 (by decide +kernel) rfl
theorem kL_159 : Cond.methodLink R_law 159 yX12_image ∈ zT := zT_at 9125 (by decide +kernel) rfl
theorem kL_160 : Cond.methodLink R_law 160 yX11_back ∈ zT := zT_at 6021 (by decide +kernel) rfl
theorem kL_163 : Cond.methodLink R_law 163 yX12_back ∈ zT := zT_at 9133 (by decide +kernel) rfl
theorem kL_164 : Cond.methodLink R_law 164 yX11_count ∈ zT := zT_at 6025 (by decide +kernel) rfl
theorem kL_167 : Cond.methodLink R_law 167 yX12_count ∈ zT := zT_at 9137 (by decide +kernel) rfl
/-- all calls but rule -/
def Sim (sX : SX) (sM : SM) (I : SX → SM → Prop) : Prop :=
  (∀ (x0 : Int32) (x1 : Int32) (x2 : Int32) (x3 : Int32) (x4 : Int32), Ag mX11_feed mX12_feed [.int x0, .int x1, .int x2, .int x3, .int x4] sX sM I) ∧
  (∀ (x0 : Int32), Ag mX11_end mX12_end [.int x0] sX sM I) ∧
  (∀ (x0 : Int32), Ag mX11_fault mX12_fault [.int x0] sX sM I) ∧
  (∀ (x0 : Int32), Ag mX11_text mX12_text [.int x0] sX sM I) ∧
  (∀ (x0 : Int32) (x1 : Int32), Ag mX11_letter mX12_letter [.int x0, .int x1] sX sM I) ∧
  (∀ (x0 : Int32) (x1 : Int32), Ag mX11_sign mX12_sign [.int x0, .int x1] sX sM I) ∧
  (∀ (x0 : Int32) (x1 : Int32), Ag mX11_name mX12_name [.int x0, .int x1] sX sM I) ∧
  (∀ (x0 : Int32) (x1 : Int32) (x2 : Int32), Ag mX11_trees mX12_trees [.int x0, .int x1, .int x2] sX sM I) ∧
  (∀ (x0 : Int32), Ag mX11_names mX12_names [.int x0] sX sM I) ∧
  (∀ (x0 : Int32), Ag mX11_toggle mX12_toggle [.int x0] sX sM I) ∧
  (∀ (x0 : Int32), Ag mX11_prefer mX12_prefer [.int x0] sX sM I) ∧
  (Ag mX11_undo mX12_undo [] sX sM I) ∧
  (∀ (x0 : Int32), Ag mX11_states mX12_states [.int x0] sX sM I) ∧
  (∀ (x0 : Int32) (x1 : Int32) (x2 : Int32) (x3 : Int32) (x4 : Int32), (x4 = 0 ∨ x4 = 1) → Ag mX11_look mX12_look [.int x0, .int x1, .int x2, .int x3, .int x4] sX sM I) ∧
  (∀ (x0 : Int32) (x1 : Int32) (x2 : Int32), Ag mX11_state mX12_state [.int x0, .int x1, .int x2] sX sM I) ∧
  (∀ (x0 : Int32) (x1 : Int32) (x2 : Int32), Ag mX11_goesTo mX12_goesTo [.int x0, .int x1, .int x2] sX sM I) ∧
  (∀ (x0 : Int32) (x1 : Int32) (x2 : Int32) (x3 : Int32), (x3 = 0 ∨ x3 = 1) → Ag mX11_action mX12_action [.int x0, .int x1, .int x2, .int x3] sX sM I) ∧
  (∀ (x0 : Int32) (x1 : Int32) (x2 : Int32) (x3 : Int32), Ag mX11_bridge mX12_bridge [.int x0, .int x1, .int x2, .int x3] sX sM I) ∧
  (∀ (x0 : Int32) (x1 : Int32), Ag mX11_counts mX12_counts [.int x0, .int x1] sX sM I) ∧
  (∀ (x0 : Int32) (x1 : Int32) (x2 : Int32), Ag mX11_path mX12_path [.int x0, .int x1, .int x2] sX sM I) ∧
  (∀ (x0 : Int32) (x1 : Int32) (x2 : Int32) (x3 : Int32), Ag mX11_reads mX12_reads [.int x0, .int x1, .int x2, .int x3] sX sM I) ∧
  (∀ (x0 : Int32) (x1 : Int32) (x2 : Int32) (x3 : Int32), Ag mX11_reduced mX12_reduced [.int x0, .int x1, .int x2, .int x3] sX sM I) ∧
  (∀ (x0 : Int32) (x1 : Int32), Ag mX11_expects mX12_expects [.int x0, .int x1] sX sM I) ∧
  (∀ (x0 : Int32) (x1 : Int32), Ag mX11_mends mX12_mends [.int x0, .int x1] sX sM I) ∧
  (∀ (x0 : Int32) (x1 : Int32) (x2 : Int32) (x3 : Int32), Ag mX11_tree mX12_tree [.int x0, .int x1, .int x2, .int x3] sX sM I) ∧
  (Ag mX11_sorts mX12_sorts [] sX sM I) ∧
  (∀ (x0 : Int32) (x1 : Int32) (x2 : Int32), Ag mX11_same mX12_same [.int x0, .int x1, .int x2] sX sM I) ∧
  (∀ (x0 : Int64) (x1 : Int32), Ag mX11_word mX12_word [.long x0, .int x1] sX sM I) ∧
  (∀ (x0 : Int64), Ag mX11_keep mX12_keep [.long x0] sX sM I) ∧
  (Ag mX11_image mX12_image [] sX sM I) ∧
  (Ag mX11_back mX12_back [] sX sM I) ∧
  (∀ (x0 : Int32), Ag mX11_count mX12_count [.int x0] sX sM I)
theorem zx0 {MX : MD} (sX : SX) (h : MX.1 = 11) : zrc ZX MX sX 0 = true := by
  show (Nat.beq 11 MX.1 && Nat.blt 0 (3 * sX.2.2.2.2.1 + 99)) = true
  rw [h, Bool.and_eq_true]
  exact ⟨rfl, Nat.ble_eq_true_of_le (by omega)⟩
section LawCases
variable {p : Program} {l0 : Launch} {e : Env} {s : State} {m : MethodId} {below : List Frame} {meth : Method} {c : Code} {b L i : Nat} {xs : Nat → Int32} {H : Heap} {locs : List Loc} {cells slots : Nat} {Q : State → Prop} {dC : Nat → ClassId} {dI : Nat → Nat → Nat} {dA : Nat → ClassId} {adX adM : Nat → Nat} {qo : Nat} {sX : SX} {sM : SM} {z : Nat → Int64} {I : SX → SM → Prop}
abbrev ll (b q1 q2 q3 : Nat) (x : Int32) : List (Option Value) := [some (.ref b), some (.ref q1), some (.ref q2), some (.ref q3), some (.int x), none, none]
set_option maxRecDepth 100000 in
set_option maxHeartbeats 4000000 in
theorem lc_0 (C0 : lw_At p s m meth c b L xs) (hI : LI dC dI dA s H locs adX adM qo sX sM z) (h1 : vp_in (nI i + 1) L) (h2 : vp_in (nI i + 2) L) (h3 : vp_in (nI i + 3) L) (h4 : vp_in (nI i + 4) L) (h5 : vp_in (nI i + 5) L) (hS : Sim sX sM I) (hroom : ∀ sX1 sM1, I sX1 sM1 → cells + (ZX.2.1 sX1 - ZX.2.1 sX) ≤ 600002 ∧ slots + (ZX.2.2.1 sX1 - ZX.2.2.1 sX) ≤ 7302231) (k : ∀ (H1 : Heap) (locs1 : List Loc) (adX1 adM1 : Nat → Nat) (sX1 : SX) (sM1 : SM), adX1 0 = adX 0 → adM1 0 = adM 0 → LI dC dI dA s H1 locs1 adX1 adM1 qo sX1 sM1 z → I sX1 sM1 → LW p l0 e s m b below meth c H1 locs1 (cells + (ZX.2.1 sX1 - ZX.2.1 sX)) (slots + (ZX.2.2.1 sX1 - ZX.2.2.1 sX)) Q (1584, ll b (adX 0) (adM 0) qo (nI i), [])) : LW p l0 e s m b below meth c H locs cells slots Q (188, ll b (adX 0) (adM 0) qo (nI i), []) := by
  obtain ⟨r, sX1, sM1, e1, e2, hi⟩ : Ag mX11_feed mX12_feed [.int (xs (nI i + 1).toNatClampNeg), .int (xs (nI i + 2).toNatClampNeg), .int (xs (nI i + 3).toNatClampNeg), .int (xs (nI i + 4).toNatClampNeg), .int (xs (nI i + 5).toNatClampNeg)] sX sM I := hS.1 _ _ _ _ _
  obtain ⟨hr1, hr2⟩ := hroom sX1 sM1 hi
  refine LW_n C0 hI.2.2.2.2.1 26 rfl ⟨⟨rfl, h1⟩, ⟨rfl, h2⟩, ⟨rfl, h3⟩, ⟨rfl, h4⟩, ⟨rfl, h5⟩, trivial⟩ ?_
  refine LW_X C0 hI vX11_feed e1 rfl kL_19 (fun _ => rfl) (fun _ => rfl) rfl rfl rfl (zx0 sX rfl) hr1 hr2 (fun H1 locs1 adX1 q1 hI => ?_)
  refine LW_n C0 hI.2.2.2.2.1 26 rfl ⟨⟨rfl, h1⟩, ⟨rfl, h2⟩, ⟨rfl, h3⟩, ⟨rfl, h4⟩, ⟨rfl, h5⟩, trivial⟩ ?_
  refine LW_M C0 hI vX12_feed e2 rfl kL_23 (fun _ => rfl) (fun _ => rfl) rfl rfl rfl rfl hr1 hr2 (fun H1 locs1 adM1 q2 hI => ?_)
  exact LW_b C0 rfl (fun _ => k H1 locs1 adX1 adM1 sX1 sM1 q1 q2 hI hi) (fun h => absurd rfl h)
set_option maxRecDepth 100000 in
set_option maxHeartbeats 4000000 in
theorem lc_1 (C0 : lw_At p s m meth c b L xs) (hI : LI dC dI dA s H locs adX adM qo sX sM z) (h1 : vp_in (nI i + 1) L) (h2 : vp_in (nI i + 2) L) (h3 : vp_in (nI i + 3) L) (h4 : vp_in (nI i + 4) L) (h5 : vp_in (nI i + 5) L) (hS : Sim sX sM I) (hroom : ∀ sX1 sM1, I sX1 sM1 → cells + (ZX.2.1 sX1 - ZX.2.1 sX) ≤ 600002 ∧ slots + (ZX.2.2.1 sX1 - ZX.2.2.1 sX) ≤ 7302231) (k : ∀ (H1 : Heap) (locs1 : List Loc) (adX1 adM1 : Nat → Nat) (sX1 : SX) (sM1 : SM), adX1 0 = adX 0 → adM1 0 = adM 0 → LI dC dI dA s H1 locs1 adX1 adM1 qo sX1 sM1 z → I sX1 sM1 → LW p l0 e s m b below meth c H1 locs1 (cells + (ZX.2.1 sX1 - ZX.2.1 sX)) (slots + (ZX.2.2.1 sX1 - ZX.2.2.1 sX)) Q (1584, ll b (adX 0) (adM 0) qo (nI i), [])) : LW p l0 e s m b below meth c H locs cells slots Q (261, ll b (adX 0) (adM 0) qo (nI i), []) := by
  obtain ⟨r, sX1, sM1, e1, e2, hi⟩ : Ag mX11_end mX12_end [.int (xs (nI i + 1).toNatClampNeg)] sX sM I := hS.2.1 _
  obtain ⟨hr1, hr2⟩ := hroom sX1 sM1 hi
  refine LW_n C0 hI.2.2.2.2.1 6 rfl ⟨⟨rfl, h1⟩, trivial⟩ ?_
  refine LW_X C0 hI vX11_end e1 rfl kL_24 (fun _ => rfl) (fun _ => rfl) rfl rfl rfl (zx0 sX rfl) hr1 hr2 (fun H1 locs1 adX1 q1 hI => ?_)
  refine LW_n C0 hI.2.2.2.2.1 6 rfl ⟨⟨rfl, h1⟩, trivial⟩ ?_
  refine LW_M C0 hI vX12_end e2 rfl kL_28 (fun _ => rfl) (fun _ => rfl) rfl rfl rfl rfl hr1 hr2 (fun H1 locs1 adM1 q2 hI => ?_)
  exact LW_b C0 rfl (fun _ => k H1 locs1 adX1 adM1 sX1 sM1 q1 q2 hI hi) (fun h => absurd rfl h)
set_option maxRecDepth 100000 in
set_option maxHeartbeats 4000000 in
theorem lc_2 (C0 : lw_At p s m meth c b L xs) (hI : LI dC dI dA s H locs adX adM qo sX sM z) (h1 : vp_in (nI i + 1) L) (h2 : vp_in (nI i + 2) L) (h3 : vp_in (nI i + 3) L) (h4 : vp_in (nI i + 4) L) (h5 : vp_in (nI i + 5) L) (hS : Sim sX sM I) (hroom : ∀ sX1 sM1, I sX1 sM1 → cells + (ZX.2.1 sX1 - ZX.2.1 sX) ≤ 600002 ∧ slots + (ZX.2.2.1 sX1 - ZX.2.2.1 sX) ≤ 7302231) (k : ∀ (H1 : Heap) (locs1 : List Loc) (adX1 adM1 : Nat → Nat) (sX1 : SX) (sM1 : SM), adX1 0 = adX 0 → adM1 0 = adM 0 → LI dC dI dA s H1 locs1 adX1 adM1 qo sX1 sM1 z → I sX1 sM1 → LW p l0 e s m b below meth c H1 locs1 (cells + (ZX.2.1 sX1 - ZX.2.1 sX)) (slots + (ZX.2.2.1 sX1 - ZX.2.2.1 sX)) Q (1584, ll b (adX 0) (adM 0) qo (nI i), [])) : LW p l0 e s m b below meth c H locs cells slots Q (286, ll b (adX 0) (adM 0) qo (nI i), []) := by
  obtain ⟨r, sX1, sM1, e1, e2, hi⟩ : Ag mX11_fault mX12_fault [.int (xs (nI i + 1).toNatClampNeg)] sX sM I := hS.2.2.1 _
  obtain ⟨hr1, hr2⟩ := hroom sX1 sM1 hi
  refine LW_n C0 hI.2.2.2.2.1 6 rfl ⟨⟨rfl, h1⟩, trivial⟩ ?_
  refine LW_X C0 hI vX11_fault e1 rfl kL_29 (fun _ => rfl) (fun _ => rfl) rfl rfl rfl (zx0 sX rfl) hr1 hr2 (fun H1 locs1 adX1 q1 hI => ?_)
  refine LW_n C0 hI.2.2.2.2.1 6 rfl ⟨⟨rfl, h1⟩, trivial⟩ ?_
  refine LW_M C0 hI vX12_fault e2 rfl kL_33 (fun _ => rfl) (fun _ => rfl) rfl rfl rfl rfl hr1 hr2 (fun H1 locs1 adM1 q2 hI => ?_)
  exact LW_b C0 rfl (fun _ => k H1 locs1 adX1 adM1 sX1 sM1 q1 q2 hI hi) (fun h => absurd rfl h)
set_option maxRecDepth 100000 in
set_option maxHeartbeats 4000000 in
theorem lc_3 (C0 : lw_At p s m meth c b L xs) (hI : LI dC dI dA s H locs adX adM qo sX sM z) (h1 : vp_in (nI i + 1) L) (h2 : vp_in (nI i + 2) L) (h3 : vp_in (nI i + 3) L) (h4 : vp_in (nI i + 4) L) (h5 : vp_in (nI i + 5) L) (hS : Sim sX sM I) (hroom : ∀ sX1 sM1, I sX1 sM1 → cells + (ZX.2.1 sX1 - ZX.2.1 sX) ≤ 600002 ∧ slots + (ZX.2.2.1 sX1 - ZX.2.2.1 sX) ≤ 7302231) (k : ∀ (H1 : Heap) (locs1 : List Loc) (adX1 adM1 : Nat → Nat) (sX1 : SX) (sM1 : SM), adX1 0 = adX 0 → adM1 0 = adM 0 → LI dC dI dA s H1 locs1 adX1 adM1 qo sX1 sM1 z → I sX1 sM1 → LW p l0 e s m b below meth c H1 locs1 (cells + (ZX.2.1 sX1 - ZX.2.1 sX)) (slots + (ZX.2.2.1 sX1 - ZX.2.2.1 sX)) Q (1584, ll b (adX 0) (adM 0) qo (nI i), [])) : LW p l0 e s m b below meth c H locs cells slots Q (311, ll b (adX 0) (adM 0) qo (nI i), []) := by
  obtain ⟨r, sX1, sM1, e1, e2, hi⟩ : Ag mX11_text mX12_text [.int (xs (nI i + 1).toNatClampNeg)] sX sM I := hS.2.2.2.1 _
  obtain ⟨hr1, hr2⟩ := hroom sX1 sM1 hi
  refine LW_n C0 hI.2.2.2.2.1 6 rfl ⟨⟨rfl, h1⟩, trivial⟩ ?_
  refine LW_X C0 hI vX11_text e1 rfl kL_34 (fun _ => rfl) (fun _ => rfl) rfl rfl rfl (zx0 sX rfl) hr1 hr2 (fun H1 locs1 adX1 q1 hI => ?_)
  refine LW_n C0 hI.2.2.2.2.1 6 rfl ⟨⟨rfl, h1⟩, trivial⟩ ?_
  refine LW_M C0 hI vX12_text e2 rfl kL_37 (fun _ => rfl) (fun _ => rfl) rfl rfl rfl rfl hr1 hr2 (fun H1 locs1 adM1 q2 hI => ?_)
  exact LW_b C0 rfl (fun _ => k H1 locs1 adX1 adM1 sX1 sM1 q1 q2 hI hi) (fun h => absurd rfl h)
set_option maxRecDepth 100000 in
set_option maxHeartbeats 4000000 in
theorem lc_5 (C0 : lw_At p s m meth c b L xs) (hI : LI dC dI dA s H locs adX adM qo sX sM z) (h1 : vp_in (nI i + 1) L) (h2 : vp_in (nI i + 2) L) (h3 : vp_in (nI i + 3) L) (h4 : vp_in (nI i + 4) L) (h5 : vp_in (nI i + 5) L) (hS : Sim sX sM I) (hroom : ∀ sX1 sM1, I sX1 sM1 → cells + (ZX.2.1 sX1 - ZX.2.1 sX) ≤ 600002 ∧ slots + (ZX.2.2.1 sX1 - ZX.2.2.1 sX) ≤ 7302231) (k : ∀ (H1 : Heap) (locs1 : List Loc) (adX1 adM1 : Nat → Nat) (sX1 : SX) (sM1 : SM), adX1 0 = adX 0 → adM1 0 = adM 0 → LI dC dI dA s H1 locs1 adX1 adM1 qo sX1 sM1 z → I sX1 sM1 → LW p l0 e s m b below meth c H1 locs1 (cells + (ZX.2.1 sX1 - ZX.2.1 sX)) (slots + (ZX.2.2.1 sX1 - ZX.2.2.1 sX)) Q (1584, ll b (adX 0) (adM 0) qo (nI i), [])) : LW p l0 e s m b below meth c H locs cells slots Q (404, ll b (adX 0) (adM 0) qo (nI i), []) := by
  obtain ⟨r, sX1, sM1, e1, e2, hi⟩ : Ag mX11_letter mX12_letter [.int (xs (nI i + 1).toNatClampNeg), .int (xs (nI i + 2).toNatClampNeg)] sX sM I := hS.2.2.2.2.1 _ _
  obtain ⟨hr1, hr2⟩ := hroom sX1 sM1 hi
  refine LW_n C0 hI.2.2.2.2.1 11 rfl ⟨⟨rfl, h1⟩, ⟨rfl, h2⟩, trivial⟩ ?_
  refine LW_X C0 hI vX11_letter e1 rfl kL_48 (fun _ => rfl) (fun _ => rfl) rfl rfl rfl (zx0 sX rfl) hr1 hr2 (fun H1 locs1 adX1 q1 hI => ?_)
  refine LW_n C0 hI.2.2.2.2.1 11 rfl ⟨⟨rfl, h1⟩, ⟨rfl, h2⟩, trivial⟩ ?_
  refine LW_M C0 hI vX12_letter e2 rfl kL_51 (fun _ => rfl) (fun _ => rfl) rfl rfl rfl rfl hr1 hr2 (fun H1 locs1 adM1 q2 hI => ?_)
  exact LW_b C0 rfl (fun _ => k H1 locs1 adX1 adM1 sX1 sM1 q1 q2 hI hi) (fun h => absurd rfl h)
set_option maxRecDepth 100000 in
set_option maxHeartbeats 4000000 in
theorem lc_6 (C0 : lw_At p s m meth c b L xs) (hI : LI dC dI dA s H locs adX adM qo sX sM z) (h1 : vp_in (nI i + 1) L) (h2 : vp_in (nI i + 2) L) (h3 : vp_in (nI i + 3) L) (h4 : vp_in (nI i + 4) L) (h5 : vp_in (nI i + 5) L) (hS : Sim sX sM I) (hroom : ∀ sX1 sM1, I sX1 sM1 → cells + (ZX.2.1 sX1 - ZX.2.1 sX) ≤ 600002 ∧ slots + (ZX.2.2.1 sX1 - ZX.2.2.1 sX) ≤ 7302231) (k : ∀ (H1 : Heap) (locs1 : List Loc) (adX1 adM1 : Nat → Nat) (sX1 : SX) (sM1 : SM), adX1 0 = adX 0 → adM1 0 = adM 0 → LI dC dI dA s H1 locs1 adX1 adM1 qo sX1 sM1 z → I sX1 sM1 → LW p l0 e s m b below meth c H1 locs1 (cells + (ZX.2.1 sX1 - ZX.2.1 sX)) (slots + (ZX.2.2.1 sX1 - ZX.2.2.1 sX)) Q (1584, ll b (adX 0) (adM 0) qo (nI i), [])) : LW p l0 e s m b below meth c H locs cells slots Q (441, ll b (adX 0) (adM 0) qo (nI i), []) := by
  obtain ⟨r, sX1, sM1, e1, e2, hi⟩ : Ag mX11_sign mX12_sign [.int (xs (nI i + 1).toNatClampNeg), .int (xs (nI i + 2).toNatClampNeg)] sX sM I := hS.2.2.2.2.2.1 _ _
  obtain ⟨hr1, hr2⟩ := hroom sX1 sM1 hi
  refine LW_n C0 hI.2.2.2.2.1 11 rfl ⟨⟨rfl, h1⟩, ⟨rfl, h2⟩, trivial⟩ ?_
  refine LW_X C0 hI vX11_sign e1 rfl kL_52 (fun _ => rfl) (fun _ => rfl) rfl rfl rfl (zx0 sX rfl) hr1 hr2 (fun H1 locs1 adX1 q1 hI => ?_)
  refine LW_n C0 hI.2.2.2.2.1 11 rfl ⟨⟨rfl, h1⟩, ⟨rfl, h2⟩, trivial⟩ ?_
  refine LW_M C0 hI vX12_sign e2 rfl kL_55 (fun _ => rfl) (fun _ => rfl) rfl rfl rfl rfl hr1 hr2 (fun H1 locs1 adM1 q2 hI => ?_)
  exact LW_b C0 rfl (fun _ => k H1 locs1 adX1 adM1 sX1 sM1 q1 q2 hI hi) (fun h => absurd rfl h)
set_option maxRecDepth 100000 in
set_option maxHeartbeats 4000000 in
theorem lc_7 (C0 : lw_At p s m meth c b L xs) (hI : LI dC dI dA s H locs adX adM qo sX sM z) (h1 : vp_in (nI i + 1) L) (h2 : vp_in (nI i + 2) L) (h3 : vp_in (nI i + 3) L) (h4 : vp_in (nI i + 4) L) (h5 : vp_in (nI i + 5) L) (hS : Sim sX sM I) (hroom : ∀ sX1 sM1, I sX1 sM1 → cells + (ZX.2.1 sX1 - ZX.2.1 sX) ≤ 600002 ∧ slots + (ZX.2.2.1 sX1 - ZX.2.2.1 sX) ≤ 7302231) (k : ∀ (H1 : Heap) (locs1 : List Loc) (adX1 adM1 : Nat → Nat) (sX1 : SX) (sM1 : SM), adX1 0 = adX 0 → adM1 0 = adM 0 → LI dC dI dA s H1 locs1 adX1 adM1 qo sX1 sM1 z → I sX1 sM1 → LW p l0 e s m b below meth c H1 locs1 (cells + (ZX.2.1 sX1 - ZX.2.1 sX)) (slots + (ZX.2.2.1 sX1 - ZX.2.2.1 sX)) Q (1584, ll b (adX 0) (adM 0) qo (nI i), [])) : LW p l0 e s m b below meth c H locs cells slots Q (478, ll b (adX 0) (adM 0) qo (nI i), []) := by
  obtain ⟨r, sX1, sM1, e1, e2, hi⟩ : Ag mX11_name mX12_name [.int (xs (nI i + 1).toNatClampNeg), .int (xs (nI i + 2).toNatClampNeg)] sX sM I := hS.2.2.2.2.2.2.1 _ _
  obtain ⟨hr1, hr2⟩ := hroom sX1 sM1 hi
  refine LW_n C0 hI.2.2.2.2.1 11 rfl ⟨⟨rfl, h1⟩, ⟨rfl, h2⟩, trivial⟩ ?_
  refine LW_X C0 hI vX11_name e1 rfl kL_56 (fun _ => rfl) (fun _ => rfl) rfl rfl rfl (zx0 sX rfl) hr1 hr2 (fun H1 locs1 adX1 q1 hI => ?_)
  refine LW_n C0 hI.2.2.2.2.1 11 rfl ⟨⟨rfl, h1⟩, ⟨rfl, h2⟩, trivial⟩ ?_
  refine LW_M C0 hI vX12_name e2 rfl kL_59 (fun _ => rfl) (fun _ => rfl) rfl rfl rfl rfl hr1 hr2 (fun H1 locs1 adM1 q2 hI => ?_)
  exact LW_b C0 rfl (fun _ => k H1 locs1 adX1 adM1 sX1 sM1 q1 q2 hI hi) (fun h => absurd rfl h)
set_option maxRecDepth 100000 in
set_option maxHeartbeats 4000000 in
theorem lc_8 (C0 : lw_At p s m meth c b L xs) (hI : LI dC dI dA s H locs adX adM qo sX sM z) (h1 : vp_in (nI i + 1) L) (h2 : vp_in (nI i + 2) L) (h3 : vp_in (nI i + 3) L) (h4 : vp_in (nI i + 4) L) (h5 : vp_in (nI i + 5) L) (hS : Sim sX sM I) (hroom : ∀ sX1 sM1, I sX1 sM1 → cells + (ZX.2.1 sX1 - ZX.2.1 sX) ≤ 600002 ∧ slots + (ZX.2.2.1 sX1 - ZX.2.2.1 sX) ≤ 7302231) (k : ∀ (H1 : Heap) (locs1 : List Loc) (adX1 adM1 : Nat → Nat) (sX1 : SX) (sM1 : SM), adX1 0 = adX 0 → adM1 0 = adM 0 → LI dC dI dA s H1 locs1 adX1 adM1 qo sX1 sM1 z → I sX1 sM1 → LW p l0 e s m b below meth c H1 locs1 (cells + (ZX.2.1 sX1 - ZX.2.1 sX)) (slots + (ZX.2.2.1 sX1 - ZX.2.2.1 sX)) Q (1584, ll b (adX 0) (adM 0) qo (nI i), [])) : LW p l0 e s m b below meth c H locs cells slots Q (515, ll b (adX 0) (adM 0) qo (nI i), []) := by
  obtain ⟨r, sX1, sM1, e1, e2, hi⟩ : Ag mX11_trees mX12_trees [.int (xs (nI i + 1).toNatClampNeg), .int (xs (nI i + 2).toNatClampNeg), .int (xs (nI i + 3).toNatClampNeg)] sX sM I := hS.2.2.2.2.2.2.2.1 _ _ _
  obtain ⟨hr1, hr2⟩ := hroom sX1 sM1 hi
  refine LW_n C0 hI.2.2.2.2.1 16 rfl ⟨⟨rfl, h1⟩, ⟨rfl, h2⟩, ⟨rfl, h3⟩, trivial⟩ ?_
  refine LW_X C0 hI vX11_trees e1 rfl kL_60 (fun _ => rfl) (fun _ => rfl) rfl rfl rfl (zx0 sX rfl) hr1 hr2 (fun H1 locs1 adX1 q1 hI => ?_)
  refine LW_n C0 hI.2.2.2.2.1 16 rfl ⟨⟨rfl, h1⟩, ⟨rfl, h2⟩, ⟨rfl, h3⟩, trivial⟩ ?_
  refine LW_M C0 hI vX12_trees e2 rfl kL_64 (fun _ => rfl) (fun _ => rfl) rfl rfl rfl rfl hr1 hr2 (fun H1 locs1 adM1 q2 hI => ?_)
  exact LW_b C0 rfl (fun _ => k H1 locs1 adX1 adM1 sX1 sM1 q1 q2 hI hi) (fun h => absurd rfl h)
set_option maxRecDepth 100000 in
set_option maxHeartbeats 4000000 in
theorem lc_9 (C0 : lw_At p s m meth c b L xs) (hI : LI dC dI dA s H locs adX adM qo sX sM z) (h1 : vp_in (nI i + 1) L) (h2 : vp_in (nI i + 2) L) (h3 : vp_in (nI i + 3) L) (h4 : vp_in (nI i + 4) L) (h5 : vp_in (nI i + 5) L) (hS : Sim sX sM I) (hroom : ∀ sX1 sM1, I sX1 sM1 → cells + (ZX.2.1 sX1 - ZX.2.1 sX) ≤ 600002 ∧ slots + (ZX.2.2.1 sX1 - ZX.2.2.1 sX) ≤ 7302231) (k : ∀ (H1 : Heap) (locs1 : List Loc) (adX1 adM1 : Nat → Nat) (sX1 : SX) (sM1 : SM), adX1 0 = adX 0 → adM1 0 = adM 0 → LI dC dI dA s H1 locs1 adX1 adM1 qo sX1 sM1 z → I sX1 sM1 → LW p l0 e s m b below meth c H1 locs1 (cells + (ZX.2.1 sX1 - ZX.2.1 sX)) (slots + (ZX.2.2.1 sX1 - ZX.2.2.1 sX)) Q (1584, ll b (adX 0) (adM 0) qo (nI i), [])) : LW p l0 e s m b below meth c H locs cells slots Q (564, ll b (adX 0) (adM 0) qo (nI i), []) := by
  obtain ⟨r, sX1, sM1, e1, e2, hi⟩ : Ag mX11_names mX12_names [.int (xs (nI i + 1).toNatClampNeg)] sX sM I := hS.2.2.2.2.2.2.2.2.1 _
  obtain ⟨hr1, hr2⟩ := hroom sX1 sM1 hi
  refine LW_n C0 hI.2.2.2.2.1 6 rfl ⟨⟨rfl, h1⟩, trivial⟩ ?_
  refine LW_X C0 hI vX11_names e1 rfl kL_65 (fun _ => rfl) (fun _ => rfl) rfl rfl rfl (zx0 sX rfl) hr1 hr2 (fun H1 locs1 adX1 q1 hI => ?_)
  refine LW_n C0 hI.2.2.2.2.1 6 rfl ⟨⟨rfl, h1⟩, trivial⟩ ?_
  refine LW_M C0 hI vX12_names e2 rfl kL_68 (fun _ => rfl) (fun _ => rfl) rfl rfl rfl rfl hr1 hr2 (fun H1 locs1 adM1 q2 hI => ?_)
  exact LW_b C0 rfl (fun _ => k H1 locs1 adX1 adM1 sX1 sM1 q1 q2 hI hi) (fun h => absurd rfl h)
set_option maxRecDepth 100000 in
set_option maxHeartbeats 4000000 in
theorem lc_10 (C0 : lw_At p s m meth c b L xs) (hI : LI dC dI dA s H locs adX adM qo sX sM z) (h1 : vp_in (nI i + 1) L) (h2 : vp_in (nI i + 2) L) (h3 : vp_in (nI i + 3) L) (h4 : vp_in (nI i + 4) L) (h5 : vp_in (nI i + 5) L) (hS : Sim sX sM I) (hroom : ∀ sX1 sM1, I sX1 sM1 → cells + (ZX.2.1 sX1 - ZX.2.1 sX) ≤ 600002 ∧ slots + (ZX.2.2.1 sX1 - ZX.2.2.1 sX) ≤ 7302231) (k : ∀ (H1 : Heap) (locs1 : List Loc) (adX1 adM1 : Nat → Nat) (sX1 : SX) (sM1 : SM), adX1 0 = adX 0 → adM1 0 = adM 0 → LI dC dI dA s H1 locs1 adX1 adM1 qo sX1 sM1 z → I sX1 sM1 → LW p l0 e s m b below meth c H1 locs1 (cells + (ZX.2.1 sX1 - ZX.2.1 sX)) (slots + (ZX.2.2.1 sX1 - ZX.2.2.1 sX)) Q (1584, ll b (adX 0) (adM 0) qo (nI i), [])) : LW p l0 e s m b below meth c H locs cells slots Q (589, ll b (adX 0) (adM 0) qo (nI i), []) := by
  obtain ⟨r, sX1, sM1, e1, e2, hi⟩ : Ag mX11_toggle mX12_toggle [.int (xs (nI i + 1).toNatClampNeg)] sX sM I := hS.2.2.2.2.2.2.2.2.2.1 _
  obtain ⟨hr1, hr2⟩ := hroom sX1 sM1 hi
  refine LW_n C0 hI.2.2.2.2.1 6 rfl ⟨⟨rfl, h1⟩, trivial⟩ ?_
  refine LW_X C0 hI vX11_toggle e1 rfl kL_69 (fun _ => rfl) (fun _ => rfl) rfl rfl rfl (zx0 sX rfl) hr1 hr2 (fun H1 locs1 adX1 q1 hI => ?_)
  refine LW_n C0 hI.2.2.2.2.1 6 rfl ⟨⟨rfl, h1⟩, trivial⟩ ?_
  refine LW_M C0 hI vX12_toggle e2 rfl kL_72 (fun _ => rfl) (fun _ => rfl) rfl rfl rfl rfl hr1 hr2 (fun H1 locs1 adM1 q2 hI => ?_)
  exact LW_b C0 rfl (fun _ => k H1 locs1 adX1 adM1 sX1 sM1 q1 q2 hI hi) (fun h => absurd rfl h)
set_option maxRecDepth 100000 in
set_option maxHeartbeats 4000000 in
theorem lc_11 (C0 : lw_At p s m meth c b L xs) (hI : LI dC dI dA s H locs adX adM qo sX sM z) (h1 : vp_in (nI i + 1) L) (h2 : vp_in (nI i + 2) L) (h3 : vp_in (nI i + 3) L) (h4 : vp_in (nI i + 4) L) (h5 : vp_in (nI i + 5) L) (hS : Sim sX sM I) (hroom : ∀ sX1 sM1, I sX1 sM1 → cells + (ZX.2.1 sX1 - ZX.2.1 sX) ≤ 600002 ∧ slots + (ZX.2.2.1 sX1 - ZX.2.2.1 sX) ≤ 7302231) (k : ∀ (H1 : Heap) (locs1 : List Loc) (adX1 adM1 : Nat → Nat) (sX1 : SX) (sM1 : SM), adX1 0 = adX 0 → adM1 0 = adM 0 → LI dC dI dA s H1 locs1 adX1 adM1 qo sX1 sM1 z → I sX1 sM1 → LW p l0 e s m b below meth c H1 locs1 (cells + (ZX.2.1 sX1 - ZX.2.1 sX)) (slots + (ZX.2.2.1 sX1 - ZX.2.2.1 sX)) Q (1584, ll b (adX 0) (adM 0) qo (nI i), [])) : LW p l0 e s m b below meth c H locs cells slots Q (614, ll b (adX 0) (adM 0) qo (nI i), []) := by
  obtain ⟨r, sX1, sM1, e1, e2, hi⟩ : Ag mX11_prefer mX12_prefer [.int (xs (nI i + 1).toNatClampNeg)] sX sM I := hS.2.2.2.2.2.2.2.2.2.2.1 _
  obtain ⟨hr1, hr2⟩ := hroom sX1 sM1 hi
  refine LW_n C0 hI.2.2.2.2.1 6 rfl ⟨⟨rfl, h1⟩, trivial⟩ ?_
  refine LW_X C0 hI vX11_prefer e1 rfl kL_73 (fun _ => rfl) (fun _ => rfl) rfl rfl rfl (zx0 sX rfl) hr1 hr2 (fun H1 locs1 adX1 q1 hI => ?_)
  refine LW_n C0 hI.2.2.2.2.1 6 rfl ⟨⟨rfl, h1⟩, trivial⟩ ?_
  refine LW_M C0 hI vX12_prefer e2 rfl kL_76 (fun _ => rfl) (fun _ => rfl) rfl rfl rfl rfl hr1 hr2 (fun H1 locs1 adM1 q2 hI => ?_)
  exact LW_b C0 rfl (fun _ => k H1 locs1 adX1 adM1 sX1 sM1 q1 q2 hI hi) (fun h => absurd rfl h)
set_option maxRecDepth 100000 in
set_option maxHeartbeats 4000000 in
theorem lc_12 (C0 : lw_At p s m meth c b L xs) (hI : LI dC dI dA s H locs adX adM qo sX sM z) (h1 : vp_in (nI i + 1) L) (h2 : vp_in (nI i + 2) L) (h3 : vp_in (nI i + 3) L) (h4 : vp_in (nI i + 4) L) (h5 : vp_in (nI i + 5) L) (hS : Sim sX sM I) (hroom : ∀ sX1 sM1, I sX1 sM1 → cells + (ZX.2.1 sX1 - ZX.2.1 sX) ≤ 600002 ∧ slots + (ZX.2.2.1 sX1 - ZX.2.2.1 sX) ≤ 7302231) (k : ∀ (H1 : Heap) (locs1 : List Loc) (adX1 adM1 : Nat → Nat) (sX1 : SX) (sM1 : SM), adX1 0 = adX 0 → adM1 0 = adM 0 → LI dC dI dA s H1 locs1 adX1 adM1 qo sX1 sM1 z → I sX1 sM1 → LW p l0 e s m b below meth c H1 locs1 (cells + (ZX.2.1 sX1 - ZX.2.1 sX)) (slots + (ZX.2.2.1 sX1 - ZX.2.2.1 sX)) Q (1584, ll b (adX 0) (adM 0) qo (nI i), [])) : LW p l0 e s m b below meth c H locs cells slots Q (639, ll b (adX 0) (adM 0) qo (nI i), []) := by
  obtain ⟨r, sX1, sM1, e1, e2, hi⟩ : Ag mX11_undo mX12_undo [] sX sM I := hS.2.2.2.2.2.2.2.2.2.2.2.1
  obtain ⟨hr1, hr2⟩ := hroom sX1 sM1 hi
  refine LW_n C0 hI.2.2.2.2.1 1 rfl trivial ?_
  refine LW_X C0 hI vX11_undo e1 rfl kL_77 (fun _ => rfl) (fun _ => rfl) rfl rfl rfl (zx0 sX rfl) hr1 hr2 (fun H1 locs1 adX1 q1 hI => ?_)
  refine LW_n C0 hI.2.2.2.2.1 1 rfl trivial ?_
  refine LW_M C0 hI vX12_undo e2 rfl kL_80 (fun _ => rfl) (fun _ => rfl) rfl rfl rfl rfl hr1 hr2 (fun H1 locs1 adM1 q2 hI => ?_)
  exact LW_b C0 rfl (fun _ => k H1 locs1 adX1 adM1 sX1 sM1 q1 q2 hI hi) (fun h => absurd rfl h)
set_option maxRecDepth 100000 in
set_option maxHeartbeats 4000000 in
theorem lc_13 (C0 : lw_At p s m meth c b L xs) (hI : LI dC dI dA s H locs adX adM qo sX sM z) (h1 : vp_in (nI i + 1) L) (h2 : vp_in (nI i + 2) L) (h3 : vp_in (nI i + 3) L) (h4 : vp_in (nI i + 4) L) (h5 : vp_in (nI i + 5) L) (hS : Sim sX sM I) (hroom : ∀ sX1 sM1, I sX1 sM1 → cells + (ZX.2.1 sX1 - ZX.2.1 sX) ≤ 600002 ∧ slots + (ZX.2.2.1 sX1 - ZX.2.2.1 sX) ≤ 7302231) (k : ∀ (H1 : Heap) (locs1 : List Loc) (adX1 adM1 : Nat → Nat) (sX1 : SX) (sM1 : SM), adX1 0 = adX 0 → adM1 0 = adM 0 → LI dC dI dA s H1 locs1 adX1 adM1 qo sX1 sM1 z → I sX1 sM1 → LW p l0 e s m b below meth c H1 locs1 (cells + (ZX.2.1 sX1 - ZX.2.1 sX)) (slots + (ZX.2.2.1 sX1 - ZX.2.2.1 sX)) Q (1584, ll b (adX 0) (adM 0) qo (nI i), [])) : LW p l0 e s m b below meth c H locs cells slots Q (652, ll b (adX 0) (adM 0) qo (nI i), []) := by
  obtain ⟨r, sX1, sM1, e1, e2, hi⟩ : Ag mX11_states mX12_states [.int (xs (nI i + 1).toNatClampNeg)] sX sM I := hS.2.2.2.2.2.2.2.2.2.2.2.2.1 _
  obtain ⟨hr1, hr2⟩ := hroom sX1 sM1 hi
  refine LW_n C0 hI.2.2.2.2.1 6 rfl ⟨⟨rfl, h1⟩, trivial⟩ ?_
  refine LW_X C0 hI vX11_states e1 rfl kL_81 (fun _ => rfl) (fun _ => rfl) rfl rfl rfl (zx0 sX rfl) hr1 hr2 (fun H1 locs1 adX1 q1 hI => ?_)
  refine LW_n C0 hI.2.2.2.2.1 6 rfl ⟨⟨rfl, h1⟩, trivial⟩ ?_
  refine LW_M C0 hI vX12_states e2 rfl kL_84 (fun _ => rfl) (fun _ => rfl) rfl rfl rfl rfl hr1 hr2 (fun H1 locs1 adM1 q2 hI => ?_)
  exact LW_b C0 rfl (fun _ => k H1 locs1 adX1 adM1 sX1 sM1 q1 q2 hI hi) (fun h => absurd rfl h)
set_option maxRecDepth 100000 in
set_option maxHeartbeats 4000000 in
theorem lc_14 (C0 : lw_At p s m meth c b L xs) (hI : LI dC dI dA s H locs adX adM qo sX sM z) (h1 : vp_in (nI i + 1) L) (h2 : vp_in (nI i + 2) L) (h3 : vp_in (nI i + 3) L) (h4 : vp_in (nI i + 4) L) (h5 : vp_in (nI i + 5) L) (hS : Sim sX sM I) (hroom : ∀ sX1 sM1, I sX1 sM1 → cells + (ZX.2.1 sX1 - ZX.2.1 sX) ≤ 600002 ∧ slots + (ZX.2.2.1 sX1 - ZX.2.2.1 sX) ≤ 7302231) (k : ∀ (H1 : Heap) (locs1 : List Loc) (adX1 adM1 : Nat → Nat) (sX1 : SX) (sM1 : SM), adX1 0 = adX 0 → adM1 0 = adM 0 → LI dC dI dA s H1 locs1 adX1 adM1 qo sX1 sM1 z → I sX1 sM1 → LW p l0 e s m b below meth c H1 locs1 (cells + (ZX.2.1 sX1 - ZX.2.1 sX)) (slots + (ZX.2.2.1 sX1 - ZX.2.2.1 sX)) Q (1584, ll b (adX 0) (adM 0) qo (nI i), [])) : LW p l0 e s m b below meth c H locs cells slots Q (677, ll b (adX 0) (adM 0) qo (nI i), []) := by
  by_cases hz : xs (nI i + 5).toNatClampNeg = 0
  · obtain ⟨r, sX1, sM1, e1, e2, hi⟩ : Ag mX11_look mX12_look [.int (xs (nI i + 1).toNatClampNeg), .int (xs (nI i + 2).toNatClampNeg), .int (xs (nI i + 3).toNatClampNeg), .int (xs (nI i + 4).toNatClampNeg), .int 0] sX sM I := hS.2.2.2.2.2.2.2.2.2.2.2.2.2.1 _ _ _ _ _ (Or.inl rfl)
    obtain ⟨hr1, hr2⟩ := hroom sX1 sM1 hi
    refine LW_n C0 hI.2.2.2.2.1 26 rfl ⟨⟨rfl, h1⟩, ⟨rfl, h2⟩, ⟨rfl, h3⟩, ⟨rfl, h4⟩, ⟨rfl, h5⟩, trivial⟩ ?_
    refine LW_b C0 rfl (fun _ => ?_) (fun h => absurd hz h)
    refine LW_n C0 hI.2.2.2.2.1 1 rfl trivial ?_
    refine LW_X C0 hI vX11_look e1 rfl kL_85 (fun _ => rfl) (fun _ => rfl) rfl rfl rfl (zx0 sX rfl) hr1 hr2 (fun H1 locs1 adX1 q1 hI => ?_)
    refine LW_n C0 hI.2.2.2.2.1 26 rfl ⟨⟨rfl, h1⟩, ⟨rfl, h2⟩, ⟨rfl, h3⟩, ⟨rfl, h4⟩, ⟨rfl, h5⟩, trivial⟩ ?_
    refine LW_b C0 rfl (fun _ => ?_) (fun h => absurd hz h)
    refine LW_n C0 hI.2.2.2.2.1 1 rfl trivial ?_
    refine LW_M C0 hI vX12_look e2 rfl kL_89 (fun _ => rfl) (fun _ => rfl) rfl rfl rfl rfl hr1 hr2 (fun H1 locs1 adM1 q2 hI => ?_)
    exact LW_b C0 rfl (fun _ => k H1 locs1 adX1 adM1 sX1 sM1 q1 q2 hI hi) (fun h => absurd rfl h)
  · obtain ⟨r, sX1, sM1, e1, e2, hi⟩ : Ag mX11_look mX12_look [.int (xs (nI i + 1).toNatClampNeg), .int (xs (nI i + 2).toNatClampNeg), .int (xs (nI i + 3).toNatClampNeg), .int (xs (nI i + 4).toNatClampNeg), .int 1] sX sM I := hS.2.2.2.2.2.2.2.2.2.2.2.2.2.1 _ _ _ _ _ (Or.inr rfl)
    obtain ⟨hr1, hr2⟩ := hroom sX1 sM1 hi
    refine LW_n C0 hI.2.2.2.2.1 26 rfl ⟨⟨rfl, h1⟩, ⟨rfl, h2⟩, ⟨rfl, h3⟩, ⟨rfl, h4⟩, ⟨rfl, h5⟩, trivial⟩ ?_
    refine LW_b C0 rfl (fun h => absurd h hz) (fun _ => ?_)
    refine LW_n C0 hI.2.2.2.2.1 2 rfl trivial ?_
    refine LW_X C0 hI vX11_look e1 rfl kL_85 (fun _ => rfl) (fun _ => rfl) rfl rfl rfl (zx0 sX rfl) hr1 hr2 (fun H1 locs1 adX1 q1 hI => ?_)
    refine LW_n C0 hI.2.2.2.2.1 26 rfl ⟨⟨rfl, h1⟩, ⟨rfl, h2⟩, ⟨rfl, h3⟩, ⟨rfl, h4⟩, ⟨rfl, h5⟩, trivial⟩ ?_
    refine LW_b C0 rfl (fun h => absurd h hz) (fun _ => ?_)
    refine LW_n C0 hI.2.2.2.2.1 2 rfl trivial ?_
    refine LW_M C0 hI vX12_look e2 rfl kL_89 (fun _ => rfl) (fun _ => rfl) rfl rfl rfl rfl hr1 hr2 (fun H1 locs1 adM1 q2 hI => ?_)
    exact LW_b C0 rfl (fun _ => k H1 locs1 adX1 adM1 sX1 sM1 q1 q2 hI hi) (fun h => absurd rfl h)
set_option maxRecDepth 100000 in
set_option maxHeartbeats 4000000 in
theorem lc_15 (C0 : lw_At p s m meth c b L xs) (hI : LI dC dI dA s H locs adX adM qo sX sM z) (h1 : vp_in (nI i + 1) L) (h2 : vp_in (nI i + 2) L) (h3 : vp_in (nI i + 3) L) (h4 : vp_in (nI i + 4) L) (h5 : vp_in (nI i + 5) L) (hS : Sim sX sM I) (hroom : ∀ sX1 sM1, I sX1 sM1 → cells + (ZX.2.1 sX1 - ZX.2.1 sX) ≤ 600002 ∧ slots + (ZX.2.2.1 sX1 - ZX.2.2.1 sX) ≤ 7302231) (k : ∀ (H1 : Heap) (locs1 : List Loc) (adX1 adM1 : Nat → Nat) (sX1 : SX) (sM1 : SM), adX1 0 = adX 0 → adM1 0 = adM 0 → LI dC dI dA s H1 locs1 adX1 adM1 qo sX1 sM1 z → I sX1 sM1 → LW p l0 e s m b below meth c H1 locs1 (cells + (ZX.2.1 sX1 - ZX.2.1 sX)) (slots + (ZX.2.2.1 sX1 - ZX.2.2.1 sX)) Q (1584, ll b (adX 0) (adM 0) qo (nI i), [])) : LW p l0 e s m b below meth c H locs cells slots Q (766, ll b (adX 0) (adM 0) qo (nI i), []) := by
  obtain ⟨r, sX1, sM1, e1, e2, hi⟩ : Ag mX11_state mX12_state [.int (xs (nI i + 1).toNatClampNeg), .int (xs (nI i + 2).toNatClampNeg), .int (xs (nI i + 3).toNatClampNeg)] sX sM I := hS.2.2.2.2.2.2.2.2.2.2.2.2.2.2.1 _ _ _
  obtain ⟨hr1, hr2⟩ := hroom sX1 sM1 hi
  refine LW_n C0 hI.2.2.2.2.1 16 rfl ⟨⟨rfl, h1⟩, ⟨rfl, h2⟩, ⟨rfl, h3⟩, trivial⟩ ?_
  refine LW_X C0 hI vX11_state e1 rfl kL_90 (fun _ => rfl) (fun _ => rfl) rfl rfl rfl (zx0 sX rfl) hr1 hr2 (fun H1 locs1 adX1 q1 hI => ?_)
  refine LW_n C0 hI.2.2.2.2.1 16 rfl ⟨⟨rfl, h1⟩, ⟨rfl, h2⟩, ⟨rfl, h3⟩, trivial⟩ ?_
  refine LW_M C0 hI vX12_state e2 rfl kL_93 (fun _ => rfl) (fun _ => rfl) rfl rfl rfl rfl hr1 hr2 (fun H1 locs1 adM1 q2 hI => ?_)
  exact LW_b C0 rfl (fun _ => k H1 locs1 adX1 adM1 sX1 sM1 q1 q2 hI hi) (fun h => absurd rfl h)
set_option maxRecDepth 100000 in
set_option maxHeartbeats 4000000 in
theorem lc_16 (C0 : lw_At p s m meth c b L xs) (hI : LI dC dI dA s H locs adX adM qo sX sM z) (h1 : vp_in (nI i + 1) L) (h2 : vp_in (nI i + 2) L) (h3 : vp_in (nI i + 3) L) (h4 : vp_in (nI i + 4) L) (h5 : vp_in (nI i + 5) L) (hS : Sim sX sM I) (hroom : ∀ sX1 sM1, I sX1 sM1 → cells + (ZX.2.1 sX1 - ZX.2.1 sX) ≤ 600002 ∧ slots + (ZX.2.2.1 sX1 - ZX.2.2.1 sX) ≤ 7302231) (k : ∀ (H1 : Heap) (locs1 : List Loc) (adX1 adM1 : Nat → Nat) (sX1 : SX) (sM1 : SM), adX1 0 = adX 0 → adM1 0 = adM 0 → LI dC dI dA s H1 locs1 adX1 adM1 qo sX1 sM1 z → I sX1 sM1 → LW p l0 e s m b below meth c H1 locs1 (cells + (ZX.2.1 sX1 - ZX.2.1 sX)) (slots + (ZX.2.2.1 sX1 - ZX.2.2.1 sX)) Q (1584, ll b (adX 0) (adM 0) qo (nI i), [])) : LW p l0 e s m b below meth c H locs cells slots Q (815, ll b (adX 0) (adM 0) qo (nI i), []) := by
  obtain ⟨r, sX1, sM1, e1, e2, hi⟩ : Ag mX11_goesTo mX12_goesTo [.int (xs (nI i + 1).toNatClampNeg), .int (xs (nI i + 2).toNatClampNeg), .int (xs (nI i + 3).toNatClampNeg)] sX sM I := hS.2.2.2.2.2.2.2.2.2.2.2.2.2.2.2.1 _ _ _
  obtain ⟨hr1, hr2⟩ := hroom sX1 sM1 hi
  refine LW_n C0 hI.2.2.2.2.1 16 rfl ⟨⟨rfl, h1⟩, ⟨rfl, h2⟩, ⟨rfl, h3⟩, trivial⟩ ?_
  refine LW_X C0 hI vX11_goesTo e1 rfl kL_94 (fun _ => rfl) (fun _ => rfl) rfl rfl rfl (zx0 sX rfl) hr1 hr2 (fun H1 locs1 adX1 q1 hI => ?_)
  refine LW_n C0 hI.2.2.2.2.1 16 rfl ⟨⟨rfl, h1⟩, ⟨rfl, h2⟩, ⟨rfl, h3⟩, trivial⟩ ?_
  refine LW_M C0 hI vX12_goesTo e2 rfl kL_97 (fun _ => rfl) (fun _ => rfl) rfl rfl rfl rfl hr1 hr2 (fun H1 locs1 adM1 q2 hI => ?_)
  exact LW_b C0 rfl (fun _ => k H1 locs1 adX1 adM1 sX1 sM1 q1 q2 hI hi) (fun h => absurd rfl h)
set_option maxRecDepth 100000 in
set_option maxHeartbeats 4000000 in
theorem lc_17 (C0 : lw_At p s m meth c b L xs) (hI : LI dC dI dA s H locs adX adM qo sX sM z) (h1 : vp_in (nI i + 1) L) (h2 : vp_in (nI i + 2) L) (h3 : vp_in (nI i + 3) L) (h4 : vp_in (nI i + 4) L) (h5 : vp_in (nI i + 5) L) (hS : Sim sX sM I) (hroom : ∀ sX1 sM1, I sX1 sM1 → cells + (ZX.2.1 sX1 - ZX.2.1 sX) ≤ 600002 ∧ slots + (ZX.2.2.1 sX1 - ZX.2.2.1 sX) ≤ 7302231) (k : ∀ (H1 : Heap) (locs1 : List Loc) (adX1 adM1 : Nat → Nat) (sX1 : SX) (sM1 : SM), adX1 0 = adX 0 → adM1 0 = adM 0 → LI dC dI dA s H1 locs1 adX1 adM1 qo sX1 sM1 z → I sX1 sM1 → LW p l0 e s m b below meth c H1 locs1 (cells + (ZX.2.1 sX1 - ZX.2.1 sX)) (slots + (ZX.2.2.1 sX1 - ZX.2.2.1 sX)) Q (1584, ll b (adX 0) (adM 0) qo (nI i), [])) : LW p l0 e s m b below meth c H locs cells slots Q (864, ll b (adX 0) (adM 0) qo (nI i), []) := by
  by_cases hz : xs (nI i + 4).toNatClampNeg = 0
  · obtain ⟨r, sX1, sM1, e1, e2, hi⟩ : Ag mX11_action mX12_action [.int (xs (nI i + 1).toNatClampNeg), .int (xs (nI i + 2).toNatClampNeg), .int (xs (nI i + 3).toNatClampNeg), .int 0] sX sM I := hS.2.2.2.2.2.2.2.2.2.2.2.2.2.2.2.2.1 _ _ _ _ (Or.inl rfl)
    obtain ⟨hr1, hr2⟩ := hroom sX1 sM1 hi
    refine LW_n C0 hI.2.2.2.2.1 21 rfl ⟨⟨rfl, h1⟩, ⟨rfl, h2⟩, ⟨rfl, h3⟩, ⟨rfl, h4⟩, trivial⟩ ?_
    refine LW_b C0 rfl (fun _ => ?_) (fun h => absurd hz h)
    refine LW_n C0 hI.2.2.2.2.1 1 rfl trivial ?_
    refine LW_X C0 hI vX11_action e1 rfl kL_98 (fun _ => rfl) (fun _ => rfl) rfl rfl rfl (zx0 sX rfl) hr1 hr2 (fun H1 locs1 adX1 q1 hI => ?_)
    refine LW_n C0 hI.2.2.2.2.1 21 rfl ⟨⟨rfl, h1⟩, ⟨rfl, h2⟩, ⟨rfl, h3⟩, ⟨rfl, h4⟩, trivial⟩ ?_
    refine LW_b C0 rfl (fun _ => ?_) (fun h => absurd hz h)
    refine LW_n C0 hI.2.2.2.2.1 1 rfl trivial ?_
    refine LW_M C0 hI vX12_action e2 rfl kL_102 (fun _ => rfl) (fun _ => rfl) rfl rfl rfl rfl hr1 hr2 (fun H1 locs1 adM1 q2 hI => ?_)
    exact LW_b C0 rfl (fun _ => k H1 locs1 adX1 adM1 sX1 sM1 q1 q2 hI hi) (fun h => absurd rfl h)
  · obtain ⟨r, sX1, sM1, e1, e2, hi⟩ : Ag mX11_action mX12_action [.int (xs (nI i + 1).toNatClampNeg), .int (xs (nI i + 2).toNatClampNeg), .int (xs (nI i + 3).toNatClampNeg), .int 1] sX sM I := hS.2.2.2.2.2.2.2.2.2.2.2.2.2.2.2.2.1 _ _ _ _ (Or.inr rfl)
    obtain ⟨hr1, hr2⟩ := hroom sX1 sM1 hi
    refine LW_n C0 hI.2.2.2.2.1 21 rfl ⟨⟨rfl, h1⟩, ⟨rfl, h2⟩, ⟨rfl, h3⟩, ⟨rfl, h4⟩, trivial⟩ ?_
    refine LW_b C0 rfl (fun h => absurd h hz) (fun _ => ?_)
    refine LW_n C0 hI.2.2.2.2.1 2 rfl trivial ?_
    refine LW_X C0 hI vX11_action e1 rfl kL_98 (fun _ => rfl) (fun _ => rfl) rfl rfl rfl (zx0 sX rfl) hr1 hr2 (fun H1 locs1 adX1 q1 hI => ?_)
    refine LW_n C0 hI.2.2.2.2.1 21 rfl ⟨⟨rfl, h1⟩, ⟨rfl, h2⟩, ⟨rfl, h3⟩, ⟨rfl, h4⟩, trivial⟩ ?_
    refine LW_b C0 rfl (fun h => absurd h hz) (fun _ => ?_)
    refine LW_n C0 hI.2.2.2.2.1 2 rfl trivial ?_
    refine LW_M C0 hI vX12_action e2 rfl kL_102 (fun _ => rfl) (fun _ => rfl) rfl rfl rfl rfl hr1 hr2 (fun H1 locs1 adM1 q2 hI => ?_)
    exact LW_b C0 rfl (fun _ => k H1 locs1 adX1 adM1 sX1 sM1 q1 q2 hI hi) (fun h => absurd rfl h)
set_option maxRecDepth 100000 in
set_option maxHeartbeats 4000000 in
theorem lc_18 (C0 : lw_At p s m meth c b L xs) (hI : LI dC dI dA s H locs adX adM qo sX sM z) (h1 : vp_in (nI i + 1) L) (h2 : vp_in (nI i + 2) L) (h3 : vp_in (nI i + 3) L) (h4 : vp_in (nI i + 4) L) (h5 : vp_in (nI i + 5) L) (hS : Sim sX sM I) (hroom : ∀ sX1 sM1, I sX1 sM1 → cells + (ZX.2.1 sX1 - ZX.2.1 sX) ≤ 600002 ∧ slots + (ZX.2.2.1 sX1 - ZX.2.2.1 sX) ≤ 7302231) (k : ∀ (H1 : Heap) (locs1 : List Loc) (adX1 adM1 : Nat → Nat) (sX1 : SX) (sM1 : SM), adX1 0 = adX 0 → adM1 0 = adM 0 → LI dC dI dA s H1 locs1 adX1 adM1 qo sX1 sM1 z → I sX1 sM1 → LW p l0 e s m b below meth c H1 locs1 (cells + (ZX.2.1 sX1 - ZX.2.1 sX)) (slots + (ZX.2.2.1 sX1 - ZX.2.2.1 sX)) Q (1584, ll b (adX 0) (adM 0) qo (nI i), [])) : LW p l0 e s m b below meth c H locs cells slots Q (941, ll b (adX 0) (adM 0) qo (nI i), []) := by
  obtain ⟨r, sX1, sM1, e1, e2, hi⟩ : Ag mX11_bridge mX12_bridge [.int (xs (nI i + 1).toNatClampNeg), .int (xs (nI i + 2).toNatClampNeg), .int (xs (nI i + 3).toNatClampNeg), .int (xs (nI i + 4).toNatClampNeg)] sX sM I := hS.2.2.2.2.2.2.2.2.2.2.2.2.2.2.2.2.2.1 _ _ _ _
  obtain ⟨hr1, hr2⟩ := hroom sX1 sM1 hi
  refine LW_n C0 hI.2.2.2.2.1 21 rfl ⟨⟨rfl, h1⟩, ⟨rfl, h2⟩, ⟨rfl, h3⟩, ⟨rfl, h4⟩, trivial⟩ ?_
  refine LW_X C0 hI vX11_bridge e1 rfl kL_103 (fun _ => rfl) (fun _ => rfl) rfl rfl rfl (zx0 sX rfl) hr1 hr2 (fun H1 locs1 adX1 q1 hI => ?_)
  refine LW_n C0 hI.2.2.2.2.1 21 rfl ⟨⟨rfl, h1⟩, ⟨rfl, h2⟩, ⟨rfl, h3⟩, ⟨rfl, h4⟩, trivial⟩ ?_
  refine LW_M C0 hI vX12_bridge e2 rfl kL_107 (fun _ => rfl) (fun _ => rfl) rfl rfl rfl rfl hr1 hr2 (fun H1 locs1 adM1 q2 hI => ?_)
  exact LW_b C0 rfl (fun _ => k H1 locs1 adX1 adM1 sX1 sM1 q1 q2 hI hi) (fun h => absurd rfl h)
set_option maxRecDepth 100000 in
set_option maxHeartbeats 4000000 in
theorem lc_19 (C0 : lw_At p s m meth c b L xs) (hI : LI dC dI dA s H locs adX adM qo sX sM z) (h1 : vp_in (nI i + 1) L) (h2 : vp_in (nI i + 2) L) (h3 : vp_in (nI i + 3) L) (h4 : vp_in (nI i + 4) L) (h5 : vp_in (nI i + 5) L) (hS : Sim sX sM I) (hroom : ∀ sX1 sM1, I sX1 sM1 → cells + (ZX.2.1 sX1 - ZX.2.1 sX) ≤ 600002 ∧ slots + (ZX.2.2.1 sX1 - ZX.2.2.1 sX) ≤ 7302231) (k : ∀ (H1 : Heap) (locs1 : List Loc) (adX1 adM1 : Nat → Nat) (sX1 : SX) (sM1 : SM), adX1 0 = adX 0 → adM1 0 = adM 0 → LI dC dI dA s H1 locs1 adX1 adM1 qo sX1 sM1 z → I sX1 sM1 → LW p l0 e s m b below meth c H1 locs1 (cells + (ZX.2.1 sX1 - ZX.2.1 sX)) (slots + (ZX.2.2.1 sX1 - ZX.2.2.1 sX)) Q (1584, ll b (adX 0) (adM 0) qo (nI i), [])) : LW p l0 e s m b below meth c H locs cells slots Q (1002, ll b (adX 0) (adM 0) qo (nI i), []) := by
  obtain ⟨r, sX1, sM1, e1, e2, hi⟩ : Ag mX11_counts mX12_counts [.int (xs (nI i + 1).toNatClampNeg), .int (xs (nI i + 2).toNatClampNeg)] sX sM I := hS.2.2.2.2.2.2.2.2.2.2.2.2.2.2.2.2.2.2.1 _ _
  obtain ⟨hr1, hr2⟩ := hroom sX1 sM1 hi
  refine LW_n C0 hI.2.2.2.2.1 11 rfl ⟨⟨rfl, h1⟩, ⟨rfl, h2⟩, trivial⟩ ?_
  refine LW_X C0 hI vX11_counts e1 rfl kL_108 (fun _ => rfl) (fun _ => rfl) rfl rfl rfl (zx0 sX rfl) hr1 hr2 (fun H1 locs1 adX1 q1 hI => ?_)
  refine LW_n C0 hI.2.2.2.2.1 11 rfl ⟨⟨rfl, h1⟩, ⟨rfl, h2⟩, trivial⟩ ?_
  refine LW_M C0 hI vX12_counts e2 rfl kL_111 (fun _ => rfl) (fun _ => rfl) rfl rfl rfl rfl hr1 hr2 (fun H1 locs1 adM1 q2 hI => ?_)
  exact LW_b C0 rfl (fun _ => k H1 locs1 adX1 adM1 sX1 sM1 q1 q2 hI hi) (fun h => absurd rfl h)
set_option maxRecDepth 100000 in
set_option maxHeartbeats 4000000 in
theorem lc_20 (C0 : lw_At p s m meth c b L xs) (hI : LI dC dI dA s H locs adX adM qo sX sM z) (h1 : vp_in (nI i + 1) L) (h2 : vp_in (nI i + 2) L) (h3 : vp_in (nI i + 3) L) (h4 : vp_in (nI i + 4) L) (h5 : vp_in (nI i + 5) L) (hS : Sim sX sM I) (hroom : ∀ sX1 sM1, I sX1 sM1 → cells + (ZX.2.1 sX1 - ZX.2.1 sX) ≤ 600002 ∧ slots + (ZX.2.2.1 sX1 - ZX.2.2.1 sX) ≤ 7302231) (k : ∀ (H1 : Heap) (locs1 : List Loc) (adX1 adM1 : Nat → Nat) (sX1 : SX) (sM1 : SM), adX1 0 = adX 0 → adM1 0 = adM 0 → LI dC dI dA s H1 locs1 adX1 adM1 qo sX1 sM1 z → I sX1 sM1 → LW p l0 e s m b below meth c H1 locs1 (cells + (ZX.2.1 sX1 - ZX.2.1 sX)) (slots + (ZX.2.2.1 sX1 - ZX.2.2.1 sX)) Q (1584, ll b (adX 0) (adM 0) qo (nI i), [])) : LW p l0 e s m b below meth c H locs cells slots Q (1039, ll b (adX 0) (adM 0) qo (nI i), []) := by
  obtain ⟨r, sX1, sM1, e1, e2, hi⟩ : Ag mX11_path mX12_path [.int (xs (nI i + 1).toNatClampNeg), .int (xs (nI i + 2).toNatClampNeg), .int (xs (nI i + 3).toNatClampNeg)] sX sM I := hS.2.2.2.2.2.2.2.2.2.2.2.2.2.2.2.2.2.2.2.1 _ _ _
  obtain ⟨hr1, hr2⟩ := hroom sX1 sM1 hi
  refine LW_n C0 hI.2.2.2.2.1 16 rfl ⟨⟨rfl, h1⟩, ⟨rfl, h2⟩, ⟨rfl, h3⟩, trivial⟩ ?_
  refine LW_X C0 hI vX11_path e1 rfl kL_112 (fun _ => rfl) (fun _ => rfl) rfl rfl rfl (zx0 sX rfl) hr1 hr2 (fun H1 locs1 adX1 q1 hI => ?_)
  refine LW_n C0 hI.2.2.2.2.1 16 rfl ⟨⟨rfl, h1⟩, ⟨rfl, h2⟩, ⟨rfl, h3⟩, trivial⟩ ?_
  refine LW_M C0 hI vX12_path e2 rfl kL_115 (fun _ => rfl) (fun _ => rfl) rfl rfl rfl rfl hr1 hr2 (fun H1 locs1 adM1 q2 hI => ?_)
  exact LW_b C0 rfl (fun _ => k H1 locs1 adX1 adM1 sX1 sM1 q1 q2 hI hi) (fun h => absurd rfl h)
set_option maxRecDepth 100000 in
set_option maxHeartbeats 4000000 in
theorem lc_21 (C0 : lw_At p s m meth c b L xs) (hI : LI dC dI dA s H locs adX adM qo sX sM z) (h1 : vp_in (nI i + 1) L) (h2 : vp_in (nI i + 2) L) (h3 : vp_in (nI i + 3) L) (h4 : vp_in (nI i + 4) L) (h5 : vp_in (nI i + 5) L) (hS : Sim sX sM I) (hroom : ∀ sX1 sM1, I sX1 sM1 → cells + (ZX.2.1 sX1 - ZX.2.1 sX) ≤ 600002 ∧ slots + (ZX.2.2.1 sX1 - ZX.2.2.1 sX) ≤ 7302231) (k : ∀ (H1 : Heap) (locs1 : List Loc) (adX1 adM1 : Nat → Nat) (sX1 : SX) (sM1 : SM), adX1 0 = adX 0 → adM1 0 = adM 0 → LI dC dI dA s H1 locs1 adX1 adM1 qo sX1 sM1 z → I sX1 sM1 → LW p l0 e s m b below meth c H1 locs1 (cells + (ZX.2.1 sX1 - ZX.2.1 sX)) (slots + (ZX.2.2.1 sX1 - ZX.2.2.1 sX)) Q (1584, ll b (adX 0) (adM 0) qo (nI i), [])) : LW p l0 e s m b below meth c H locs cells slots Q (1088, ll b (adX 0) (adM 0) qo (nI i), []) := by
  obtain ⟨r, sX1, sM1, e1, e2, hi⟩ : Ag mX11_reads mX12_reads [.int (xs (nI i + 1).toNatClampNeg), .int (xs (nI i + 2).toNatClampNeg), .int (xs (nI i + 3).toNatClampNeg), .int (xs (nI i + 4).toNatClampNeg)] sX sM I := hS.2.2.2.2.2.2.2.2.2.2.2.2.2.2.2.2.2.2.2.2.1 _ _ _ _
  obtain ⟨hr1, hr2⟩ := hroom sX1 sM1 hi
  refine LW_n C0 hI.2.2.2.2.1 21 rfl ⟨⟨rfl, h1⟩, ⟨rfl, h2⟩, ⟨rfl, h3⟩, ⟨rfl, h4⟩, trivial⟩ ?_
  refine LW_X C0 hI vX11_reads e1 rfl kL_116 (fun _ => rfl) (fun _ => rfl) rfl rfl rfl (zx0 sX rfl) hr1 hr2 (fun H1 locs1 adX1 q1 hI => ?_)
  refine LW_n C0 hI.2.2.2.2.1 21 rfl ⟨⟨rfl, h1⟩, ⟨rfl, h2⟩, ⟨rfl, h3⟩, ⟨rfl, h4⟩, trivial⟩ ?_
  refine LW_M C0 hI vX12_reads e2 rfl kL_119 (fun _ => rfl) (fun _ => rfl) rfl rfl rfl rfl hr1 hr2 (fun H1 locs1 adM1 q2 hI => ?_)
  exact LW_b C0 rfl (fun _ => k H1 locs1 adX1 adM1 sX1 sM1 q1 q2 hI hi) (fun h => absurd rfl h)
set_option maxRecDepth 100000 in
set_option maxHeartbeats 4000000 in
theorem lc_22 (C0 : lw_At p s m meth c b L xs) (hI : LI dC dI dA s H locs adX adM qo sX sM z) (h1 : vp_in (nI i + 1) L) (h2 : vp_in (nI i + 2) L) (h3 : vp_in (nI i + 3) L) (h4 : vp_in (nI i + 4) L) (h5 : vp_in (nI i + 5) L) (hS : Sim sX sM I) (hroom : ∀ sX1 sM1, I sX1 sM1 → cells + (ZX.2.1 sX1 - ZX.2.1 sX) ≤ 600002 ∧ slots + (ZX.2.2.1 sX1 - ZX.2.2.1 sX) ≤ 7302231) (k : ∀ (H1 : Heap) (locs1 : List Loc) (adX1 adM1 : Nat → Nat) (sX1 : SX) (sM1 : SM), adX1 0 = adX 0 → adM1 0 = adM 0 → LI dC dI dA s H1 locs1 adX1 adM1 qo sX1 sM1 z → I sX1 sM1 → LW p l0 e s m b below meth c H1 locs1 (cells + (ZX.2.1 sX1 - ZX.2.1 sX)) (slots + (ZX.2.2.1 sX1 - ZX.2.2.1 sX)) Q (1584, ll b (adX 0) (adM 0) qo (nI i), [])) : LW p l0 e s m b below meth c H locs cells slots Q (1149, ll b (adX 0) (adM 0) qo (nI i), []) := by
  obtain ⟨r, sX1, sM1, e1, e2, hi⟩ : Ag mX11_reduced mX12_reduced [.int (xs (nI i + 1).toNatClampNeg), .int (xs (nI i + 2).toNatClampNeg), .int (xs (nI i + 3).toNatClampNeg), .int (xs (nI i + 4).toNatClampNeg)] sX sM I := hS.2.2.2.2.2.2.2.2.2.2.2.2.2.2.2.2.2.2.2.2.2.1 _ _ _ _
  obtain ⟨hr1, hr2⟩ := hroom sX1 sM1 hi
  refine LW_n C0 hI.2.2.2.2.1 21 rfl ⟨⟨rfl, h1⟩, ⟨rfl, h2⟩, ⟨rfl, h3⟩, ⟨rfl, h4⟩, trivial⟩ ?_
  refine LW_X C0 hI vX11_reduced e1 rfl kL_120 (fun _ => rfl) (fun _ => rfl) rfl rfl rfl (zx0 sX rfl) hr1 hr2 (fun H1 locs1 adX1 q1 hI => ?_)
  refine LW_n C0 hI.2.2.2.2.1 21 rfl ⟨⟨rfl, h1⟩, ⟨rfl, h2⟩, ⟨rfl, h3⟩, ⟨rfl, h4⟩, trivial⟩ ?_
  refine LW_M C0 hI vX12_reduced e2 rfl kL_123 (fun _ => rfl) (fun _ => rfl) rfl rfl rfl rfl hr1 hr2 (fun H1 locs1 adM1 q2 hI => ?_)
  exact LW_b C0 rfl (fun _ => k H1 locs1 adX1 adM1 sX1 sM1 q1 q2 hI hi) (fun h => absurd rfl h)
set_option maxRecDepth 100000 in
set_option maxHeartbeats 4000000 in
theorem lc_23 (C0 : lw_At p s m meth c b L xs) (hI : LI dC dI dA s H locs adX adM qo sX sM z) (h1 : vp_in (nI i + 1) L) (h2 : vp_in (nI i + 2) L) (h3 : vp_in (nI i + 3) L) (h4 : vp_in (nI i + 4) L) (h5 : vp_in (nI i + 5) L) (hS : Sim sX sM I) (hroom : ∀ sX1 sM1, I sX1 sM1 → cells + (ZX.2.1 sX1 - ZX.2.1 sX) ≤ 600002 ∧ slots + (ZX.2.2.1 sX1 - ZX.2.2.1 sX) ≤ 7302231) (k : ∀ (H1 : Heap) (locs1 : List Loc) (adX1 adM1 : Nat → Nat) (sX1 : SX) (sM1 : SM), adX1 0 = adX 0 → adM1 0 = adM 0 → LI dC dI dA s H1 locs1 adX1 adM1 qo sX1 sM1 z → I sX1 sM1 → LW p l0 e s m b below meth c H1 locs1 (cells + (ZX.2.1 sX1 - ZX.2.1 sX)) (slots + (ZX.2.2.1 sX1 - ZX.2.2.1 sX)) Q (1584, ll b (adX 0) (adM 0) qo (nI i), [])) : LW p l0 e s m b below meth c H locs cells slots Q (1210, ll b (adX 0) (adM 0) qo (nI i), []) := by
  obtain ⟨r, sX1, sM1, e1, e2, hi⟩ : Ag mX11_expects mX12_expects [.int (xs (nI i + 1).toNatClampNeg), .int (xs (nI i + 2).toNatClampNeg)] sX sM I := hS.2.2.2.2.2.2.2.2.2.2.2.2.2.2.2.2.2.2.2.2.2.2.1 _ _
  obtain ⟨hr1, hr2⟩ := hroom sX1 sM1 hi
  refine LW_n C0 hI.2.2.2.2.1 11 rfl ⟨⟨rfl, h1⟩, ⟨rfl, h2⟩, trivial⟩ ?_
  refine LW_X C0 hI vX11_expects e1 rfl kL_124 (fun _ => rfl) (fun _ => rfl) rfl rfl rfl (zx0 sX rfl) hr1 hr2 (fun H1 locs1 adX1 q1 hI => ?_)
  refine LW_n C0 hI.2.2.2.2.1 11 rfl ⟨⟨rfl, h1⟩, ⟨rfl, h2⟩, trivial⟩ ?_
  refine LW_M C0 hI vX12_expects e2 rfl kL_127 (fun _ => rfl) (fun _ => rfl) rfl rfl rfl rfl hr1 hr2 (fun H1 locs1 adM1 q2 hI => ?_)
  exact LW_b C0 rfl (fun _ => k H1 locs1 adX1 adM1 sX1 sM1 q1 q2 hI hi) (fun h => absurd rfl h)
set_option maxRecDepth 100000 in
set_option maxHeartbeats 4000000 in
theorem lc_24 (C0 : lw_At p s m meth c b L xs) (hI : LI dC dI dA s H locs adX adM qo sX sM z) (h1 : vp_in (nI i + 1) L) (h2 : vp_in (nI i + 2) L) (h3 : vp_in (nI i + 3) L) (h4 : vp_in (nI i + 4) L) (h5 : vp_in (nI i + 5) L) (hS : Sim sX sM I) (hroom : ∀ sX1 sM1, I sX1 sM1 → cells + (ZX.2.1 sX1 - ZX.2.1 sX) ≤ 600002 ∧ slots + (ZX.2.2.1 sX1 - ZX.2.2.1 sX) ≤ 7302231) (k : ∀ (H1 : Heap) (locs1 : List Loc) (adX1 adM1 : Nat → Nat) (sX1 : SX) (sM1 : SM), adX1 0 = adX 0 → adM1 0 = adM 0 → LI dC dI dA s H1 locs1 adX1 adM1 qo sX1 sM1 z → I sX1 sM1 → LW p l0 e s m b below meth c H1 locs1 (cells + (ZX.2.1 sX1 - ZX.2.1 sX)) (slots + (ZX.2.2.1 sX1 - ZX.2.2.1 sX)) Q (1584, ll b (adX 0) (adM 0) qo (nI i), [])) : LW p l0 e s m b below meth c H locs cells slots Q (1247, ll b (adX 0) (adM 0) qo (nI i), []) := by
  obtain ⟨r, sX1, sM1, e1, e2, hi⟩ : Ag mX11_mends mX12_mends [.int (xs (nI i + 1).toNatClampNeg), .int (xs (nI i + 2).toNatClampNeg)] sX sM I := hS.2.2.2.2.2.2.2.2.2.2.2.2.2.2.2.2.2.2.2.2.2.2.2.1 _ _
  obtain ⟨hr1, hr2⟩ := hroom sX1 sM1 hi
  refine LW_n C0 hI.2.2.2.2.1 11 rfl ⟨⟨rfl, h1⟩, ⟨rfl, h2⟩, trivial⟩ ?_
  refine LW_X C0 hI vX11_mends e1 rfl kL_128 (fun _ => rfl) (fun _ => rfl) rfl rfl rfl (zx0 sX rfl) hr1 hr2 (fun H1 locs1 adX1 q1 hI => ?_)
  refine LW_n C0 hI.2.2.2.2.1 11 rfl ⟨⟨rfl, h1⟩, ⟨rfl, h2⟩, trivial⟩ ?_
  refine LW_M C0 hI vX12_mends e2 rfl kL_131 (fun _ => rfl) (fun _ => rfl) rfl rfl rfl rfl hr1 hr2 (fun H1 locs1 adM1 q2 hI => ?_)
  exact LW_b C0 rfl (fun _ => k H1 locs1 adX1 adM1 sX1 sM1 q1 q2 hI hi) (fun h => absurd rfl h)
set_option maxRecDepth 100000 in
set_option maxHeartbeats 4000000 in
theorem lc_25 (C0 : lw_At p s m meth c b L xs) (hI : LI dC dI dA s H locs adX adM qo sX sM z) (h1 : vp_in (nI i + 1) L) (h2 : vp_in (nI i + 2) L) (h3 : vp_in (nI i + 3) L) (h4 : vp_in (nI i + 4) L) (h5 : vp_in (nI i + 5) L) (hS : Sim sX sM I) (hroom : ∀ sX1 sM1, I sX1 sM1 → cells + (ZX.2.1 sX1 - ZX.2.1 sX) ≤ 600002 ∧ slots + (ZX.2.2.1 sX1 - ZX.2.2.1 sX) ≤ 7302231) (k : ∀ (H1 : Heap) (locs1 : List Loc) (adX1 adM1 : Nat → Nat) (sX1 : SX) (sM1 : SM), adX1 0 = adX 0 → adM1 0 = adM 0 → LI dC dI dA s H1 locs1 adX1 adM1 qo sX1 sM1 z → I sX1 sM1 → LW p l0 e s m b below meth c H1 locs1 (cells + (ZX.2.1 sX1 - ZX.2.1 sX)) (slots + (ZX.2.2.1 sX1 - ZX.2.2.1 sX)) Q (1584, ll b (adX 0) (adM 0) qo (nI i), [])) : LW p l0 e s m b below meth c H locs cells slots Q (1284, ll b (adX 0) (adM 0) qo (nI i), []) := by
  obtain ⟨r, sX1, sM1, e1, e2, hi⟩ : Ag mX11_tree mX12_tree [.int (xs (nI i + 1).toNatClampNeg), .int (xs (nI i + 2).toNatClampNeg), .int (xs (nI i + 3).toNatClampNeg), .int (xs (nI i + 4).toNatClampNeg)] sX sM I := hS.2.2.2.2.2.2.2.2.2.2.2.2.2.2.2.2.2.2.2.2.2.2.2.2.1 _ _ _ _
  obtain ⟨hr1, hr2⟩ := hroom sX1 sM1 hi
  refine LW_n C0 hI.2.2.2.2.1 21 rfl ⟨⟨rfl, h1⟩, ⟨rfl, h2⟩, ⟨rfl, h3⟩, ⟨rfl, h4⟩, trivial⟩ ?_
  refine LW_X C0 hI vX11_tree e1 rfl kL_132 (fun _ => rfl) (fun _ => rfl) rfl rfl rfl (zx0 sX rfl) hr1 hr2 (fun H1 locs1 adX1 q1 hI => ?_)
  refine LW_n C0 hI.2.2.2.2.1 21 rfl ⟨⟨rfl, h1⟩, ⟨rfl, h2⟩, ⟨rfl, h3⟩, ⟨rfl, h4⟩, trivial⟩ ?_
  refine LW_M C0 hI vX12_tree e2 rfl kL_135 (fun _ => rfl) (fun _ => rfl) rfl rfl rfl rfl hr1 hr2 (fun H1 locs1 adM1 q2 hI => ?_)
  exact LW_b C0 rfl (fun _ => k H1 locs1 adX1 adM1 sX1 sM1 q1 q2 hI hi) (fun h => absurd rfl h)
set_option maxRecDepth 100000 in
set_option maxHeartbeats 4000000 in
theorem lc_26 (C0 : lw_At p s m meth c b L xs) (hI : LI dC dI dA s H locs adX adM qo sX sM z) (h1 : vp_in (nI i + 1) L) (h2 : vp_in (nI i + 2) L) (h3 : vp_in (nI i + 3) L) (h4 : vp_in (nI i + 4) L) (h5 : vp_in (nI i + 5) L) (hS : Sim sX sM I) (hroom : ∀ sX1 sM1, I sX1 sM1 → cells + (ZX.2.1 sX1 - ZX.2.1 sX) ≤ 600002 ∧ slots + (ZX.2.2.1 sX1 - ZX.2.2.1 sX) ≤ 7302231) (k : ∀ (H1 : Heap) (locs1 : List Loc) (adX1 adM1 : Nat → Nat) (sX1 : SX) (sM1 : SM), adX1 0 = adX 0 → adM1 0 = adM 0 → LI dC dI dA s H1 locs1 adX1 adM1 qo sX1 sM1 z → I sX1 sM1 → LW p l0 e s m b below meth c H1 locs1 (cells + (ZX.2.1 sX1 - ZX.2.1 sX)) (slots + (ZX.2.2.1 sX1 - ZX.2.2.1 sX)) Q (1584, ll b (adX 0) (adM 0) qo (nI i), [])) : LW p l0 e s m b below meth c H locs cells slots Q (1345, ll b (adX 0) (adM 0) qo (nI i), []) := by
  obtain ⟨r, sX1, sM1, e1, e2, hi⟩ : Ag mX11_sorts mX12_sorts [] sX sM I := hS.2.2.2.2.2.2.2.2.2.2.2.2.2.2.2.2.2.2.2.2.2.2.2.2.2.1
  obtain ⟨hr1, hr2⟩ := hroom sX1 sM1 hi
  refine LW_n C0 hI.2.2.2.2.1 1 rfl trivial ?_
  refine LW_X C0 hI vX11_sorts e1 rfl kL_136 (fun _ => rfl) (fun _ => rfl) rfl rfl rfl (zx0 sX rfl) hr1 hr2 (fun H1 locs1 adX1 q1 hI => ?_)
  refine LW_n C0 hI.2.2.2.2.1 1 rfl trivial ?_
  refine LW_M C0 hI vX12_sorts e2 rfl kL_139 (fun _ => rfl) (fun _ => rfl) rfl rfl rfl rfl hr1 hr2 (fun H1 locs1 adM1 q2 hI => ?_)
  exact LW_b C0 rfl (fun _ => k H1 locs1 adX1 adM1 sX1 sM1 q1 q2 hI hi) (fun h => absurd rfl h)
set_option maxRecDepth 100000 in
set_option maxHeartbeats 4000000 in
theorem lc_27 (C0 : lw_At p s m meth c b L xs) (hI : LI dC dI dA s H locs adX adM qo sX sM z) (h1 : vp_in (nI i + 1) L) (h2 : vp_in (nI i + 2) L) (h3 : vp_in (nI i + 3) L) (h4 : vp_in (nI i + 4) L) (h5 : vp_in (nI i + 5) L) (hS : Sim sX sM I) (hroom : ∀ sX1 sM1, I sX1 sM1 → cells + (ZX.2.1 sX1 - ZX.2.1 sX) ≤ 600002 ∧ slots + (ZX.2.2.1 sX1 - ZX.2.2.1 sX) ≤ 7302231) (k : ∀ (H1 : Heap) (locs1 : List Loc) (adX1 adM1 : Nat → Nat) (sX1 : SX) (sM1 : SM), adX1 0 = adX 0 → adM1 0 = adM 0 → LI dC dI dA s H1 locs1 adX1 adM1 qo sX1 sM1 z → I sX1 sM1 → LW p l0 e s m b below meth c H1 locs1 (cells + (ZX.2.1 sX1 - ZX.2.1 sX)) (slots + (ZX.2.2.1 sX1 - ZX.2.2.1 sX)) Q (1584, ll b (adX 0) (adM 0) qo (nI i), [])) : LW p l0 e s m b below meth c H locs cells slots Q (1358, ll b (adX 0) (adM 0) qo (nI i), []) := by
  obtain ⟨r, sX1, sM1, e1, e2, hi⟩ : Ag mX11_same mX12_same [.int (xs (nI i + 1).toNatClampNeg), .int (xs (nI i + 2).toNatClampNeg), .int (xs (nI i + 3).toNatClampNeg)] sX sM I := hS.2.2.2.2.2.2.2.2.2.2.2.2.2.2.2.2.2.2.2.2.2.2.2.2.2.2.1 _ _ _
  obtain ⟨hr1, hr2⟩ := hroom sX1 sM1 hi
  refine LW_n C0 hI.2.2.2.2.1 16 rfl ⟨⟨rfl, h1⟩, ⟨rfl, h2⟩, ⟨rfl, h3⟩, trivial⟩ ?_
  refine LW_X C0 hI vX11_same e1 rfl kL_140 (fun _ => rfl) (fun _ => rfl) rfl rfl rfl (zx0 sX rfl) hr1 hr2 (fun H1 locs1 adX1 q1 hI => ?_)
  refine LW_n C0 hI.2.2.2.2.1 16 rfl ⟨⟨rfl, h1⟩, ⟨rfl, h2⟩, ⟨rfl, h3⟩, trivial⟩ ?_
  refine LW_M C0 hI vX12_same e2 rfl kL_143 (fun _ => rfl) (fun _ => rfl) rfl rfl rfl rfl hr1 hr2 (fun H1 locs1 adM1 q2 hI => ?_)
  exact LW_b C0 rfl (fun _ => k H1 locs1 adX1 adM1 sX1 sM1 q1 q2 hI hi) (fun h => absurd rfl h)
set_option maxRecDepth 100000 in
set_option maxHeartbeats 4000000 in
theorem lc_28 (C0 : lw_At p s m meth c b L xs) (hI : LI dC dI dA s H locs adX adM qo sX sM z) (h1 : vp_in (nI i + 1) L) (h2 : vp_in (nI i + 2) L) (h3 : vp_in (nI i + 3) L) (h4 : vp_in (nI i + 4) L) (h5 : vp_in (nI i + 5) L) (hS : Sim sX sM I) (hroom : ∀ sX1 sM1, I sX1 sM1 → cells + (ZX.2.1 sX1 - ZX.2.1 sX) ≤ 600002 ∧ slots + (ZX.2.2.1 sX1 - ZX.2.2.1 sX) ≤ 7302231) (k : ∀ (H1 : Heap) (locs1 : List Loc) (adX1 adM1 : Nat → Nat) (sX1 : SX) (sM1 : SM), adX1 0 = adX 0 → adM1 0 = adM 0 → LI dC dI dA s H1 locs1 adX1 adM1 qo sX1 sM1 z → I sX1 sM1 → LW p l0 e s m b below meth c H1 locs1 (cells + (ZX.2.1 sX1 - ZX.2.1 sX)) (slots + (ZX.2.2.1 sX1 - ZX.2.2.1 sX)) Q (1584, ll b (adX 0) (adM 0) qo (nI i), [])) : LW p l0 e s m b below meth c H locs cells slots Q (1407, ll b (adX 0) (adM 0) qo (nI i), []) := by
  obtain ⟨r, sX1, sM1, e1, e2, hi⟩ : Ag mX11_word mX12_word [.long (((xs (nI i + 1).toNatClampNeg).toInt64 <<< ((32 : Int32).toInt64 &&& 63)) ||| ((xs (nI i + 2).toNatClampNeg).toInt64 &&& 4294967295)), .int (xs (nI i + 3).toNatClampNeg)] sX sM I := hS.2.2.2.2.2.2.2.2.2.2.2.2.2.2.2.2.2.2.2.2.2.2.2.2.2.2.2.1 _ _
  obtain ⟨hr1, hr2⟩ := hroom sX1 sM1 hi
  refine LW_n C0 hI.2.2.2.2.1 23 rfl ⟨⟨rfl, h1⟩, ⟨rfl, h2⟩, ⟨rfl, h3⟩, trivial⟩ ?_
  refine LW_X C0 hI vX11_word e1 rfl kL_146 (fun _ => rfl) (fun _ => rfl) rfl rfl rfl (zx0 sX rfl) hr1 hr2 (fun H1 locs1 adX1 q1 hI => ?_)
  refine LW_n C0 hI.2.2.2.2.1 23 rfl ⟨⟨rfl, h1⟩, ⟨rfl, h2⟩, ⟨rfl, h3⟩, trivial⟩ ?_
  refine LW_M C0 hI vX12_word e2 rfl kL_150 (fun _ => rfl) (fun _ => rfl) rfl rfl rfl rfl hr1 hr2 (fun H1 locs1 adM1 q2 hI => ?_)
  exact LW_b C0 rfl (fun _ => k H1 locs1 adX1 adM1 sX1 sM1 q1 q2 hI hi) (fun h => absurd rfl h)
set_option maxRecDepth 100000 in
set_option maxHeartbeats 4000000 in
theorem lc_29 (C0 : lw_At p s m meth c b L xs) (hI : LI dC dI dA s H locs adX adM qo sX sM z) (h1 : vp_in (nI i + 1) L) (h2 : vp_in (nI i + 2) L) (h3 : vp_in (nI i + 3) L) (h4 : vp_in (nI i + 4) L) (h5 : vp_in (nI i + 5) L) (hS : Sim sX sM I) (hroom : ∀ sX1 sM1, I sX1 sM1 → cells + (ZX.2.1 sX1 - ZX.2.1 sX) ≤ 600002 ∧ slots + (ZX.2.2.1 sX1 - ZX.2.2.1 sX) ≤ 7302231) (k : ∀ (H1 : Heap) (locs1 : List Loc) (adX1 adM1 : Nat → Nat) (sX1 : SX) (sM1 : SM), adX1 0 = adX 0 → adM1 0 = adM 0 → LI dC dI dA s H1 locs1 adX1 adM1 qo sX1 sM1 z → I sX1 sM1 → LW p l0 e s m b below meth c H1 locs1 (cells + (ZX.2.1 sX1 - ZX.2.1 sX)) (slots + (ZX.2.2.1 sX1 - ZX.2.2.1 sX)) Q (1584, ll b (adX 0) (adM 0) qo (nI i), [])) : LW p l0 e s m b below meth c H locs cells slots Q (1476, ll b (adX 0) (adM 0) qo (nI i), []) := by
  obtain ⟨r, sX1, sM1, e1, e2, hi⟩ : Ag mX11_keep mX12_keep [.long (((xs (nI i + 1).toNatClampNeg).toInt64 <<< ((32 : Int32).toInt64 &&& 63)) ||| ((xs (nI i + 2).toNatClampNeg).toInt64 &&& 4294967295))] sX sM I := hS.2.2.2.2.2.2.2.2.2.2.2.2.2.2.2.2.2.2.2.2.2.2.2.2.2.2.2.2.1 _
  obtain ⟨hr1, hr2⟩ := hroom sX1 sM1 hi
  refine LW_n C0 hI.2.2.2.2.1 18 rfl ⟨⟨rfl, h1⟩, ⟨rfl, h2⟩, trivial⟩ ?_
  refine LW_X C0 hI vX11_keep e1 rfl kL_151 (fun _ => rfl) (fun _ => rfl) rfl rfl rfl (zx0 sX rfl) hr1 hr2 (fun H1 locs1 adX1 q1 hI => ?_)
  refine LW_n C0 hI.2.2.2.2.1 18 rfl ⟨⟨rfl, h1⟩, ⟨rfl, h2⟩, trivial⟩ ?_
  refine LW_M C0 hI vX12_keep e2 rfl kL_155 (fun _ => rfl) (fun _ => rfl) rfl rfl rfl rfl hr1 hr2 (fun H1 locs1 adM1 q2 hI => ?_)
  exact LW_b C0 rfl (fun _ => k H1 locs1 adX1 adM1 sX1 sM1 q1 q2 hI hi) (fun h => absurd rfl h)
set_option maxRecDepth 100000 in
set_option maxHeartbeats 4000000 in
theorem lc_30 (C0 : lw_At p s m meth c b L xs) (hI : LI dC dI dA s H locs adX adM qo sX sM z) (h1 : vp_in (nI i + 1) L) (h2 : vp_in (nI i + 2) L) (h3 : vp_in (nI i + 3) L) (h4 : vp_in (nI i + 4) L) (h5 : vp_in (nI i + 5) L) (hS : Sim sX sM I) (hroom : ∀ sX1 sM1, I sX1 sM1 → cells + (ZX.2.1 sX1 - ZX.2.1 sX) ≤ 600002 ∧ slots + (ZX.2.2.1 sX1 - ZX.2.2.1 sX) ≤ 7302231) (k : ∀ (H1 : Heap) (locs1 : List Loc) (adX1 adM1 : Nat → Nat) (sX1 : SX) (sM1 : SM), adX1 0 = adX 0 → adM1 0 = adM 0 → LI dC dI dA s H1 locs1 adX1 adM1 qo sX1 sM1 z → I sX1 sM1 → LW p l0 e s m b below meth c H1 locs1 (cells + (ZX.2.1 sX1 - ZX.2.1 sX)) (slots + (ZX.2.2.1 sX1 - ZX.2.2.1 sX)) Q (1584, ll b (adX 0) (adM 0) qo (nI i), [])) : LW p l0 e s m b below meth c H locs cells slots Q (1533, ll b (adX 0) (adM 0) qo (nI i), []) := by
  obtain ⟨r, sX1, sM1, e1, e2, hi⟩ : Ag mX11_image mX12_image [] sX sM I := hS.2.2.2.2.2.2.2.2.2.2.2.2.2.2.2.2.2.2.2.2.2.2.2.2.2.2.2.2.2.1
  obtain ⟨hr1, hr2⟩ := hroom sX1 sM1 hi
  refine LW_n C0 hI.2.2.2.2.1 1 rfl trivial ?_
  refine LW_X C0 hI vX11_image e1 rfl kL_156 (fun _ => rfl) (fun _ => rfl) rfl rfl rfl (zx0 sX rfl) hr1 hr2 (fun H1 locs1 adX1 q1 hI => ?_)
  refine LW_n C0 hI.2.2.2.2.1 1 rfl trivial ?_
  refine LW_M C0 hI vX12_image e2 rfl kL_159 (fun _ => rfl) (fun _ => rfl) rfl rfl rfl rfl hr1 hr2 (fun H1 locs1 adM1 q2 hI => ?_)
  exact LW_b C0 rfl (fun _ => k H1 locs1 adX1 adM1 sX1 sM1 q1 q2 hI hi) (fun h => absurd rfl h)
set_option maxRecDepth 100000 in
set_option maxHeartbeats 4000000 in
theorem lc_31 (C0 : lw_At p s m meth c b L xs) (hI : LI dC dI dA s H locs adX adM qo sX sM z) (h1 : vp_in (nI i + 1) L) (h2 : vp_in (nI i + 2) L) (h3 : vp_in (nI i + 3) L) (h4 : vp_in (nI i + 4) L) (h5 : vp_in (nI i + 5) L) (hS : Sim sX sM I) (hroom : ∀ sX1 sM1, I sX1 sM1 → cells + (ZX.2.1 sX1 - ZX.2.1 sX) ≤ 600002 ∧ slots + (ZX.2.2.1 sX1 - ZX.2.2.1 sX) ≤ 7302231) (k : ∀ (H1 : Heap) (locs1 : List Loc) (adX1 adM1 : Nat → Nat) (sX1 : SX) (sM1 : SM), adX1 0 = adX 0 → adM1 0 = adM 0 → LI dC dI dA s H1 locs1 adX1 adM1 qo sX1 sM1 z → I sX1 sM1 → LW p l0 e s m b below meth c H1 locs1 (cells + (ZX.2.1 sX1 - ZX.2.1 sX)) (slots + (ZX.2.2.1 sX1 - ZX.2.2.1 sX)) Q (1584, ll b (adX 0) (adM 0) qo (nI i), [])) : LW p l0 e s m b below meth c H locs cells slots Q (1546, ll b (adX 0) (adM 0) qo (nI i), []) := by
  obtain ⟨r, sX1, sM1, e1, e2, hi⟩ : Ag mX11_back mX12_back [] sX sM I := hS.2.2.2.2.2.2.2.2.2.2.2.2.2.2.2.2.2.2.2.2.2.2.2.2.2.2.2.2.2.2.1
  obtain ⟨hr1, hr2⟩ := hroom sX1 sM1 hi
  refine LW_n C0 hI.2.2.2.2.1 1 rfl trivial ?_
  refine LW_X C0 hI vX11_back e1 rfl kL_160 (fun _ => rfl) (fun _ => rfl) rfl rfl rfl (zx0 sX rfl) hr1 hr2 (fun H1 locs1 adX1 q1 hI => ?_)
  refine LW_n C0 hI.2.2.2.2.1 1 rfl trivial ?_
  refine LW_M C0 hI vX12_back e2 rfl kL_163 (fun _ => rfl) (fun _ => rfl) rfl rfl rfl rfl hr1 hr2 (fun H1 locs1 adM1 q2 hI => ?_)
  exact LW_b C0 rfl (fun _ => k H1 locs1 adX1 adM1 sX1 sM1 q1 q2 hI hi) (fun h => absurd rfl h)
set_option maxRecDepth 100000 in
set_option maxHeartbeats 4000000 in
theorem lc_32 (C0 : lw_At p s m meth c b L xs) (hI : LI dC dI dA s H locs adX adM qo sX sM z) (h1 : vp_in (nI i + 1) L) (h2 : vp_in (nI i + 2) L) (h3 : vp_in (nI i + 3) L) (h4 : vp_in (nI i + 4) L) (h5 : vp_in (nI i + 5) L) (hS : Sim sX sM I) (hroom : ∀ sX1 sM1, I sX1 sM1 → cells + (ZX.2.1 sX1 - ZX.2.1 sX) ≤ 600002 ∧ slots + (ZX.2.2.1 sX1 - ZX.2.2.1 sX) ≤ 7302231) (k : ∀ (H1 : Heap) (locs1 : List Loc) (adX1 adM1 : Nat → Nat) (sX1 : SX) (sM1 : SM), adX1 0 = adX 0 → adM1 0 = adM 0 → LI dC dI dA s H1 locs1 adX1 adM1 qo sX1 sM1 z → I sX1 sM1 → LW p l0 e s m b below meth c H1 locs1 (cells + (ZX.2.1 sX1 - ZX.2.1 sX)) (slots + (ZX.2.2.1 sX1 - ZX.2.2.1 sX)) Q (1584, ll b (adX 0) (adM 0) qo (nI i), [])) : LW p l0 e s m b below meth c H locs cells slots Q (1559, ll b (adX 0) (adM 0) qo (nI i), []) := by
  obtain ⟨r, sX1, sM1, e1, e2, hi⟩ : Ag mX11_count mX12_count [.int (xs (nI i + 1).toNatClampNeg)] sX sM I := hS.2.2.2.2.2.2.2.2.2.2.2.2.2.2.2.2.2.2.2.2.2.2.2.2.2.2.2.2.2.2.2 _
  obtain ⟨hr1, hr2⟩ := hroom sX1 sM1 hi
  refine LW_n C0 hI.2.2.2.2.1 6 rfl ⟨⟨rfl, h1⟩, trivial⟩ ?_
  refine LW_X C0 hI vX11_count e1 rfl kL_164 (fun _ => rfl) (fun _ => rfl) rfl rfl rfl (zx0 sX rfl) hr1 hr2 (fun H1 locs1 adX1 q1 hI => ?_)
  refine LW_n C0 hI.2.2.2.2.1 6 rfl ⟨⟨rfl, h1⟩, trivial⟩ ?_
  refine LW_M C0 hI vX12_count e2 rfl kL_167 (fun _ => rfl) (fun _ => rfl) rfl rfl rfl rfl hr1 hr2 (fun H1 locs1 adM1 q2 hI => ?_)
  exact LW_b C0 rfl (fun _ => k H1 locs1 adX1 adM1 sX1 sM1 q1 q2 hI hi) (fun h => absurd rfl h)
end LawCases
