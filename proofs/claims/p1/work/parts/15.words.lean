theorem ka_boolean : Cond.arrayClass .boolean ∈ zT := zT_at 7106 (by decide +kernel) rfl
theorem ka_int : Cond.arrayClass .int ∈ zT := zT_at 1047 (by decide +kernel) rfl
theorem ka_long : Cond.arrayClass .long ∈ zT := zT_at 1189 (by decide +kernel) rfl
theorem kc1_15 : Cond.classLink RX1 15 "MinimalTables$Kernel" ∈ zT := zT_at 2037 (by decide +kernel) rfl
theorem kc11_53 : Cond.classLink RX11 53 "MinimalTables$Automaton" ∈ zT := zT_at 2028 (by decide +kernel) rfl
theorem kc11_59 : Cond.classLink RX11 59 "MinimalTables$Actions" ∈ zT := zT_at 2030 (by decide +kernel) rfl
theorem kI11_32 : Cond.methodLink RX11 32 yX4_init ∈ zT := zT_at 1138 (by decide +kernel) rfl
theorem kI11_48 : Cond.methodLink RX11 48 yX2_init ∈ zT := zT_at 1216 (by decide +kernel) rfl
theorem kI11_65 : Cond.methodLink RX11 65 yX1_init ∈ zT := zT_at 2033 (by decide +kernel) rfl
theorem kI11_68 : Cond.methodLink RX11 68 yX0_init ∈ zT := zT_at 2099 (by decide +kernel) rfl
theorem kI11_73 : Cond.methodLink RX11 73 yX8_init ∈ zT := zT_at 2146 (by decide +kernel) rfl
theorem kI11_80 : Cond.methodLink RX11 80 yX3_init ∈ zT := zT_at 2219 (by decide +kernel) rfl
theorem kn11_16 : Cond.classLink RX11 16 "MinimalTables$Grammar" ∈ zT ∧ Cond.instantiable "MinimalTables$Grammar" 12 ∈ zT ∧ Cond.initialized "MinimalTables$Grammar" ∈ zT := ⟨zT_at 1048 (by decide +kernel) rfl, zT_at 1049 (by decide +kernel) rfl, zT_at 1003 (by decide +kernel) rfl⟩
theorem kn11_23 : Cond.classLink RX11 23 "MinimalTables$Sentences" ∈ zT ∧ Cond.instantiable "MinimalTables$Sentences" 3 ∈ zT ∧ Cond.initialized "MinimalTables$Sentences" ∈ zT := ⟨zT_at 1118 (by decide +kernel) rfl, zT_at 1119 (by decide +kernel) rfl, zT_at 1004 (by decide +kernel) rfl⟩
theorem kn11_30 : Cond.classLink RX11 30 "MinimalTables$Facts" ∈ zT ∧ Cond.instantiable "MinimalTables$Facts" 13 ∈ zT ∧ Cond.initialized "MinimalTables$Facts" ∈ zT := ⟨zT_at 1136 (by decide +kernel) rfl, zT_at 1137 (by decide +kernel) rfl, zT_at 1005 (by decide +kernel) rfl⟩
theorem kn11_39 : Cond.classLink RX11 39 "MinimalTables$History" ∈ zT ∧ Cond.instantiable "MinimalTables$History" 5 ∈ zT ∧ Cond.initialized "MinimalTables$History" ∈ zT := ⟨zT_at 1190 (by decide +kernel) rfl, zT_at 1191 (by decide +kernel) rfl, zT_at 1006 (by decide +kernel) rfl⟩
theorem kn11_46 : Cond.classLink RX11 46 "MinimalTables$Builder" ∈ zT ∧ Cond.instantiable "MinimalTables$Builder" 7 ∈ zT ∧ Cond.initialized "MinimalTables$Builder" ∈ zT := ⟨zT_at 1214 (by decide +kernel) rfl, zT_at 1215 (by decide +kernel) rfl, zT_at 1007 (by decide +kernel) rfl⟩
theorem kn11_53 : Cond.classLink RX11 53 "MinimalTables$Automaton" ∈ zT ∧ Cond.instantiable "MinimalTables$Automaton" 17 ∈ zT ∧ Cond.initialized "MinimalTables$Automaton" ∈ zT := ⟨zT_at 2028 (by decide +kernel) rfl, zT_at 2032 (by decide +kernel) rfl, zT_at 1009 (by decide +kernel) rfl⟩
theorem kn11_59 : Cond.classLink RX11 59 "MinimalTables$Actions" ∈ zT ∧ Cond.instantiable "MinimalTables$Actions" 12 ∈ zT ∧ Cond.initialized "MinimalTables$Actions" ∈ zT := ⟨zT_at 2030 (by decide +kernel) rfl, zT_at 2098 (by decide +kernel) rfl, zT_at 1010 (by decide +kernel) rfl⟩
theorem kn11_71 : Cond.classLink RX11 71 "MinimalTables$Reading" ∈ zT ∧ Cond.instantiable "MinimalTables$Reading" 19 ∈ zT ∧ Cond.initialized "MinimalTables$Reading" ∈ zT := ⟨zT_at 2144 (by decide +kernel) rfl, zT_at 2145 (by decide +kernel) rfl, zT_at 1011 (by decide +kernel) rfl⟩
theorem kn11_78 : Cond.classLink RX11 78 "MinimalTables$Draw" ∈ zT ∧ Cond.instantiable "MinimalTables$Draw" 5 ∈ zT ∧ Cond.initialized "MinimalTables$Draw" ∈ zT := ⟨zT_at 2217 (by decide +kernel) rfl, zT_at 2218 (by decide +kernel) rfl, zT_at 1012 (by decide +kernel) rfl⟩
theorem kn11_9 : Cond.classLink RX11 9 "MinimalTables$Tape" ∈ zT ∧ Cond.instantiable "MinimalTables$Tape" 2 ∈ zT ∧ Cond.initialized "MinimalTables$Tape" ∈ zT := ⟨zT_at 1030 (by decide +kernel) rfl, zT_at 1031 (by decide +kernel) rfl, zT_at 1002 (by decide +kernel) rfl⟩
theorem kn2_18 : Cond.classLink RX2 18 "MinimalTables$Kernel" ∈ zT ∧ Cond.instantiable "MinimalTables$Kernel" 3 ∈ zT ∧ Cond.initialized "MinimalTables$Kernel" ∈ zT := ⟨zT_at 1220 (by decide +kernel) rfl, zT_at 1221 (by decide +kernel) rfl, zT_at 1008 (by decide +kernel) rfl⟩
theorem ko0_3 : Cond.methodLink RX0 3 Lib.objectInit ∈ zT ∧ Cond.instanceMethod Lib.objectInit ∈ zT ∧ Cond.code Lib.objectInit ⟨#[0xb1]⟩ 1 none ∈ zT := ⟨zT_at 2102 (by decide +kernel) rfl, zT_at 1028 (by decide +kernel) rfl, zT_at 1029 (by decide +kernel) rfl⟩
theorem ko1_3 : Cond.methodLink RX1 3 Lib.objectInit ∈ zT ∧ Cond.instanceMethod Lib.objectInit ∈ zT ∧ Cond.code Lib.objectInit ⟨#[0xb1]⟩ 1 none ∈ zT := ⟨zT_at 2036 (by decide +kernel) rfl, zT_at 1028 (by decide +kernel) rfl, zT_at 1029 (by decide +kernel) rfl⟩
theorem ko10_3 : Cond.methodLink RX10 3 Lib.objectInit ∈ zT ∧ Cond.instanceMethod Lib.objectInit ∈ zT ∧ Cond.code Lib.objectInit ⟨#[0xb1]⟩ 1 none ∈ zT := ⟨zT_at 1035 (by decide +kernel) rfl, zT_at 1028 (by decide +kernel) rfl, zT_at 1029 (by decide +kernel) rfl⟩
theorem ko11_3 : Cond.methodLink RX11 3 Lib.objectInit ∈ zT ∧ Cond.instanceMethod Lib.objectInit ∈ zT ∧ Cond.code Lib.objectInit ⟨#[0xb1]⟩ 1 none ∈ zT := ⟨zT_at 1027 (by decide +kernel) rfl, zT_at 1028 (by decide +kernel) rfl, zT_at 1029 (by decide +kernel) rfl⟩
theorem ko12_3 : Cond.methodLink RX12 3 Lib.objectInit ∈ zT ∧ Cond.instanceMethod Lib.objectInit ∈ zT ∧ Cond.code Lib.objectInit ⟨#[0xb1]⟩ 1 none ∈ zT := ⟨zT_at 6109 (by decide +kernel) rfl, zT_at 1028 (by decide +kernel) rfl, zT_at 1029 (by decide +kernel) rfl⟩
theorem ko2_3 : Cond.methodLink RX2 3 Lib.objectInit ∈ zT ∧ Cond.instanceMethod Lib.objectInit ∈ zT ∧ Cond.code Lib.objectInit ⟨#[0xb1]⟩ 1 none ∈ zT := ⟨zT_at 1219 (by decide +kernel) rfl, zT_at 1028 (by decide +kernel) rfl, zT_at 1029 (by decide +kernel) rfl⟩
theorem ko3_3 : Cond.methodLink RX3 3 Lib.objectInit ∈ zT ∧ Cond.instanceMethod Lib.objectInit ∈ zT ∧ Cond.code Lib.objectInit ⟨#[0xb1]⟩ 1 none ∈ zT := ⟨zT_at 2222 (by decide +kernel) rfl, zT_at 1028 (by decide +kernel) rfl, zT_at 1029 (by decide +kernel) rfl⟩
theorem ko4_3 : Cond.methodLink RX4 3 Lib.objectInit ∈ zT ∧ Cond.instanceMethod Lib.objectInit ∈ zT ∧ Cond.code Lib.objectInit ⟨#[0xb1]⟩ 1 none ∈ zT := ⟨zT_at 1141 (by decide +kernel) rfl, zT_at 1028 (by decide +kernel) rfl, zT_at 1029 (by decide +kernel) rfl⟩
theorem ko5_3 : Cond.methodLink RX5 3 Lib.objectInit ∈ zT ∧ Cond.instanceMethod Lib.objectInit ∈ zT ∧ Cond.code Lib.objectInit ⟨#[0xb1]⟩ 1 none ∈ zT := ⟨zT_at 1053 (by decide +kernel) rfl, zT_at 1028 (by decide +kernel) rfl, zT_at 1029 (by decide +kernel) rfl⟩
theorem ko6_3 : Cond.methodLink RX6 3 Lib.objectInit ∈ zT ∧ Cond.instanceMethod Lib.objectInit ∈ zT ∧ Cond.code Lib.objectInit ⟨#[0xb1]⟩ 1 none ∈ zT := ⟨zT_at 1195 (by decide +kernel) rfl, zT_at 1028 (by decide +kernel) rfl, zT_at 1029 (by decide +kernel) rfl⟩
theorem ko7_3 : Cond.methodLink RX7 3 Lib.objectInit ∈ zT ∧ Cond.instanceMethod Lib.objectInit ∈ zT ∧ Cond.code Lib.objectInit ⟨#[0xb1]⟩ 1 none ∈ zT := ⟨zT_at 1225 (by decide +kernel) rfl, zT_at 1028 (by decide +kernel) rfl, zT_at 1029 (by decide +kernel) rfl⟩
theorem ko8_3 : Cond.methodLink RX8 3 Lib.objectInit ∈ zT ∧ Cond.instanceMethod Lib.objectInit ∈ zT ∧ Cond.code Lib.objectInit ⟨#[0xb1]⟩ 1 none ∈ zT := ⟨zT_at 2149 (by decide +kernel) rfl, zT_at 1028 (by decide +kernel) rfl, zT_at 1029 (by decide +kernel) rfl⟩
theorem ko9_3 : Cond.methodLink RX9 3 Lib.objectInit ∈ zT ∧ Cond.instanceMethod Lib.objectInit ∈ zT ∧ Cond.code Lib.objectInit ⟨#[0xb1]⟩ 1 none ∈ zT := ⟨zT_at 1123 (by decide +kernel) rfl, zT_at 1028 (by decide +kernel) rfl, zT_at 1029 (by decide +kernel) rfl⟩
theorem okIX0_init : ZMi mX0_init 3 := by
  obtain ⟨a, b, c⟩ := zMs_of (M := mX0_init) (n := 3) (p1 := 2101) (p2 := 1010) bX0_init (by decide +kernel)
  exact ⟨a, b, c, zT_at 2100 (by decide +kernel) rfl, rfl, rfl⟩
theorem okIX10_init : ZMi mX10_init 0 := by
  obtain ⟨a, b, c⟩ := zMs_of (M := mX10_init) (n := 0) (p1 := 1034) (p2 := 1002) bX10_init (by decide +kernel)
  exact ⟨a, b, c, zT_at 1033 (by decide +kernel) rfl, rfl, rfl⟩
theorem okIX11_init : ZMi mX11_init 0 := by
  obtain ⟨a, b, c⟩ := zMs_of (M := mX11_init) (n := 0) (p1 := 1026) (p2 := 1001) bX11_init (by decide +kernel)
  exact ⟨a, b, c, zT_at 1025 (by decide +kernel) rfl, rfl, rfl⟩
theorem okIX12_init : ZMi mX12_init 0 := by
  obtain ⟨a, b, c⟩ := zMs_of (M := mX12_init) (n := 0) (p1 := 6108) (p2 := 1013) bX12_init (by decide +kernel)
  exact ⟨a, b, c, zT_at 6107 (by decide +kernel) rfl, rfl, rfl⟩
theorem okIX1_init : ZMi mX1_init 3 := by
  obtain ⟨a, b, c⟩ := zMs_of (M := mX1_init) (n := 3) (p1 := 2035) (p2 := 1009) bX1_init (by decide +kernel)
  exact ⟨a, b, c, zT_at 2034 (by decide +kernel) rfl, rfl, rfl⟩
theorem okIX2_init : ZMi mX2_init 1 := by
  obtain ⟨a, b, c⟩ := zMs_of (M := mX2_init) (n := 1) (p1 := 1218) (p2 := 1007) bX2_init (by decide +kernel)
  exact ⟨a, b, c, zT_at 1217 (by decide +kernel) rfl, rfl, rfl⟩
theorem okIX3_init : ZMi mX3_init 2 := by
  obtain ⟨a, b, c⟩ := zMs_of (M := mX3_init) (n := 2) (p1 := 2221) (p2 := 1012) bX3_init (by decide +kernel)
  exact ⟨a, b, c, zT_at 2220 (by decide +kernel) rfl, rfl, rfl⟩
theorem okIX4_init : ZMi mX4_init 1 := by
  obtain ⟨a, b, c⟩ := zMs_of (M := mX4_init) (n := 1) (p1 := 1140) (p2 := 1005) bX4_init (by decide +kernel)
  exact ⟨a, b, c, zT_at 1139 (by decide +kernel) rfl, rfl, rfl⟩
theorem okIX5_init : ZMi mX5_init 0 := by
  obtain ⟨a, b, c⟩ := zMs_of (M := mX5_init) (n := 0) (p1 := 1052) (p2 := 1003) bX5_init (by decide +kernel)
  exact ⟨a, b, c, zT_at 1051 (by decide +kernel) rfl, rfl, rfl⟩
theorem okIX6_init : ZMi mX6_init 0 := by
  obtain ⟨a, b, c⟩ := zMs_of (M := mX6_init) (n := 0) (p1 := 1194) (p2 := 1006) bX6_init (by decide +kernel)
  exact ⟨a, b, c, zT_at 1193 (by decide +kernel) rfl, rfl, rfl⟩
theorem okIX7_init : ZMi mX7_init 0 := by
  obtain ⟨a, b, c⟩ := zMs_of (M := mX7_init) (n := 0) (p1 := 1224) (p2 := 1008) bX7_init (by decide +kernel)
  exact ⟨a, b, c, zT_at 1223 (by decide +kernel) rfl, rfl, rfl⟩
theorem okIX8_init : ZMi mX8_init 1 := by
  obtain ⟨a, b, c⟩ := zMs_of (M := mX8_init) (n := 1) (p1 := 2148) (p2 := 1011) bX8_init (by decide +kernel)
  exact ⟨a, b, c, zT_at 2147 (by decide +kernel) rfl, rfl, rfl⟩
theorem okIX9_init : ZMi mX9_init 0 := by
  obtain ⟨a, b, c⟩ := zMs_of (M := mX9_init) (n := 0) (p1 := 1122) (p2 := 1004) bX9_init (by decide +kernel)
  exact ⟨a, b, c, zT_at 1121 (by decide +kernel) rfl, rfl, rfl⟩
