def zwcl (c : Nat) : List Cond := [.instantiable (zcn c) (znf c), .initialized (zcn c)] ++ u_ws (zcn c) (zFT c) (znf c)
set_option maxRecDepth 100000 in
theorem zcl_c0 : zckM 0 (zwcl 0) [1144, 1007, 1191, 1193, 1195, 1197, 1199, 1201, 1203, 1205, 1207, 1209, 1211, 1213] = true := by decide +kernel
set_option maxRecDepth 100000 in
theorem zcl_c1 : zckM 0 (zwcl 1) [1119, 1006, 1137, 1139, 1141] = true := by decide +kernel
set_option maxRecDepth 100000 in
theorem zcl_c2 : zckM 0 (zwcl 2) [2053, 1008, 2061, 2063, 2065] = true := by decide +kernel
set_option maxRecDepth 100000 in
theorem zcl_c3 : zckM 0 (zwcl 3) [4116, 1023, 4130, 4132, 4134, 4136, 4138, 4140, 4142] = true := by decide +kernel
set_option maxRecDepth 100000 in
theorem zcl_c4 : zckM 0 (zwcl 4) [1084, 1004, 1093, 1095, 1097] = true := by decide +kernel
set_option maxRecDepth 100000 in
theorem zcl_c5 : zckM 0 (zwcl 5) [2069, 1009, 2076, 2078] = true := by decide +kernel
set_option maxRecDepth 100000 in
theorem zcl_c6 : zckM 0 (zwcl 6) [1100, 1005, 1114, 1116] = true := by decide +kernel
set_option maxRecDepth 100000 in
theorem zcl_c7 : zckM 0 (zwcl 7) [1072, 1003, 2020, 2022, 2024, 2026, 2028, 2030, 2032, 2034, 2036, 2038, 2040, 2042, 2044, 2046, 2048] = true := by decide +kernel
set_option maxRecDepth 100000 in
theorem zcl_c8 : zckM 0 (zwcl 8) [1039, 1002, 1055, 1057, 1059, 1061, 1063, 1065, 1067] = true := by decide +kernel
set_option maxRecDepth 100000 in
theorem zcl_c9 : zckM 0 (zwcl 9) [1031, 1001, 2095, 2097, 2099, 2101, 2103, 2105, 2107, 2109, 2111, 2113, 2115, 2117, 2119, 2121] = true := by decide +kernel
set_option maxRecDepth 100000 in
theorem zcl_c10 : zckM 0 (zwcl 10) [6197, 1010, 6226, 6228, 6230, 6232, 6234, 6236, 6238, 7000, 7002, 7004, 7006, 7008, 7010, 7012, 7014, 7016, 7018, 7020, 7022, 7024, 7026, 7028, 7030, 7032] = true := by decide +kernel
theorem zcl_w (c : Nat) (hc : c < 11) : ∀ w ∈ zwcl c, w ∈ zgw := by
  rcases (show c = 0 ∨ c = 1 ∨ c = 2 ∨ c = 3 ∨ c = 4 ∨ c = 5 ∨ c = 6 ∨ c = 7 ∨ c = 8 ∨ c = 9 ∨ c = 10 by omega) with rfl | rfl | rfl | rfl | rfl | rfl | rfl | rfl | rfl | rfl | rfl
  · exact zckM_ok _ _ zcl_c0
  · exact zckM_ok _ _ zcl_c1
  · exact zckM_ok _ _ zcl_c2
  · exact zckM_ok _ _ zcl_c3
  · exact zckM_ok _ _ zcl_c4
  · exact zckM_ok _ _ zcl_c5
  · exact zckM_ok _ _ zcl_c6
  · exact zckM_ok _ _ zcl_c7
  · exact zckM_ok _ _ zcl_c8
  · exact zckM_ok _ _ zcl_c9
  · exact zckM_ok _ _ zcl_c10
def zwot : List Cond := [.arrayClass .int, .arrayClass .boolean, .arrayClass .long, .native arraycopyName, .static arraycopyName, .initialized "java/lang/System", .instanceMethod objectInit, .code objectInit ⟨#[0xb1]⟩ 1 none, .initialized "LateInksLaw", .fieldLink "java/lang/String" 38 "java/lang/String" "COMPACT_STRINGS" "Z", .fieldLink "java/lang/String" 1053 "jdk/internal/util/Preconditions" "SIOOBE_FORMATTER" "Ljava/util/function/BiFunction;"]
set_option maxRecDepth 100000 in
theorem zot_c : zckM 0 zwot [1070, 7035, 9115, 2182, 2181, 1012, 1036, 1037, 1000, 3153, 3169] = true := by decide +kernel
theorem zot_w : ∀ w ∈ zwot, w ∈ zgw := zckM_ok _ _ zot_c
