def zwcl (c : Nat) : List Cond := [.instantiable (zcn c) (znf c), .initialized (zcn c)] ++ u_ws (zcn c) (zFT c) (znf c)
set_option maxRecDepth 100000 in
theorem zcl_c0 : zckM 0 (zwcl 0) [229, 92, 276, 278, 280, 282, 284, 286, 288, 290, 292, 294, 296, 298] = true := by decide +kernel
set_option maxRecDepth 100000 in
theorem zcl_c1 : zckM 0 (zwcl 1) [204, 91, 222, 224, 226] = true := by decide +kernel
set_option maxRecDepth 100000 in
theorem zcl_c2 : zckM 0 (zwcl 2) [378, 93, 386, 388, 390] = true := by decide +kernel
set_option maxRecDepth 100000 in
theorem zcl_c3 : zckM 0 (zwcl 3) [921, 108, 935, 937, 939, 941, 943, 945, 947] = true := by decide +kernel
set_option maxRecDepth 100000 in
theorem zcl_c4 : zckM 0 (zwcl 4) [169, 89, 178, 180, 182] = true := by decide +kernel
set_option maxRecDepth 100000 in
theorem zcl_c5 : zckM 0 (zwcl 5) [394, 94, 401, 403] = true := by decide +kernel
set_option maxRecDepth 100000 in
theorem zcl_c6 : zckM 0 (zwcl 6) [185, 90, 199, 201] = true := by decide +kernel
set_option maxRecDepth 100000 in
theorem zcl_c7 : zckM 0 (zwcl 7) [157, 88, 345, 347, 349, 351, 353, 355, 357, 359, 361, 363, 365, 367, 369, 371, 373] = true := by decide +kernel
set_option maxRecDepth 100000 in
theorem zcl_c8 : zckM 0 (zwcl 8) [124, 87, 140, 142, 144, 146, 148, 150, 152] = true := by decide +kernel
set_option maxRecDepth 100000 in
theorem zcl_c9 : zckM 0 (zwcl 9) [116, 86, 420, 422, 424, 426, 428, 430, 432, 434, 436, 438, 440, 442, 444, 446] = true := by decide +kernel
set_option maxRecDepth 100000 in
theorem zcl_c10 : zckM 0 (zwcl 10) [1485, 95, 1514, 1516, 1518, 1520, 1522, 1524, 1526, 1528, 1530, 1532, 1534, 1536, 1538, 1540, 1542, 1544, 1546, 1548, 1550, 1552, 1554, 1556, 1558, 1560] = true := by decide +kernel
theorem zcl_w (c : Nat) (hc : c < 11) : ∀ w ∈ zwcl c, w ∈ zgw := by
  rcases (show c = 0 ∨ c = 1 ∨ c = 2 ∨ c = 3 ∨ c = 4 ∨ c = 5 ∨ c = 6 ∨ c = 7 ∨ c = 8 ∨ c = 9 ∨ c = 10 by omega) with rfl | rfl | rfl | rfl | rfl | rfl | rfl | rfl | rfl | rfl | rfl
  · exact zckM_ok _ _ zcl_c0
  · exact zckM_ok _ _ zcl_c1
  · exact zckM_ok _ _ zcl_c2
  · exact zckM_ok _ _ zcl_c3
  · exact zckM_ok _ _ zcl_c4
  · exact zckM_ok _ _ zcl_c5
  · exact zckM_ok _ _ zcl_c6
  · exact zckM_ok _ _ zcl_c7
  · exact zckM_ok _ _ zcl_c8
  · exact zckM_ok _ _ zcl_c9
  · exact zckM_ok _ _ zcl_c10
def zwot : List Cond := [.arrayClass .int, .arrayClass .boolean, .arrayClass .long, .native arraycopyName, .static arraycopyName, .initialized "java/lang/System", .instanceMethod objectInit, .code objectInit ⟨#[0xb1]⟩ 1 none, .initialized "LateInksLaw", .fieldLink "java/lang/String" 38 "java/lang/String" "COMPACT_STRINGS" "Z", .fieldLink "java/lang/String" 1053 "jdk/internal/util/Preconditions" "SIOOBE_FORMATTER" "Ljava/util/function/BiFunction;"]
set_option maxRecDepth 100000 in
theorem zot_c : zckM 0 zwot [155, 1563, 2123, 507, 506, 97, 121, 122, 85, 718, 734] = true := by decide +kernel
theorem zot_w : ∀ w ∈ zwot, w ∈ zgw := zckM_ok _ _ zot_c
