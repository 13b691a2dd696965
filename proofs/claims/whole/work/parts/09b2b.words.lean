/-! the code words -/
def zcode (m : Nat) : Cond := match zhh m with
  | [] => .code (zyy m) (zcd m) (zmax m) (zret m)
  | h :: t => .codeWith (zyy m) (zcd m) (zmax m) (zret m) (h :: t)

theorem zcw_0 : zcode 0 ∈ zgw := List.mem_filter.mpr ⟨ztb_in (k := 1) (List.mem_of_getElem? (i := 147) (by show tables_1_1[147]? = some (.code (zyy 0) (zcd 0) (zmax 0) (zret 0)); unfold zyy zcd zmax zret; rw [zm_0]; rfl)), rfl⟩
theorem zcw_1 : zcode 1 ∈ zgw := List.mem_filter.mpr ⟨ztb_in (k := 2) (List.mem_of_getElem? (i := 179) (by show tables_1_2[179]? = some (.code (zyy 1) (zcd 1) (zmax 1) (zret 1)); unfold zyy zcd zmax zret; rw [zm_1]; rfl)), rfl⟩
theorem zcw_2 : zcode 2 ∈ zgw := List.mem_filter.mpr ⟨ztb_in (k := 4) (List.mem_of_getElem? (i := 60) (by show tables_1_4[60]? = some (.code (zyy 2) (zcd 2) (zmax 2) (zret 2)); unfold zyy zcd zmax zret; rw [zm_2]; rfl)), rfl⟩
theorem zcw_3 : zcode 3 ∈ zgw := List.mem_filter.mpr ⟨ztb_in (k := 3) (List.mem_of_getElem? (i := 63) (by show tables_1_3[63]? = some (.code (zyy 3) (zcd 3) (zmax 3) (zret 3)); unfold zyy zcd zmax zret; rw [zm_3]; rfl)), rfl⟩
theorem zcw_4 : zcode 4 ∈ zgw := List.mem_filter.mpr ⟨ztb_in (k := 3) (List.mem_of_getElem? (i := 79) (by show tables_1_3[79]? = some (.code (zyy 4) (zcd 4) (zmax 4) (zret 4)); unfold zyy zcd zmax zret; rw [zm_4]; rfl)), rfl⟩
theorem zcw_5 : zcode 5 ∈ zgw := List.mem_filter.mpr ⟨ztb_in (k := 5) (List.mem_of_getElem? (i := 53) (by show tables_1_5[53]? = some (.code (zyy 5) (zcd 5) (zmax 5) (zret 5)); unfold zyy zcd zmax zret; rw [zm_5]; rfl)), rfl⟩
theorem zcw_6 : zcode 6 ∈ zgw := List.mem_filter.mpr ⟨ztb_in (k := 1) (List.mem_of_getElem? (i := 122) (by show tables_1_1[122]? = some (.code (zyy 6) (zcd 6) (zmax 6) (zret 6)); unfold zyy zcd zmax zret; rw [zm_6]; rfl)), rfl⟩
theorem zcw_7 : zcode 7 ∈ zgw := List.mem_filter.mpr ⟨ztb_in (k := 2) (List.mem_of_getElem? (i := 175) (by show tables_1_2[175]? = some (.code (zyy 7) (zcd 7) (zmax 7) (zret 7)); unfold zyy zcd zmax zret; rw [zm_7]; rfl)), rfl⟩
theorem zcw_8 : zcode 8 ∈ zgw := List.mem_filter.mpr ⟨ztb_in (k := 2) (List.mem_of_getElem? (i := 210) (by show tables_1_2[210]? = some (.code (zyy 8) (zcd 8) (zmax 8) (zret 8)); unfold zyy zcd zmax zret; rw [zm_8]; rfl)), rfl⟩
theorem zcw_9 : zcode 9 ∈ zgw := List.mem_filter.mpr ⟨ztb_in (k := 2) (List.mem_of_getElem? (i := 56) (by show tables_1_2[56]? = some (.code (zyy 9) (zcd 9) (zmax 9) (zret 9)); unfold zyy zcd zmax zret; rw [zm_9]; rfl)), rfl⟩
theorem zcw_10 : zcode 10 ∈ zgw := List.mem_filter.mpr ⟨ztb_in (k := 5) (List.mem_of_getElem? (i := 232) (by show tables_1_5[232]? = some (.code (zyy 10) (zcd 10) (zmax 10) (zret 10)); unfold zyy zcd zmax zret; rw [zm_10]; rfl)), rfl⟩
theorem zcw_11 : zcode 11 ∈ zgw := List.mem_filter.mpr ⟨ztb_in (k := 6) (List.mem_of_getElem? (i := 8) (by show tables_1_6[8]? = some (.code (zyy 11) (zcd 11) (zmax 11) (zret 11)); unfold zyy zcd zmax zret; rw [zm_11]; rfl)), rfl⟩
theorem zcw_12 : zcode 12 ∈ zgw := List.mem_filter.mpr ⟨ztb_in (k := 6) (List.mem_of_getElem? (i := 5) (by show tables_1_6[5]? = some (.code (zyy 12) (zcd 12) (zmax 12) (zret 12)); unfold zyy zcd zmax zret; rw [zm_12]; rfl)), rfl⟩
theorem zcw_13 : zcode 13 ∈ zgw := List.mem_filter.mpr ⟨ztb_in (k := 6) (List.mem_of_getElem? (i := 0) (by show tables_1_6[0]? = some (.code (zyy 13) (zcd 13) (zmax 13) (zret 13)); unfold zyy zcd zmax zret; rw [zm_13]; rfl)), rfl⟩
theorem zcw_14 : zcode 14 ∈ zgw := List.mem_filter.mpr ⟨ztb_in (k := 6) (List.mem_of_getElem? (i := 12) (by show tables_1_6[12]? = some (.code (zyy 14) (zcd 14) (zmax 14) (zret 14)); unfold zyy zcd zmax zret; rw [zm_14]; rfl)), rfl⟩
theorem zcw_15 : zcode 15 ∈ zgw := List.mem_filter.mpr ⟨ztb_in (k := 5) (List.mem_of_getElem? (i := 236) (by show tables_1_5[236]? = some (.code (zyy 15) (zcd 15) (zmax 15) (zret 15)); unfold zyy zcd zmax zret; rw [zm_15]; rfl)), rfl⟩
theorem zcw_16 : zcode 16 ∈ zgw := List.mem_filter.mpr ⟨ztb_in (k := 6) (List.mem_of_getElem? (i := 29) (by show tables_1_6[29]? = some (.code (zyy 16) (zcd 16) (zmax 16) (zret 16)); unfold zyy zcd zmax zret; rw [zm_16]; rfl)), rfl⟩
theorem zcw_17 : zcode 17 ∈ zgw := List.mem_filter.mpr ⟨ztb_in (k := 6) (List.mem_of_getElem? (i := 23) (by show tables_1_6[23]? = some (.code (zyy 17) (zcd 17) (zmax 17) (zret 17)); unfold zyy zcd zmax zret; rw [zm_17]; rfl)), rfl⟩
theorem zcw_18 : zcode 18 ∈ zgw := List.mem_filter.mpr ⟨ztb_in (k := 4) (List.mem_of_getElem? (i := 119) (by show tables_1_4[119]? = some (.code (zyy 18) (zcd 18) (zmax 18) (zret 18)); unfold zyy zcd zmax zret; rw [zm_18]; rfl)), rfl⟩
theorem zcw_19 : zcode 19 ∈ zgw := List.mem_filter.mpr ⟨ztb_in (k := 4) (List.mem_of_getElem? (i := 172) (by show tables_1_4[172]? = some (.code (zyy 19) (zcd 19) (zmax 19) (zret 19)); unfold zyy zcd zmax zret; rw [zm_19]; rfl)), rfl⟩
theorem zcw_20 : zcode 20 ∈ zgw := List.mem_filter.mpr ⟨ztb_in (k := 4) (List.mem_of_getElem? (i := 193) (by show tables_1_4[193]? = some (.code (zyy 20) (zcd 20) (zmax 20) (zret 20)); unfold zyy zcd zmax zret; rw [zm_20]; rfl)), rfl⟩
theorem zcw_21 : zcode 21 ∈ zgw := List.mem_filter.mpr ⟨ztb_in (k := 2) (List.mem_of_getElem? (i := 218) (by show tables_1_2[218]? = some (.code (zyy 21) (zcd 21) (zmax 21) (zret 21)); unfold zyy zcd zmax zret; rw [zm_21]; rfl)), rfl⟩
theorem zcw_22 : zcode 22 ∈ zgw := List.mem_filter.mpr ⟨ztb_in (k := 2) (List.mem_of_getElem? (i := 222) (by show tables_1_2[222]? = some (.code (zyy 22) (zcd 22) (zmax 22) (zret 22)); unfold zyy zcd zmax zret; rw [zm_22]; rfl)), rfl⟩
theorem zcw_23 : zcode 23 ∈ zgw := List.mem_filter.mpr ⟨ztb_in (k := 2) (List.mem_of_getElem? (i := 225) (by show tables_1_2[225]? = some (.code (zyy 23) (zcd 23) (zmax 23) (zret 23)); unfold zyy zcd zmax zret; rw [zm_23]; rfl)), rfl⟩
theorem zcw_24 : zcode 24 ∈ zgw := List.mem_filter.mpr ⟨ztb_in (k := 4) (List.mem_of_getElem? (i := 147) (by show tables_1_4[147]? = some (.code (zyy 24) (zcd 24) (zmax 24) (zret 24)); unfold zyy zcd zmax zret; rw [zm_24]; rfl)), rfl⟩
theorem zcw_25 : zcode 25 ∈ zgw := List.mem_filter.mpr ⟨ztb_in (k := 4) (List.mem_of_getElem? (i := 150) (by show tables_1_4[150]? = some (.code (zyy 25) (zcd 25) (zmax 25) (zret 25)); unfold zyy zcd zmax zret; rw [zm_25]; rfl)), rfl⟩
theorem zcw_26 : zcode 26 ∈ zgw := List.mem_filter.mpr ⟨ztb_in (k := 4) (List.mem_of_getElem? (i := 160) (by show tables_1_4[160]? = some (.code (zyy 26) (zcd 26) (zmax 26) (zret 26)); unfold zyy zcd zmax zret; rw [zm_26]; rfl)), rfl⟩
theorem zcw_27 : zcode 27 ∈ zgw := List.mem_filter.mpr ⟨ztb_in (k := 4) (List.mem_of_getElem? (i := 163) (by show tables_1_4[163]? = some (.code (zyy 27) (zcd 27) (zmax 27) (zret 27)); unfold zyy zcd zmax zret; rw [zm_27]; rfl)), rfl⟩
theorem zcw_28 : zcode 28 ∈ zgw := List.mem_filter.mpr ⟨ztb_in (k := 4) (List.mem_of_getElem? (i := 178) (by show tables_1_4[178]? = some (.code (zyy 28) (zcd 28) (zmax 28) (zret 28)); unfold zyy zcd zmax zret; rw [zm_28]; rfl)), rfl⟩
theorem zcw_29 : zcode 29 ∈ zgw := List.mem_filter.mpr ⟨ztb_in (k := 4) (List.mem_of_getElem? (i := 178) (by show tables_1_4[178]? = some (.code (zyy 29) (zcd 29) (zmax 29) (zret 29)); unfold zyy zcd zmax zret; rw [zm_29]; rfl)), rfl⟩
theorem zcw_30 : zcode 30 ∈ zgw := List.mem_filter.mpr ⟨ztb_in (k := 4) (List.mem_of_getElem? (i := 181) (by show tables_1_4[181]? = some (.code (zyy 30) (zcd 30) (zmax 30) (zret 30)); unfold zyy zcd zmax zret; rw [zm_30]; rfl)), rfl⟩
theorem zcw_31 : zcode 31 ∈ zgw := List.mem_filter.mpr ⟨ztb_in (k := 1) (List.mem_of_getElem? (i := 87) (by show tables_1_1[87]? = some (.code (zyy 31) (zcd 31) (zmax 31) (zret 31)); unfold zyy zcd zmax zret; rw [zm_31]; rfl)), rfl⟩
theorem zcw_32 : zcode 32 ∈ zgw := List.mem_filter.mpr ⟨ztb_in (k := 2) (List.mem_of_getElem? (i := 186) (by show tables_1_2[186]? = some (.code (zyy 32) (zcd 32) (zmax 32) (zret 32)); unfold zyy zcd zmax zret; rw [zm_32]; rfl)), rfl⟩
theorem zcw_33 : zcode 33 ∈ zgw := List.mem_filter.mpr ⟨ztb_in (k := 2) (List.mem_of_getElem? (i := 239) (by show tables_1_2[239]? = some (.code (zyy 33) (zcd 33) (zmax 33) (zret 33)); unfold zyy zcd zmax zret; rw [zm_33]; rfl)), rfl⟩
theorem zcw_34 : zcode 34 ∈ zgw := List.mem_filter.mpr ⟨ztb_in (k := 6) (List.mem_of_getElem? (i := 176) (by show tables_1_6[176]? = some (.code (zyy 34) (zcd 34) (zmax 34) (zret 34)); unfold zyy zcd zmax zret; rw [zm_34]; rfl)), rfl⟩
theorem zcw_35 : zcode 35 ∈ zgw := List.mem_filter.mpr ⟨ztb_in (k := 6) (List.mem_of_getElem? (i := 180) (by show tables_1_6[180]? = some (.code (zyy 35) (zcd 35) (zmax 35) (zret 35)); unfold zyy zcd zmax zret; rw [zm_35]; rfl)), rfl⟩
theorem zcw_36 : zcode 36 ∈ zgw := List.mem_filter.mpr ⟨ztb_in (k := 6) (List.mem_of_getElem? (i := 172) (by show tables_1_6[172]? = some (.code (zyy 36) (zcd 36) (zmax 36) (zret 36)); unfold zyy zcd zmax zret; rw [zm_36]; rfl)), rfl⟩
theorem zcw_37 : zcode 37 ∈ zgw := List.mem_filter.mpr ⟨ztb_in (k := 2) (List.mem_of_getElem? (i := 72) (by show tables_1_2[72]? = some (.code (zyy 37) (zcd 37) (zmax 37) (zret 37)); unfold zyy zcd zmax zret; rw [zm_37]; rfl)), rfl⟩
theorem zcw_38 : zcode 38 ∈ zgw := List.mem_filter.mpr ⟨ztb_in (k := 6) (List.mem_of_getElem? (i := 71) (by show tables_1_6[71]? = some (.code (zyy 38) (zcd 38) (zmax 38) (zret 38)); unfold zyy zcd zmax zret; rw [zm_38]; rfl)), rfl⟩
theorem zcw_39 : zcode 39 ∈ zgw := List.mem_filter.mpr ⟨ztb_in (k := 6) (List.mem_of_getElem? (i := 77) (by show tables_1_6[77]? = some (.code (zyy 39) (zcd 39) (zmax 39) (zret 39)); unfold zyy zcd zmax zret; rw [zm_39]; rfl)), rfl⟩
theorem zcw_40 : zcode 40 ∈ zgw := List.mem_filter.mpr ⟨ztb_in (k := 6) (List.mem_of_getElem? (i := 81) (by show tables_1_6[81]? = some (.code (zyy 40) (zcd 40) (zmax 40) (zret 40)); unfold zyy zcd zmax zret; rw [zm_40]; rfl)), rfl⟩
theorem zcw_41 : zcode 41 ∈ zgw := List.mem_filter.mpr ⟨ztb_in (k := 6) (List.mem_of_getElem? (i := 86) (by show tables_1_6[86]? = some (.code (zyy 41) (zcd 41) (zmax 41) (zret 41)); unfold zyy zcd zmax zret; rw [zm_41]; rfl)), rfl⟩
theorem zcw_42 : zcode 42 ∈ zgw := List.mem_filter.mpr ⟨ztb_in (k := 6) (List.mem_of_getElem? (i := 91) (by show tables_1_6[91]? = some (.code (zyy 42) (zcd 42) (zmax 42) (zret 42)); unfold zyy zcd zmax zret; rw [zm_42]; rfl)), rfl⟩
theorem zcw_43 : zcode 43 ∈ zgw := List.mem_filter.mpr ⟨ztb_in (k := 6) (List.mem_of_getElem? (i := 95) (by show tables_1_6[95]? = some (.code (zyy 43) (zcd 43) (zmax 43) (zret 43)); unfold zyy zcd zmax zret; rw [zm_43]; rfl)), rfl⟩
theorem zcw_44 : zcode 44 ∈ zgw := List.mem_filter.mpr ⟨ztb_in (k := 6) (List.mem_of_getElem? (i := 99) (by show tables_1_6[99]? = some (.code (zyy 44) (zcd 44) (zmax 44) (zret 44)); unfold zyy zcd zmax zret; rw [zm_44]; rfl)), rfl⟩
theorem zcw_45 : zcode 45 ∈ zgw := List.mem_filter.mpr ⟨ztb_in (k := 1) (List.mem_of_getElem? (i := 103) (by show tables_1_1[103]? = some (.code (zyy 45) (zcd 45) (zmax 45) (zret 45)); unfold zyy zcd zmax zret; rw [zm_45]; rfl)), rfl⟩
theorem zcw_46 : zcode 46 ∈ zgw := List.mem_filter.mpr ⟨ztb_in (k := 2) (List.mem_of_getElem? (i := 171) (by show tables_1_2[171]? = some (.code (zyy 46) (zcd 46) (zmax 46) (zret 46)); unfold zyy zcd zmax zret; rw [zm_46]; rfl)), rfl⟩
theorem zcw_47 : zcode 47 ∈ zgw := List.mem_filter.mpr ⟨ztb_in (k := 1) (List.mem_of_getElem? (i := 75) (by show tables_1_1[75]? = some (.code (zyy 47) (zcd 47) (zmax 47) (zret 47)); unfold zyy zcd zmax zret; rw [zm_47]; rfl)), rfl⟩
theorem zcw_48 : zcode 48 ∈ zgw := List.mem_filter.mpr ⟨ztb_in (k := 2) (List.mem_of_getElem? (i := 167) (by show tables_1_2[167]? = some (.code (zyy 48) (zcd 48) (zmax 48) (zret 48)); unfold zyy zcd zmax zret; rw [zm_48]; rfl)), rfl⟩
theorem zcw_49 : zcode 49 ∈ zgw := List.mem_filter.mpr ⟨ztb_in (k := 4) (List.mem_of_getElem? (i := 56) (by show tables_1_4[56]? = some (.code (zyy 49) (zcd 49) (zmax 49) (zret 49)); unfold zyy zcd zmax zret; rw [zm_49]; rfl)), rfl⟩
theorem zcw_50 : zcode 50 ∈ zgw := List.mem_filter.mpr ⟨ztb_in (k := 5) (List.mem_of_getElem? (i := 80) (by show tables_1_5[80]? = some (.code (zyy 50) (zcd 50) (zmax 50) (zret 50)); unfold zyy zcd zmax zret; rw [zm_50]; rfl)), rfl⟩
theorem zcw_51 : zcode 51 ∈ zgw := List.mem_filter.mpr ⟨ztb_in (k := 2) (List.mem_of_getElem? (i := 198) (by show tables_1_2[198]? = some (.code (zyy 51) (zcd 51) (zmax 51) (zret 51)); unfold zyy zcd zmax zret; rw [zm_51]; rfl)), rfl⟩
theorem zcw_52 : zcode 52 ∈ zgw := List.mem_filter.mpr ⟨ztb_in (k := 2) (List.mem_of_getElem? (i := 202) (by show tables_1_2[202]? = some (.code (zyy 52) (zcd 52) (zmax 52) (zret 52)); unfold zyy zcd zmax zret; rw [zm_52]; rfl)), rfl⟩
theorem zcw_53 : zcode 53 ∈ zgw := List.mem_filter.mpr ⟨ztb_in (k := 3) (List.mem_of_getElem? (i := 4) (by show tables_1_3[4]? = some (.code (zyy 53) (zcd 53) (zmax 53) (zret 53)); unfold zyy zcd zmax zret; rw [zm_53]; rfl)), rfl⟩
theorem zcw_54 : zcode 54 ∈ zgw := List.mem_filter.mpr ⟨ztb_in (k := 3) (List.mem_of_getElem? (i := 8) (by show tables_1_3[8]? = some (.code (zyy 54) (zcd 54) (zmax 54) (zret 54)); unfold zyy zcd zmax zret; rw [zm_54]; rfl)), rfl⟩
theorem zcw_55 : zcode 55 ∈ zgw := List.mem_filter.mpr ⟨ztb_in (k := 3) (List.mem_of_getElem? (i := 14) (by show tables_1_3[14]? = some (.code (zyy 55) (zcd 55) (zmax 55) (zret 55)); unfold zyy zcd zmax zret; rw [zm_55]; rfl)), rfl⟩
theorem zcw_56 : zcode 56 ∈ zgw := List.mem_filter.mpr ⟨ztb_in (k := 2) (List.mem_of_getElem? (i := 235) (by show tables_1_2[235]? = some (.code (zyy 56) (zcd 56) (zmax 56) (zret 56)); unfold zyy zcd zmax zret; rw [zm_56]; rfl)), rfl⟩
theorem zcw_57 : zcode 57 ∈ zgw := List.mem_filter.mpr ⟨ztb_in (k := 5) (List.mem_of_getElem? (i := 120) (by show tables_1_5[120]? = some (.code (zyy 57) (zcd 57) (zmax 57) (zret 57)); unfold zyy zcd zmax zret; rw [zm_57]; rfl)), rfl⟩
theorem zcw_58 : zcode 58 ∈ zgw := List.mem_filter.mpr ⟨ztb_in (k := 2) (List.mem_of_getElem? (i := 206) (by show tables_1_2[206]? = some (.code (zyy 58) (zcd 58) (zmax 58) (zret 58)); unfold zyy zcd zmax zret; rw [zm_58]; rfl)), rfl⟩
theorem zcw_59 : zcode 59 ∈ zgw := List.mem_filter.mpr ⟨ztb_in (k := 5) (List.mem_of_getElem? (i := 58) (by show tables_1_5[58]? = some (.code (zyy 59) (zcd 59) (zmax 59) (zret 59)); unfold zyy zcd zmax zret; rw [zm_59]; rfl)), rfl⟩
theorem zcw_60 : zcode 60 ∈ zgw := List.mem_filter.mpr ⟨ztb_in (k := 2) (List.mem_of_getElem? (i := 214) (by show tables_1_2[214]? = some (.code (zyy 60) (zcd 60) (zmax 60) (zret 60)); unfold zyy zcd zmax zret; rw [zm_60]; rfl)), rfl⟩
theorem zcw_61 : zcode 61 ∈ zgw := List.mem_filter.mpr ⟨ztb_in (k := 2) (List.mem_of_getElem? (i := 147) (by show tables_1_2[147]? = some (.code (zyy 61) (zcd 61) (zmax 61) (zret 61)); unfold zyy zcd zmax zret; rw [zm_61]; rfl)), rfl⟩
theorem zcw_62 : zcode 62 ∈ zgw := List.mem_filter.mpr ⟨ztb_in (k := 3) (List.mem_of_getElem? (i := 115) (by show tables_1_3[115]? = some (.code (zyy 62) (zcd 62) (zmax 62) (zret 62)); unfold zyy zcd zmax zret; rw [zm_62]; rfl)), rfl⟩
theorem zcw_63 : zcode 63 ∈ zgw := List.mem_filter.mpr ⟨ztb_in (k := 5) (List.mem_of_getElem? (i := 38) (by show tables_1_5[38]? = some (.code (zyy 63) (zcd 63) (zmax 63) (zret 63)); unfold zyy zcd zmax zret; rw [zm_63]; rfl)), rfl⟩
theorem zcw_64 : zcode 64 ∈ zgw := List.mem_filter.mpr ⟨ztb_in (k := 5) (List.mem_of_getElem? (i := 188) (by show tables_1_5[188]? = some (.code (zyy 64) (zcd 64) (zmax 64) (zret 64)); unfold zyy zcd zmax zret; rw [zm_64]; rfl)), rfl⟩
theorem zcw_65 : zcode 65 ∈ zgw := List.mem_filter.mpr ⟨ztb_in (k := 2) (List.mem_of_getElem? (i := 159) (by show tables_1_2[159]? = some (.code (zyy 65) (zcd 65) (zmax 65) (zret 65)); unfold zyy zcd zmax zret; rw [zm_65]; rfl)), rfl⟩
theorem zcw_66 : zcode 66 ∈ zgw := List.mem_filter.mpr ⟨ztb_in (k := 5) (List.mem_of_getElem? (i := 3) (by show tables_1_5[3]? = some (.code (zyy 66) (zcd 66) (zmax 66) (zret 66)); unfold zyy zcd zmax zret; rw [zm_66]; rfl)), rfl⟩
theorem zcw_67 : zcode 67 ∈ zgw := List.mem_filter.mpr ⟨ztb_in (k := 4) (List.mem_of_getElem? (i := 235) (by show tables_1_4[235]? = some (.code (zyy 67) (zcd 67) (zmax 67) (zret 67)); unfold zyy zcd zmax zret; rw [zm_67]; rfl)), rfl⟩
theorem zcw_68 : zcode 68 ∈ zgw := List.mem_filter.mpr ⟨ztb_in (k := 4) (List.mem_of_getElem? (i := 231) (by show tables_1_4[231]? = some (.code (zyy 68) (zcd 68) (zmax 68) (zret 68)); unfold zyy zcd zmax zret; rw [zm_68]; rfl)), rfl⟩
theorem zcw_69 : zcode 69 ∈ zgw := List.mem_filter.mpr ⟨ztb_in (k := 4) (List.mem_of_getElem? (i := 239) (by show tables_1_4[239]? = some (.code (zyy 69) (zcd 69) (zmax 69) (zret 69)); unfold zyy zcd zmax zret; rw [zm_69]; rfl)), rfl⟩
theorem zcw_70 : zcode 70 ∈ zgw := List.mem_filter.mpr ⟨ztb_in (k := 5) (List.mem_of_getElem? (i := 8) (by show tables_1_5[8]? = some (.code (zyy 70) (zcd 70) (zmax 70) (zret 70)); unfold zyy zcd zmax zret; rw [zm_70]; rfl)), rfl⟩
theorem zcw_71 : zcode 71 ∈ zgw := List.mem_filter.mpr ⟨ztb_in (k := 3) (List.mem_of_getElem? (i := 51) (by show tables_1_3[51]? = some (.code (zyy 71) (zcd 71) (zmax 71) (zret 71)); unfold zyy zcd zmax zret; rw [zm_71]; rfl)), rfl⟩
theorem zcw_72 : zcode 72 ∈ zgw := List.mem_filter.mpr ⟨ztb_in (k := 3) (List.mem_of_getElem? (i := 39) (by show tables_1_3[39]? = some (.code (zyy 72) (zcd 72) (zmax 72) (zret 72)); unfold zyy zcd zmax zret; rw [zm_72]; rfl)), rfl⟩
theorem zcw_73 : zcode 73 ∈ zgw := List.mem_filter.mpr ⟨ztb_in (k := 3) (List.mem_of_getElem? (i := 43) (by show tables_1_3[43]? = some (.code (zyy 73) (zcd 73) (zmax 73) (zret 73)); unfold zyy zcd zmax zret; rw [zm_73]; rfl)), rfl⟩
theorem zcw_74 : zcode 74 ∈ zgw := List.mem_filter.mpr ⟨ztb_in (k := 3) (List.mem_of_getElem? (i := 111) (by show tables_1_3[111]? = some (.code (zyy 74) (zcd 74) (zmax 74) (zret 74)); unfold zyy zcd zmax zret; rw [zm_74]; rfl)), rfl⟩
theorem zcw_75 : zcode 75 ∈ zgw := List.mem_filter.mpr ⟨ztb_in (k := 4) (List.mem_of_getElem? (i := 226) (by show tables_1_4[226]? = some (.code (zyy 75) (zcd 75) (zmax 75) (zret 75)); unfold zyy zcd zmax zret; rw [zm_75]; rfl)), rfl⟩
theorem zcw_76 : zcode 76 ∈ zgw := List.mem_filter.mpr ⟨ztb_in (k := 2) (List.mem_of_getElem? (i := 191) (by show tables_1_2[191]? = some (.code (zyy 76) (zcd 76) (zmax 76) (zret 76)); unfold zyy zcd zmax zret; rw [zm_76]; rfl)), rfl⟩
theorem zcw_77 : zcode 77 ∈ zgw := List.mem_filter.mpr ⟨ztb_in (k := 6) (List.mem_of_getElem? (i := 48) (by show tables_1_6[48]? = some (.code (zyy 77) (zcd 77) (zmax 77) (zret 77)); unfold zyy zcd zmax zret; rw [zm_77]; rfl)), rfl⟩
theorem zcw_78 : zcode 78 ∈ zgw := List.mem_filter.mpr ⟨ztb_in (k := 6) (List.mem_of_getElem? (i := 59) (by show tables_1_6[59]? = some (.code (zyy 78) (zcd 78) (zmax 78) (zret 78)); unfold zyy zcd zmax zret; rw [zm_78]; rfl)), rfl⟩
theorem zcw_79 : zcode 79 ∈ zgw := List.mem_filter.mpr ⟨ztb_in (k := 3) (List.mem_of_getElem? (i := 59) (by show tables_1_3[59]? = some (.code (zyy 79) (zcd 79) (zmax 79) (zret 79)); unfold zyy zcd zmax zret; rw [zm_79]; rfl)), rfl⟩
theorem zcw_80 : zcode 80 ∈ zgw := List.mem_filter.mpr ⟨ztb_in (k := 5) (List.mem_of_getElem? (i := 62) (by show tables_1_5[62]? = some (.code (zyy 80) (zcd 80) (zmax 80) (zret 80)); unfold zyy zcd zmax zret; rw [zm_80]; rfl)), rfl⟩
theorem zcw_81 : zcode 81 ∈ zgw := List.mem_filter.mpr ⟨ztb_in (k := 6) (List.mem_of_getElem? (i := 110) (by show tables_1_6[110]? = some (.code (zyy 81) (zcd 81) (zmax 81) (zret 81)); unfold zyy zcd zmax zret; rw [zm_81]; rfl)), rfl⟩
theorem zcw_82 : zcode 82 ∈ zgw := List.mem_filter.mpr ⟨ztb_in (k := 3) (List.mem_of_getElem? (i := 136) (by show tables_1_3[136]? = some (.code (zyy 82) (zcd 82) (zmax 82) (zret 82)); unfold zyy zcd zmax zret; rw [zm_82]; rfl)), rfl⟩
theorem zcw_83 : zcode 83 ∈ zgw := List.mem_filter.mpr ⟨ztb_in (k := 3) (List.mem_of_getElem? (i := 139) (by show tables_1_3[139]? = some (.code (zyy 83) (zcd 83) (zmax 83) (zret 83)); unfold zyy zcd zmax zret; rw [zm_83]; rfl)), rfl⟩
theorem zcw_84 : zcode 84 ∈ zgw := List.mem_filter.mpr ⟨ztb_in (k := 3) (List.mem_of_getElem? (i := 195) (by show tables_1_3[195]? = some (.code (zyy 84) (zcd 84) (zmax 84) (zret 84)); unfold zyy zcd zmax zret; rw [zm_84]; rfl)), rfl⟩
theorem zcw_85 : zcode 85 ∈ zgw := List.mem_filter.mpr ⟨ztb_in (k := 4) (List.mem_of_getElem? (i := 35) (by show tables_1_4[35]? = some (.code (zyy 85) (zcd 85) (zmax 85) (zret 85)); unfold zyy zcd zmax zret; rw [zm_85]; rfl)), rfl⟩
theorem zcw_86 : zcode 86 ∈ zgw := List.mem_filter.mpr ⟨ztb_in (k := 4) (List.mem_of_getElem? (i := 52) (by show tables_1_4[52]? = some (.code (zyy 86) (zcd 86) (zmax 86) (zret 86)); unfold zyy zcd zmax zret; rw [zm_86]; rfl)), rfl⟩
theorem zcw_87 : zcode 87 ∈ zgw := List.mem_filter.mpr ⟨ztb_in (k := 4) (List.mem_of_getElem? (i := 70) (by show tables_1_4[70]? = some (.code (zyy 87) (zcd 87) (zmax 87) (zret 87)); unfold zyy zcd zmax zret; rw [zm_87]; rfl)), rfl⟩
theorem zcw_88 : zcode 88 ∈ zgw := List.mem_filter.mpr ⟨ztb_in (k := 4) (List.mem_of_getElem? (i := 74) (by show tables_1_4[74]? = some (.code (zyy 88) (zcd 88) (zmax 88) (zret 88)); unfold zyy zcd zmax zret; rw [zm_88]; rfl)), rfl⟩
theorem zcw_89 : zcode 89 ∈ zgw := List.mem_filter.mpr ⟨ztb_in (k := 1) (List.mem_of_getElem? (i := 42) (by show tables_1_1[42]? = some (.code (zyy 89) (zcd 89) (zmax 89) (zret 89)); unfold zyy zcd zmax zret; rw [zm_89]; rfl)), rfl⟩
theorem zcw_90 : zcode 90 ∈ zgw := List.mem_filter.mpr ⟨ztb_in (k := 3) (List.mem_of_getElem? (i := 128) (by show tables_1_3[128]? = some (.code (zyy 90) (zcd 90) (zmax 90) (zret 90)); unfold zyy zcd zmax zret; rw [zm_90]; rfl)), rfl⟩
theorem zcw_91 : zcode 91 ∈ zgw := List.mem_filter.mpr ⟨ztb_in (k := 3) (List.mem_of_getElem? (i := 133) (by show tables_1_3[133]? = some (.code (zyy 91) (zcd 91) (zmax 91) (zret 91)); unfold zyy zcd zmax zret; rw [zm_91]; rfl)), rfl⟩
theorem zcw_92 : zcode 92 ∈ zgw := List.mem_filter.mpr ⟨ztb_in (k := 3) (List.mem_of_getElem? (i := 144) (by show tables_1_3[144]? = some (.code (zyy 92) (zcd 92) (zmax 92) (zret 92)); unfold zyy zcd zmax zret; rw [zm_92]; rfl)), rfl⟩
theorem zcw_93 : zcode 93 ∈ zgw := List.mem_filter.mpr ⟨ztb_in (k := 4) (List.mem_of_getElem? (i := 92) (by show tables_1_4[92]? = some (.code (zyy 93) (zcd 93) (zmax 93) (zret 93)); unfold zyy zcd zmax zret; rw [zm_93]; rfl)), rfl⟩
theorem zcw_94 : zcode 94 ∈ zgw := List.mem_filter.mpr ⟨ztb_in (k := 4) (List.mem_of_getElem? (i := 44) (by show tables_1_4[44]? = some (.code (zyy 94) (zcd 94) (zmax 94) (zret 94)); unfold zyy zcd zmax zret; rw [zm_94]; rfl)), rfl⟩
theorem zcw_95 : zcode 95 ∈ zgw := List.mem_filter.mpr ⟨ztb_in (k := 4) (List.mem_of_getElem? (i := 40) (by show tables_1_4[40]? = some (.code (zyy 95) (zcd 95) (zmax 95) (zret 95)); unfold zyy zcd zmax zret; rw [zm_95]; rfl)), rfl⟩
theorem zcw_96 : zcode 96 ∈ zgw := List.mem_filter.mpr ⟨ztb_in (k := 4) (List.mem_of_getElem? (i := 88) (by show tables_1_4[88]? = some (.code (zyy 96) (zcd 96) (zmax 96) (zret 96)); unfold zyy zcd zmax zret; rw [zm_96]; rfl)), rfl⟩
theorem zcw_97 : zcode 97 ∈ zgw := List.mem_filter.mpr ⟨ztb_in (k := 4) (List.mem_of_getElem? (i := 30) (by show tables_1_4[30]? = some (.code (zyy 97) (zcd 97) (zmax 97) (zret 97)); unfold zyy zcd zmax zret; rw [zm_97]; rfl)), rfl⟩
theorem zcw_98 : zcode 98 ∈ zgw := List.mem_filter.mpr ⟨ztb_in (k := 4) (List.mem_of_getElem? (i := 84) (by show tables_1_4[84]? = some (.code (zyy 98) (zcd 98) (zmax 98) (zret 98)); unfold zyy zcd zmax zret; rw [zm_98]; rfl)), rfl⟩
theorem zcw_99 : zcode 99 ∈ zgw := List.mem_filter.mpr ⟨ztb_in (k := 3) (List.mem_of_getElem? (i := 199) (by show tables_1_3[199]? = some (.code (zyy 99) (zcd 99) (zmax 99) (zret 99)); unfold zyy zcd zmax zret; rw [zm_99]; rfl)), rfl⟩
theorem zcw_100 : zcode 100 ∈ zgw := List.mem_filter.mpr ⟨ztb_in (k := 1) (List.mem_of_getElem? (i := 34) (by show tables_1_1[34]? = some (.code (zyy 100) (zcd 100) (zmax 100) (zret 100)); unfold zyy zcd zmax zret; rw [zm_100]; rfl)), rfl⟩
theorem zcw_101 : zcode 101 ∈ zgw := List.mem_filter.mpr ⟨ztb_in (k := 2) (List.mem_of_getElem? (i := 127) (by show tables_1_2[127]? = some (.code (zyy 101) (zcd 101) (zmax 101) (zret 101)); unfold zyy zcd zmax zret; rw [zm_101]; rfl)), rfl⟩
theorem zcw_102 : zcode 102 ∈ zgw := List.mem_filter.mpr ⟨ztb_in (k := 2) (List.mem_of_getElem? (i := 135) (by show tables_1_2[135]? = some (.code (zyy 102) (zcd 102) (zmax 102) (zret 102)); unfold zyy zcd zmax zret; rw [zm_102]; rfl)), rfl⟩
theorem zcw_103 : zcode 103 ∈ zgw := List.mem_filter.mpr ⟨ztb_in (k := 3) (List.mem_of_getElem? (i := 124) (by show tables_1_3[124]? = some (.code (zyy 103) (zcd 103) (zmax 103) (zret 103)); unfold zyy zcd zmax zret; rw [zm_103]; rfl)), rfl⟩
theorem zcw_104 : zcode 104 ∈ zgw := List.mem_filter.mpr ⟨ztb_in (k := 4) (List.mem_of_getElem? (i := 114) (by show tables_1_4[114]? = some (.code (zyy 104) (zcd 104) (zmax 104) (zret 104)); unfold zyy zcd zmax zret; rw [zm_104]; rfl)), rfl⟩
theorem zcw_105 : zcode 105 ∈ zgw := List.mem_filter.mpr ⟨ztb_in (k := 2) (List.mem_of_getElem? (i := 139) (by show tables_1_2[139]? = some (.code (zyy 105) (zcd 105) (zmax 105) (zret 105)); unfold zyy zcd zmax zret; rw [zm_105]; rfl)), rfl⟩
theorem zcw_106 : zcode 106 ∈ zgw := List.mem_filter.mpr ⟨ztb_in (k := 4) (List.mem_of_getElem? (i := 203) (by show tables_1_4[203]? = some (.code (zyy 106) (zcd 106) (zmax 106) (zret 106)); unfold zyy zcd zmax zret; rw [zm_106]; rfl)), rfl⟩
theorem zcw_107 : zcode 107 ∈ zgw := List.mem_filter.mpr ⟨ztb_in (k := 5) (List.mem_of_getElem? (i := 30) (by show tables_1_5[30]? = some (.code (zyy 107) (zcd 107) (zmax 107) (zret 107)); unfold zyy zcd zmax zret; rw [zm_107]; rfl)), rfl⟩
theorem zcw_108 : zcode 108 ∈ zgw := List.mem_filter.mpr ⟨ztb_in (k := 5) (List.mem_of_getElem? (i := 45) (by show tables_1_5[45]? = some (.code (zyy 108) (zcd 108) (zmax 108) (zret 108)); unfold zyy zcd zmax zret; rw [zm_108]; rfl)), rfl⟩
theorem zcw_109 : zcode 109 ∈ zgw := List.mem_filter.mpr ⟨ztb_in (k := 5) (List.mem_of_getElem? (i := 69) (by show tables_1_5[69]? = some (.code (zyy 109) (zcd 109) (zmax 109) (zret 109)); unfold zyy zcd zmax zret; rw [zm_109]; rfl)), rfl⟩
theorem zcw_110 : zcode 110 ∈ zgw := List.mem_filter.mpr ⟨ztb_in (k := 5) (List.mem_of_getElem? (i := 89) (by show tables_1_5[89]? = some (.code (zyy 110) (zcd 110) (zmax 110) (zret 110)); unfold zyy zcd zmax zret; rw [zm_110]; rfl)), rfl⟩
theorem zcw_111 : zcode 111 ∈ zgw := List.mem_filter.mpr ⟨ztb_in (k := 5) (List.mem_of_getElem? (i := 115) (by show tables_1_5[115]? = some (.code (zyy 111) (zcd 111) (zmax 111) (zret 111)); unfold zyy zcd zmax zret; rw [zm_111]; rfl)), rfl⟩
theorem zcw_112 : zcode 112 ∈ zgw := List.mem_filter.mpr ⟨ztb_in (k := 5) (List.mem_of_getElem? (i := 127) (by show tables_1_5[127]? = some (.code (zyy 112) (zcd 112) (zmax 112) (zret 112)); unfold zyy zcd zmax zret; rw [zm_112]; rfl)), rfl⟩
theorem zcw_113 : zcode 113 ∈ zgw := List.mem_filter.mpr ⟨ztb_in (k := 5) (List.mem_of_getElem? (i := 135) (by show tables_1_5[135]? = some (.code (zyy 113) (zcd 113) (zmax 113) (zret 113)); unfold zyy zcd zmax zret; rw [zm_113]; rfl)), rfl⟩
theorem zcw_114 : zcode 114 ∈ zgw := List.mem_filter.mpr ⟨ztb_in (k := 5) (List.mem_of_getElem? (i := 142) (by show tables_1_5[142]? = some (.code (zyy 114) (zcd 114) (zmax 114) (zret 114)); unfold zyy zcd zmax zret; rw [zm_114]; rfl)), rfl⟩
theorem zcw_115 : zcode 115 ∈ zgw := List.mem_filter.mpr ⟨ztb_in (k := 5) (List.mem_of_getElem? (i := 149) (by show tables_1_5[149]? = some (.code (zyy 115) (zcd 115) (zmax 115) (zret 115)); unfold zyy zcd zmax zret; rw [zm_115]; rfl)), rfl⟩
theorem zcw_116 : zcode 116 ∈ zgw := List.mem_filter.mpr ⟨ztb_in (k := 2) (List.mem_of_getElem? (i := 143) (by show tables_1_2[143]? = some (.code (zyy 116) (zcd 116) (zmax 116) (zret 116)); unfold zyy zcd zmax zret; rw [zm_116]; rfl)), rfl⟩
theorem zcw_117 : zcode 117 ∈ zgw := List.mem_filter.mpr ⟨ztb_in (k := 2) (List.mem_of_getElem? (i := 151) (by show tables_1_2[151]? = some (.code (zyy 117) (zcd 117) (zmax 117) (zret 117)); unfold zyy zcd zmax zret; rw [zm_117]; rfl)), rfl⟩
theorem zcw_118 : zcode 118 ∈ zgw := List.mem_filter.mpr ⟨ztb_in (k := 2) (List.mem_of_getElem? (i := 155) (by show tables_1_2[155]? = some (.code (zyy 118) (zcd 118) (zmax 118) (zret 118)); unfold zyy zcd zmax zret; rw [zm_118]; rfl)), rfl⟩
theorem zcw_119 : zcode 119 ∈ zgw := List.mem_filter.mpr ⟨ztb_in (k := 5) (List.mem_of_getElem? (i := 156) (by show tables_1_5[156]? = some (.code (zyy 119) (zcd 119) (zmax 119) (zret 119)); unfold zyy zcd zmax zret; rw [zm_119]; rfl)), rfl⟩
theorem zcw_120 : zcode 120 ∈ zgw := List.mem_filter.mpr ⟨ztb_in (k := 5) (List.mem_of_getElem? (i := 163) (by show tables_1_5[163]? = some (.code (zyy 120) (zcd 120) (zmax 120) (zret 120)); unfold zyy zcd zmax zret; rw [zm_120]; rfl)), rfl⟩
theorem zcw_121 : zcode 121 ∈ zgw := List.mem_filter.mpr ⟨ztb_in (k := 2) (List.mem_of_getElem? (i := 163) (by show tables_1_2[163]? = some (.code (zyy 121) (zcd 121) (zmax 121) (zret 121)); unfold zyy zcd zmax zret; rw [zm_121]; rfl)), rfl⟩
theorem zcw_122 : zcode 122 ∈ zgw := List.mem_filter.mpr ⟨ztb_in (k := 5) (List.mem_of_getElem? (i := 170) (by show tables_1_5[170]? = some (.code (zyy 122) (zcd 122) (zmax 122) (zret 122)); unfold zyy zcd zmax zret; rw [zm_122]; rfl)), rfl⟩
theorem zcw_123 : zcode 123 ∈ zgw := List.mem_filter.mpr ⟨ztb_in (k := 5) (List.mem_of_getElem? (i := 184) (by show tables_1_5[184]? = some (.code (zyy 123) (zcd 123) (zmax 123) (zret 123)); unfold zyy zcd zmax zret; rw [zm_123]; rfl)), rfl⟩
theorem zcw_124 : zcode 124 ∈ zgw := List.mem_filter.mpr ⟨ztb_in (k := 5) (List.mem_of_getElem? (i := 195) (by show tables_1_5[195]? = some (.code (zyy 124) (zcd 124) (zmax 124) (zret 124)); unfold zyy zcd zmax zret; rw [zm_124]; rfl)), rfl⟩
theorem zcw_125 : zcode 125 ∈ zgw := List.mem_filter.mpr ⟨ztb_in (k := 3) (List.mem_of_getElem? (i := 18) (by show tables_1_3[18]? = some (.code (zyy 125) (zcd 125) (zmax 125) (zret 125)); unfold zyy zcd zmax zret; rw [zm_125]; rfl)), rfl⟩
theorem zcw_126 : zcode 126 ∈ zgw := List.mem_filter.mpr ⟨ztb_in (k := 5) (List.mem_of_getElem? (i := 202) (by show tables_1_5[202]? = some (.code (zyy 126) (zcd 126) (zmax 126) (zret 126)); unfold zyy zcd zmax zret; rw [zm_126]; rfl)), rfl⟩
theorem zcw_127 : zcode 127 ∈ zgw := List.mem_filter.mpr ⟨ztb_in (k := 5) (List.mem_of_getElem? (i := 209) (by show tables_1_5[209]? = some (.code (zyy 127) (zcd 127) (zmax 127) (zret 127)); unfold zyy zcd zmax zret; rw [zm_127]; rfl)), rfl⟩
theorem zcw_128 : zcode 128 ∈ zgw := List.mem_filter.mpr ⟨ztb_in (k := 5) (List.mem_of_getElem? (i := 224) (by show tables_1_5[224]? = some (.code (zyy 128) (zcd 128) (zmax 128) (zret 128)); unfold zyy zcd zmax zret; rw [zm_128]; rfl)), rfl⟩
theorem zcw_129 : zcode 129 ∈ zgw := List.mem_filter.mpr ⟨ztb_in (k := 6) (List.mem_of_getElem? (i := 19) (by show tables_1_6[19]? = some (.code (zyy 129) (zcd 129) (zmax 129) (zret 129)); unfold zyy zcd zmax zret; rw [zm_129]; rfl)), rfl⟩
theorem zcw_130 : zcode 130 ∈ zgw := List.mem_filter.mpr ⟨ztb_in (k := 6) (List.mem_of_getElem? (i := 37) (by show tables_1_6[37]? = some (.code (zyy 130) (zcd 130) (zmax 130) (zret 130)); unfold zyy zcd zmax zret; rw [zm_130]; rfl)), rfl⟩
theorem zcw_131 : zcode 131 ∈ zgw := List.mem_filter.mpr ⟨ztb_in (k := 3) (List.mem_of_getElem? (i := 29) (by show tables_1_3[29]? = some (.code (zyy 131) (zcd 131) (zmax 131) (zret 131)); unfold zyy zcd zmax zret; rw [zm_131]; rfl)), rfl⟩
theorem zcw_132 : zcode 132 ∈ zgw := List.mem_filter.mpr ⟨ztb_in (k := 3) (List.mem_of_getElem? (i := 47) (by show tables_1_3[47]? = some (.code (zyy 132) (zcd 132) (zmax 132) (zret 132)); unfold zyy zcd zmax zret; rw [zm_132]; rfl)), rfl⟩
theorem zcw_133 : zcode 133 ∈ zgw := List.mem_filter.mpr ⟨ztb_in (k := 6) (List.mem_of_getElem? (i := 44) (by show tables_1_6[44]? = some (.code (zyy 133) (zcd 133) (zmax 133) (zret 133)); unfold zyy zcd zmax zret; rw [zm_133]; rfl)), rfl⟩
theorem zcw_134 : zcode 134 ∈ zgw := List.mem_filter.mpr ⟨ztb_in (k := 3) (List.mem_of_getElem? (i := 55) (by show tables_1_3[55]? = some (.code (zyy 134) (zcd 134) (zmax 134) (zret 134)); unfold zyy zcd zmax zret; rw [zm_134]; rfl)), rfl⟩
theorem zcw_135 : zcode 135 ∈ zgw := List.mem_filter.mpr ⟨ztb_in (k := 6) (List.mem_of_getElem? (i := 55) (by show tables_1_6[55]? = some (.code (zyy 135) (zcd 135) (zmax 135) (zret 135)); unfold zyy zcd zmax zret; rw [zm_135]; rfl)), rfl⟩
theorem zcw_136 : zcode 136 ∈ zgw := List.mem_filter.mpr ⟨ztb_in (k := 3) (List.mem_of_getElem? (i := 67) (by show tables_1_3[67]? = some (.code (zyy 136) (zcd 136) (zmax 136) (zret 136)); unfold zyy zcd zmax zret; rw [zm_136]; rfl)), rfl⟩
theorem zcw_137 : zcode 137 ∈ zgw := List.mem_filter.mpr ⟨ztb_in (k := 6) (List.mem_of_getElem? (i := 67) (by show tables_1_6[67]? = some (.code (zyy 137) (zcd 137) (zmax 137) (zret 137)); unfold zyy zcd zmax zret; rw [zm_137]; rfl)), rfl⟩
theorem zcw_138 : zcode 138 ∈ zgw := List.mem_filter.mpr ⟨ztb_in (k := 6) (List.mem_of_getElem? (i := 106) (by show tables_1_6[106]? = some (.code (zyy 138) (zcd 138) (zmax 138) (zret 138)); unfold zyy zcd zmax zret; rw [zm_138]; rfl)), rfl⟩
theorem zcw_139 : zcode 139 ∈ zgw := List.mem_filter.mpr ⟨ztb_in (k := 6) (List.mem_of_getElem? (i := 118) (by show tables_1_6[118]? = some (.code (zyy 139) (zcd 139) (zmax 139) (zret 139)); unfold zyy zcd zmax zret; rw [zm_139]; rfl)), rfl⟩
theorem zcw_140 : zcode 140 ∈ zgw := List.mem_filter.mpr ⟨ztb_in (k := 6) (List.mem_of_getElem? (i := 135) (by show tables_1_6[135]? = some (.code (zyy 140) (zcd 140) (zmax 140) (zret 140)); unfold zyy zcd zmax zret; rw [zm_140]; rfl)), rfl⟩
theorem zcw_141 : zcode 141 ∈ zgw := List.mem_filter.mpr ⟨ztb_in (k := 3) (List.mem_of_getElem? (i := 71) (by show tables_1_3[71]? = some (.code (zyy 141) (zcd 141) (zmax 141) (zret 141)); unfold zyy zcd zmax zret; rw [zm_141]; rfl)), rfl⟩
theorem zcw_142 : zcode 142 ∈ zgw := List.mem_filter.mpr ⟨ztb_in (k := 3) (List.mem_of_getElem? (i := 75) (by show tables_1_3[75]? = some (.code (zyy 142) (zcd 142) (zmax 142) (zret 142)); unfold zyy zcd zmax zret; rw [zm_142]; rfl)), rfl⟩
theorem zcw_143 : zcode 143 ∈ zgw := List.mem_filter.mpr ⟨ztb_in (k := 3) (List.mem_of_getElem? (i := 83) (by show tables_1_3[83]? = some (.code (zyy 143) (zcd 143) (zmax 143) (zret 143)); unfold zyy zcd zmax zret; rw [zm_143]; rfl)), rfl⟩
theorem zcw_144 : zcode 144 ∈ zgw := List.mem_filter.mpr ⟨ztb_in (k := 6) (List.mem_of_getElem? (i := 142) (by show tables_1_6[142]? = some (.code (zyy 144) (zcd 144) (zmax 144) (zret 144)); unfold zyy zcd zmax zret; rw [zm_144]; rfl)), rfl⟩
theorem zcw_145 : zcode 145 ∈ zgw := List.mem_filter.mpr ⟨ztb_in (k := 6) (List.mem_of_getElem? (i := 149) (by show tables_1_6[149]? = some (.code (zyy 145) (zcd 145) (zmax 145) (zret 145)); unfold zyy zcd zmax zret; rw [zm_145]; rfl)), rfl⟩
theorem zcw_146 : zcode 146 ∈ zgw := List.mem_filter.mpr ⟨ztb_in (k := 6) (List.mem_of_getElem? (i := 160) (by show tables_1_6[160]? = some (.code (zyy 146) (zcd 146) (zmax 146) (zret 146)); unfold zyy zcd zmax zret; rw [zm_146]; rfl)), rfl⟩
theorem zcw_147 : zcode 147 ∈ zgw := List.mem_filter.mpr ⟨ztb_in (k := 6) (List.mem_of_getElem? (i := 168) (by show tables_1_6[168]? = some (.code (zyy 147) (zcd 147) (zmax 147) (zret 147)); unfold zyy zcd zmax zret; rw [zm_147]; rfl)), rfl⟩
theorem zcw_148 : zcode 148 ∈ zgw := List.mem_filter.mpr ⟨ztb_in (k := 6) (List.mem_of_getElem? (i := 187) (by show tables_1_6[187]? = some (.code (zyy 148) (zcd 148) (zmax 148) (zret 148)); unfold zyy zcd zmax zret; rw [zm_148]; rfl)), rfl⟩
theorem zcw_149 : zcode 149 ∈ zgw := List.mem_filter.mpr ⟨ztb_in (k := 6) (List.mem_of_getElem? (i := 195) (by show tables_1_6[195]? = some (.code (zyy 149) (zcd 149) (zmax 149) (zret 149)); unfold zyy zcd zmax zret; rw [zm_149]; rfl)), rfl⟩
theorem zcw_150 : zcode 150 ∈ zgw := List.mem_filter.mpr ⟨ztb_in (k := 3) (List.mem_of_getElem? (i := 87) (by show tables_1_3[87]? = some (.code (zyy 150) (zcd 150) (zmax 150) (zret 150)); unfold zyy zcd zmax zret; rw [zm_150]; rfl)), rfl⟩
theorem zcw_151 : zcode 151 ∈ zgw := List.mem_filter.mpr ⟨ztb_in (k := 3) (List.mem_of_getElem? (i := 91) (by show tables_1_3[91]? = some (.code (zyy 151) (zcd 151) (zmax 151) (zret 151)); unfold zyy zcd zmax zret; rw [zm_151]; rfl)), rfl⟩
theorem zcw_152 : zcode 152 ∈ zgw := List.mem_filter.mpr ⟨ztb_in (k := 3) (List.mem_of_getElem? (i := 95) (by show tables_1_3[95]? = some (.code (zyy 152) (zcd 152) (zmax 152) (zret 152)); unfold zyy zcd zmax zret; rw [zm_152]; rfl)), rfl⟩
theorem zcw_153 : zcode 153 ∈ zgw := List.mem_filter.mpr ⟨ztb_in (k := 3) (List.mem_of_getElem? (i := 99) (by show tables_1_3[99]? = some (.code (zyy 153) (zcd 153) (zmax 153) (zret 153)); unfold zyy zcd zmax zret; rw [zm_153]; rfl)), rfl⟩
theorem zcw_154 : zcode 154 ∈ zgw := List.mem_filter.mpr ⟨ztb_in (k := 3) (List.mem_of_getElem? (i := 107) (by show tables_1_3[107]? = some (.code (zyy 154) (zcd 154) (zmax 154) (zret 154)); unfold zyy zcd zmax zret; rw [zm_154]; rfl)), rfl⟩
theorem zcw_155 : zcode 155 ∈ zgw := List.mem_filter.mpr ⟨ztb_in (k := 4) (List.mem_of_getElem? (i := 207) (by show tables_1_4[207]? = some (.code (zyy 155) (zcd 155) (zmax 155) (zret 155)); unfold zyy zcd zmax zret; rw [zm_155]; rfl)), rfl⟩
theorem zcw_156 : zcode 156 ∈ zgw := List.mem_filter.mpr ⟨ztb_in (k := 5) (List.mem_of_getElem? (i := 34) (by show tables_1_5[34]? = some (.code (zyy 156) (zcd 156) (zmax 156) (zret 156)); unfold zyy zcd zmax zret; rw [zm_156]; rfl)), rfl⟩
theorem zcw_157 : zcode 157 ∈ zgw := List.mem_filter.mpr ⟨ztb_in (k := 5) (List.mem_of_getElem? (i := 49) (by show tables_1_5[49]? = some (.code (zyy 157) (zcd 157) (zmax 157) (zret 157)); unfold zyy zcd zmax zret; rw [zm_157]; rfl)), rfl⟩
theorem zcw_158 : zcode 158 ∈ zgw := List.mem_filter.mpr ⟨ztb_in (k := 5) (List.mem_of_getElem? (i := 92) (by show tables_1_5[92]? = some (.code (zyy 158) (zcd 158) (zmax 158) (zret 158)); unfold zyy zcd zmax zret; rw [zm_158]; rfl)), rfl⟩
theorem zcw_159 : zcode 159 ∈ zgw := List.mem_filter.mpr ⟨ztb_in (k := 5) (List.mem_of_getElem? (i := 173) (by show tables_1_5[173]? = some (.code (zyy 159) (zcd 159) (zmax 159) (zret 159)); unfold zyy zcd zmax zret; rw [zm_159]; rfl)), rfl⟩
theorem zcw_160 : zcode 160 ∈ zgw := List.mem_filter.mpr ⟨ztb_in (k := 2) (List.mem_of_getElem? (i := 131) (by show tables_1_2[131]? = some (.code (zyy 160) (zcd 160) (zmax 160) (zret 160)); unfold zyy zcd zmax zret; rw [zm_160]; rfl)), rfl⟩
theorem zcw_161 : zcode 161 ∈ zgw := List.mem_filter.mpr ⟨ztb_in (k := 5) (List.mem_of_getElem? (i := 228) (by show tables_1_5[228]? = some (.code (zyy 161) (zcd 161) (zmax 161) (zret 161)); unfold zyy zcd zmax zret; rw [zm_161]; rfl)), rfl⟩
theorem zcw_162 : zcode 162 ∈ zgw := List.mem_filter.mpr ⟨ztb_in (k := 5) (List.mem_of_getElem? (i := 75) (by show tables_1_5[75]? = some (.code (zyy 162) (zcd 162) (zmax 162) (zret 162)); unfold zyy zcd zmax zret; rw [zm_162]; rfl)), rfl⟩
theorem zcw_163 : zcode 163 ∈ zgw := List.mem_filter.mpr ⟨ztb_in (k := 3) (List.mem_of_getElem? (i := 103) (by show tables_1_3[103]? = some (.code (zyy 163) (zcd 163) (zmax 163) (zret 163)); unfold zyy zcd zmax zret; rw [zm_163]; rfl)), rfl⟩
theorem zcw_164 : zcode 164 ∈ zgw := List.mem_filter.mpr ⟨ztb_in (k := 5) (List.mem_of_getElem? (i := 177) (by show tables_1_5[177]? = some (.code (zyy 164) (zcd 164) (zmax 164) (zret 164)); unfold zyy zcd zmax zret; rw [zm_164]; rfl)), rfl⟩
theorem zcw_165 : zcode 165 ∈ zgw := List.mem_filter.mpr ⟨ztb_in (k := 6) (List.mem_of_getElem? (i := 153) (by show tables_1_6[153]? = some (.code (zyy 165) (zcd 165) (zmax 165) (zret 165)); unfold zyy zcd zmax zret; rw [zm_165]; rfl)), rfl⟩
theorem zcw_166 : zcode 166 ∈ zgw := List.mem_filter.mpr ⟨ztb_in (k := 3) (List.mem_of_getElem? (i := 22) (by show tables_1_3[22]? = some (.code (zyy 166) (zcd 166) (zmax 166) (zret 166)); unfold zyy zcd zmax zret; rw [zm_166]; rfl)), rfl⟩
theorem zcw_167 : zcode 167 ∈ zgw := List.mem_filter.mpr ⟨ztb_in (k := 5) (List.mem_of_getElem? (i := 213) (by show tables_1_5[213]? = some (.code (zyy 167) (zcd 167) (zmax 167) (zret 167)); unfold zyy zcd zmax zret; rw [zm_167]; rfl)), rfl⟩
theorem zcw_168 : zcode 168 ∈ zgw := List.mem_filter.mpr ⟨ztb_in (k := 5) (List.mem_of_getElem? (i := 217) (by show tables_1_5[217]? = some (.code (zyy 168) (zcd 168) (zmax 168) (zret 168)); unfold zyy zcd zmax zret; rw [zm_168]; rfl)), rfl⟩
theorem zcw_169 : zcode 169 ∈ zgw := List.mem_filter.mpr ⟨ztb_in (k := 2) (List.mem_of_getElem? (i := 194) (by show tables_1_2[194]? = some (.code (zyy 169) (zcd 169) (zmax 169) (zret 169)); unfold zyy zcd zmax zret; rw [zm_169]; rfl)), rfl⟩
theorem zcw_170 : zcode 170 ∈ zgw := List.mem_filter.mpr ⟨ztb_in (k := 6) (List.mem_of_getElem? (i := 124) (by show tables_1_6[124]? = some (.code (zyy 170) (zcd 170) (zmax 170) (zret 170)); unfold zyy zcd zmax zret; rw [zm_170]; rfl)), rfl⟩
theorem zcw_171 : zcode 171 ∈ zgw := List.mem_filter.mpr ⟨ztb_in (k := 6) (List.mem_of_getElem? (i := 121) (by show tables_1_6[121]? = some (.code (zyy 171) (zcd 171) (zmax 171) (zret 171)); unfold zyy zcd zmax zret; rw [zm_171]; rfl)), rfl⟩
theorem zcw_172 : zcode 172 ∈ zgw := List.mem_filter.mpr ⟨ztb_in (k := 6) (List.mem_of_getElem? (i := 200) (by show tables_1_6[200]? = some (.code (zyy 172) (zcd 172) (zmax 172) (zret 172)); unfold zyy zcd zmax zret; rw [zm_172]; rfl)), rfl⟩
theorem zcw_173 : zcode 173 ∈ zgw := List.mem_filter.mpr ⟨ztb_in (k := 7) (List.mem_of_getElem? (i := 39) (by show tables_1_7[39]? = some (.code (zyy 173) (zcd 173) (zmax 173) (zret 173)); unfold zyy zcd zmax zret; rw [zm_173]; rfl)), rfl⟩
theorem zcw_174 : zcode 174 ∈ zgw := List.mem_filter.mpr ⟨ztb_in (k := 7) (List.mem_of_getElem? (i := 50) (by show tables_1_7[50]? = some (.code (zyy 174) (zcd 174) (zmax 174) (zret 174)); unfold zyy zcd zmax zret; rw [zm_174]; rfl)), rfl⟩
theorem zcw_175 : zcode 175 ∈ zgw := List.mem_filter.mpr ⟨ztb_in (k := 8) (List.mem_of_getElem? (i := 76) (by show tables_1_8[76]? = some (.code (zyy 175) (zcd 175) (zmax 175) (zret 175)); unfold zyy zcd zmax zret; rw [zm_175]; rfl)), rfl⟩
theorem zcw_176 : zcode 176 ∈ zgw := List.mem_filter.mpr ⟨ztb_in (k := 8) (List.mem_of_getElem? (i := 48) (by show tables_1_8[48]? = some (.code (zyy 176) (zcd 176) (zmax 176) (zret 176)); unfold zyy zcd zmax zret; rw [zm_176]; rfl)), rfl⟩
theorem zcw_177 : zcode 177 ∈ zgw := List.mem_filter.mpr ⟨ztb_in (k := 8) (List.mem_of_getElem? (i := 9) (by show tables_1_8[9]? = some (.code (zyy 177) (zcd 177) (zmax 177) (zret 177)); unfold zyy zcd zmax zret; rw [zm_177]; rfl)), rfl⟩
theorem zcw_178 : zcode 178 ∈ zgw := List.mem_filter.mpr ⟨ztb_in (k := 8) (List.mem_of_getElem? (i := 224) (by show tables_1_8[224]? = some (.code (zyy 178) (zcd 178) (zmax 178) (zret 178)); unfold zyy zcd zmax zret; rw [zm_178]; rfl)), rfl⟩
theorem zcw_179 : zcode 179 ∈ zgw := List.mem_filter.mpr ⟨ztb_in (k := 7) (List.mem_of_getElem? (i := 238) (by show tables_1_7[238]? = some (.code (zyy 179) (zcd 179) (zmax 179) (zret 179)); unfold zyy zcd zmax zret; rw [zm_179]; rfl)), rfl⟩
theorem zcw_180 : zcode 180 ∈ zgw := List.mem_filter.mpr ⟨ztb_in (k := 7) (List.mem_of_getElem? (i := 184) (by show tables_1_7[184]? = some (.code (zyy 180) (zcd 180) (zmax 180) (zret 180)); unfold zyy zcd zmax zret; rw [zm_180]; rfl)), rfl⟩
theorem zcw_181 : zcode 181 ∈ zgw := List.mem_filter.mpr ⟨ztb_in (k := 8) (List.mem_of_getElem? (i := 25) (by show tables_1_8[25]? = some (.code (zyy 181) (zcd 181) (zmax 181) (zret 181)); unfold zyy zcd zmax zret; rw [zm_181]; rfl)), rfl⟩
theorem zcw_182 : zcode 182 ∈ zgw := List.mem_filter.mpr ⟨ztb_in (k := 7) (List.mem_of_getElem? (i := 226) (by show tables_1_7[226]? = some (.code (zyy 182) (zcd 182) (zmax 182) (zret 182)); unfold zyy zcd zmax zret; rw [zm_182]; rfl)), rfl⟩
theorem zcw_183 : zcode 183 ∈ zgw := List.mem_filter.mpr ⟨ztb_in (k := 7) (List.mem_of_getElem? (i := 218) (by show tables_1_7[218]? = some (.code (zyy 183) (zcd 183) (zmax 183) (zret 183)); unfold zyy zcd zmax zret; rw [zm_183]; rfl)), rfl⟩
theorem zcw_184 : zcode 184 ∈ zgw := List.mem_filter.mpr ⟨ztb_in (k := 8) (List.mem_of_getElem? (i := 21) (by show tables_1_8[21]? = some (.code (zyy 184) (zcd 184) (zmax 184) (zret 184)); unfold zyy zcd zmax zret; rw [zm_184]; rfl)), rfl⟩
theorem zcw_185 : zcode 185 ∈ zgw := List.mem_filter.mpr ⟨ztb_in (k := 8) (List.mem_of_getElem? (i := 37) (by show tables_1_8[37]? = some (.code (zyy 185) (zcd 185) (zmax 185) (zret 185)); unfold zyy zcd zmax zret; rw [zm_185]; rfl)), rfl⟩
theorem zcw_186 : zcode 186 ∈ zgw := List.mem_filter.mpr ⟨ztb_in (k := 7) (List.mem_of_getElem? (i := 234) (by show tables_1_7[234]? = some (.code (zyy 186) (zcd 186) (zmax 186) (zret 186)); unfold zyy zcd zmax zret; rw [zm_186]; rfl)), rfl⟩
theorem zcw_187 : zcode 187 ∈ zgw := List.mem_filter.mpr ⟨ztb_in (k := 8) (List.mem_of_getElem? (i := 6) (by show tables_1_8[6]? = some (.code (zyy 187) (zcd 187) (zmax 187) (zret 187)); unfold zyy zcd zmax zret; rw [zm_187]; rfl)), rfl⟩
theorem zcw_188 : zcode 188 ∈ zgw := List.mem_filter.mpr ⟨ztb_in (k := 8) (List.mem_of_getElem? (i := 52) (by show tables_1_8[52]? = some (.code (zyy 188) (zcd 188) (zmax 188) (zret 188)); unfold zyy zcd zmax zret; rw [zm_188]; rfl)), rfl⟩
theorem zcw_189 : zcode 189 ∈ zgw := List.mem_filter.mpr ⟨ztb_in (k := 8) (List.mem_of_getElem? (i := 45) (by show tables_1_8[45]? = some (.code (zyy 189) (zcd 189) (zmax 189) (zret 189)); unfold zyy zcd zmax zret; rw [zm_189]; rfl)), rfl⟩
theorem zcw_190 : zcode 190 ∈ zgw := List.mem_filter.mpr ⟨ztb_in (k := 7) (List.mem_of_getElem? (i := 43) (by show tables_1_7[43]? = some (.code (zyy 190) (zcd 190) (zmax 190) (zret 190)); unfold zyy zcd zmax zret; rw [zm_190]; rfl)), rfl⟩
theorem zcw_191 : zcode 191 ∈ zgw := List.mem_filter.mpr ⟨ztb_in (k := 7) (List.mem_of_getElem? (i := 47) (by show tables_1_7[47]? = some (.code (zyy 191) (zcd 191) (zmax 191) (zret 191)); unfold zyy zcd zmax zret; rw [zm_191]; rfl)), rfl⟩
theorem zcw_192 : zcode 192 ∈ zgw := List.mem_filter.mpr ⟨ztb_in (k := 7) (List.mem_of_getElem? (i := 74) (by show tables_1_7[74]? = some (.code (zyy 192) (zcd 192) (zmax 192) (zret 192)); unfold zyy zcd zmax zret; rw [zm_192]; rfl)), rfl⟩
theorem zcw_193 : zcode 193 ∈ zgw := List.mem_filter.mpr ⟨ztb_in (k := 7) (List.mem_of_getElem? (i := 70) (by show tables_1_7[70]? = some (.code (zyy 193) (zcd 193) (zmax 193) (zret 193)); unfold zyy zcd zmax zret; rw [zm_193]; rfl)), rfl⟩
theorem zcw_194 : zcode 194 ∈ zgw := List.mem_filter.mpr ⟨ztb_in (k := 7) (List.mem_of_getElem? (i := 117) (by show tables_1_7[117]? = some (.code (zyy 194) (zcd 194) (zmax 194) (zret 194)); unfold zyy zcd zmax zret; rw [zm_194]; rfl)), rfl⟩
theorem zcw_195 : zcode 195 ∈ zgw := List.mem_filter.mpr ⟨ztb_in (k := 7) (List.mem_of_getElem? (i := 87) (by show tables_1_7[87]? = some (.code (zyy 195) (zcd 195) (zmax 195) (zret 195)); unfold zyy zcd zmax zret; rw [zm_195]; rfl)), rfl⟩
theorem zcw_196 : zcode 196 ∈ zgw := List.mem_filter.mpr ⟨ztb_in (k := 7) (List.mem_of_getElem? (i := 78) (by show tables_1_7[78]? = some (.code (zyy 196) (zcd 196) (zmax 196) (zret 196)); unfold zyy zcd zmax zret; rw [zm_196]; rfl)), rfl⟩
theorem zcw_197 : zcode 197 ∈ zgw := List.mem_filter.mpr ⟨ztb_in (k := 7) (List.mem_of_getElem? (i := 99) (by show tables_1_7[99]? = some (.code (zyy 197) (zcd 197) (zmax 197) (zret 197)); unfold zyy zcd zmax zret; rw [zm_197]; rfl)), rfl⟩
theorem zcw_198 : zcode 198 ∈ zgw := List.mem_filter.mpr ⟨ztb_in (k := 7) (List.mem_of_getElem? (i := 95) (by show tables_1_7[95]? = some (.code (zyy 198) (zcd 198) (zmax 198) (zret 198)); unfold zyy zcd zmax zret; rw [zm_198]; rfl)), rfl⟩
theorem zcw_199 : zcode 199 ∈ zgw := List.mem_filter.mpr ⟨ztb_in (k := 7) (List.mem_of_getElem? (i := 157) (by show tables_1_7[157]? = some (.code (zyy 199) (zcd 199) (zmax 199) (zret 199)); unfold zyy zcd zmax zret; rw [zm_199]; rfl)), rfl⟩
theorem zcw_200 : zcode 200 ∈ zgw := List.mem_filter.mpr ⟨ztb_in (k := 7) (List.mem_of_getElem? (i := 148) (by show tables_1_7[148]? = some (.code (zyy 200) (zcd 200) (zmax 200) (zret 200)); unfold zyy zcd zmax zret; rw [zm_200]; rfl)), rfl⟩
theorem zcw_201 : zcode 201 ∈ zgw := List.mem_filter.mpr ⟨ztb_in (k := 7) (List.mem_of_getElem? (i := 162) (by show tables_1_7[162]? = some (.code (zyy 201) (zcd 201) (zmax 201) (zret 201)); unfold zyy zcd zmax zret; rw [zm_201]; rfl)), rfl⟩
theorem zcw_202 : zcode 202 ∈ zgw := List.mem_filter.mpr ⟨ztb_in (k := 7) (List.mem_of_getElem? (i := 152) (by show tables_1_7[152]? = some (.code (zyy 202) (zcd 202) (zmax 202) (zret 202)); unfold zyy zcd zmax zret; rw [zm_202]; rfl)), rfl⟩
theorem zcw_203 : zcode 203 ∈ zgw := List.mem_filter.mpr ⟨ztb_in (k := 7) (List.mem_of_getElem? (i := 173) (by show tables_1_7[173]? = some (.code (zyy 203) (zcd 203) (zmax 203) (zret 203)); unfold zyy zcd zmax zret; rw [zm_203]; rfl)), rfl⟩
theorem zcw_204 : zcode 204 ∈ zgw := List.mem_filter.mpr ⟨ztb_in (k := 7) (List.mem_of_getElem? (i := 167) (by show tables_1_7[167]? = some (.code (zyy 204) (zcd 204) (zmax 204) (zret 204)); unfold zyy zcd zmax zret; rw [zm_204]; rfl)), rfl⟩
theorem zcw_205 : zcode 205 ∈ zgw := List.mem_filter.mpr ⟨ztb_in (k := 7) (List.mem_of_getElem? (i := 180) (by show tables_1_7[180]? = some (.code (zyy 205) (zcd 205) (zmax 205) (zret 205)); unfold zyy zcd zmax zret; rw [zm_205]; rfl)), rfl⟩
theorem zcw_206 : zcode 206 ∈ zgw := List.mem_filter.mpr ⟨ztb_in (k := 7) (List.mem_of_getElem? (i := 188) (by show tables_1_7[188]? = some (.code (zyy 206) (zcd 206) (zmax 206) (zret 206)); unfold zyy zcd zmax zret; rw [zm_206]; rfl)), rfl⟩
theorem zcw_207 : zcode 207 ∈ zgw := List.mem_filter.mpr ⟨ztb_in (k := 7) (List.mem_of_getElem? (i := 196) (by show tables_1_7[196]? = some (.code (zyy 207) (zcd 207) (zmax 207) (zret 207)); unfold zyy zcd zmax zret; rw [zm_207]; rfl)), rfl⟩
theorem zcw_208 : zcode 208 ∈ zgw := List.mem_filter.mpr ⟨ztb_in (k := 7) (List.mem_of_getElem? (i := 143) (by show tables_1_7[143]? = some (.code (zyy 208) (zcd 208) (zmax 208) (zret 208)); unfold zyy zcd zmax zret; rw [zm_208]; rfl)), rfl⟩
theorem zcw_209 : zcode 209 ∈ zgw := List.mem_filter.mpr ⟨ztb_in (k := 7) (List.mem_of_getElem? (i := 62) (by show tables_1_7[62]? = some (.code (zyy 209) (zcd 209) (zmax 209) (zret 209)); unfold zyy zcd zmax zret; rw [zm_209]; rfl)), rfl⟩
theorem zcw_210 : zcode 210 ∈ zgw := List.mem_filter.mpr ⟨ztb_in (k := 7) (List.mem_of_getElem? (i := 66) (by show tables_1_7[66]? = some (.code (zyy 210) (zcd 210) (zmax 210) (zret 210)); unfold zyy zcd zmax zret; rw [zm_210]; rfl)), rfl⟩
theorem zcw_211 : zcode 211 ∈ zgw := List.mem_filter.mpr ⟨ztb_in (k := 7) (List.mem_of_getElem? (i := 58) (by show tables_1_7[58]? = some (.code (zyy 211) (zcd 211) (zmax 211) (zret 211)); unfold zyy zcd zmax zret; rw [zm_211]; rfl)), rfl⟩
theorem zcw_212 : zcode 212 ∈ zgw := List.mem_filter.mpr ⟨ztb_in (k := 7) (List.mem_of_getElem? (i := 202) (by show tables_1_7[202]? = some (.code (zyy 212) (zcd 212) (zmax 212) (zret 212)); unfold zyy zcd zmax zret; rw [zm_212]; rfl)), rfl⟩
theorem zcw_213 : zcode 213 ∈ zgw := List.mem_filter.mpr ⟨ztb_in (k := 7) (List.mem_of_getElem? (i := 54) (by show tables_1_7[54]? = some (.code (zyy 213) (zcd 213) (zmax 213) (zret 213)); unfold zyy zcd zmax zret; rw [zm_213]; rfl)), rfl⟩
theorem zcw_214 : zcode 214 ∈ zgw := List.mem_filter.mpr ⟨ztb_in (k := 7) (List.mem_of_getElem? (i := 131) (by show tables_1_7[131]? = some (.code (zyy 214) (zcd 214) (zmax 214) (zret 214)); unfold zyy zcd zmax zret; rw [zm_214]; rfl)), rfl⟩
theorem zcw_215 : zcode 215 ∈ zgw := List.mem_filter.mpr ⟨ztb_in (k := 7) (List.mem_of_getElem? (i := 127) (by show tables_1_7[127]? = some (.code (zyy 215) (zcd 215) (zmax 215) (zret 215)); unfold zyy zcd zmax zret; rw [zm_215]; rfl)), rfl⟩
theorem zcw_216 : zcode 216 ∈ zgw := List.mem_filter.mpr ⟨ztb_in (k := 7) (List.mem_of_getElem? (i := 121) (by show tables_1_7[121]? = some (.code (zyy 216) (zcd 216) (zmax 216) (zret 216)); unfold zyy zcd zmax zret; rw [zm_216]; rfl)), rfl⟩
theorem zcw_217 : zcode 217 ∈ zgw := List.mem_filter.mpr ⟨ztb_in (k := 7) (List.mem_of_getElem? (i := 112) (by show tables_1_7[112]? = some (.code (zyy 217) (zcd 217) (zmax 217) (zret 217)); unfold zyy zcd zmax zret; rw [zm_217]; rfl)), rfl⟩
theorem zcw_218 : zcode 218 ∈ zgw := List.mem_filter.mpr ⟨ztb_in (k := 7) (List.mem_of_getElem? (i := 108) (by show tables_1_7[108]? = some (.code (zyy 218) (zcd 218) (zmax 218) (zret 218)); unfold zyy zcd zmax zret; rw [zm_218]; rfl)), rfl⟩
theorem zcw_219 : zcode 219 ∈ zgw := List.mem_filter.mpr ⟨ztb_in (k := 7) (List.mem_of_getElem? (i := 104) (by show tables_1_7[104]? = some (.code (zyy 219) (zcd 219) (zmax 219) (zret 219)); unfold zyy zcd zmax zret; rw [zm_219]; rfl)), rfl⟩
theorem zcw_220 : zcode 220 ∈ zgw := List.mem_filter.mpr ⟨ztb_in (k := 7) (List.mem_of_getElem? (i := 82) (by show tables_1_7[82]? = some (.code (zyy 220) (zcd 220) (zmax 220) (zret 220)); unfold zyy zcd zmax zret; rw [zm_220]; rfl)), rfl⟩
theorem zcw_221 : zcode 221 ∈ zgw := List.mem_filter.mpr ⟨ztb_in (k := 7) (List.mem_of_getElem? (i := 206) (by show tables_1_7[206]? = some (.code (zyy 221) (zcd 221) (zmax 221) (zret 221)); unfold zyy zcd zmax zret; rw [zm_221]; rfl)), rfl⟩
theorem zcw_222 : zcode 222 ∈ zgw := List.mem_filter.mpr ⟨ztb_in (k := 7) (List.mem_of_getElem? (i := 210) (by show tables_1_7[210]? = some (.code (zyy 222) (zcd 222) (zmax 222) (zret 222)); unfold zyy zcd zmax zret; rw [zm_222]; rfl)), rfl⟩
theorem zcw_223 : zcode 223 ∈ zgw := List.mem_filter.mpr ⟨ztb_in (k := 8) (List.mem_of_getElem? (i := 41) (by show tables_1_8[41]? = some (.code (zyy 223) (zcd 223) (zmax 223) (zret 223)); unfold zyy zcd zmax zret; rw [zm_223]; rfl)), rfl⟩
theorem zcw_224 : zcode 224 ∈ zgw := List.mem_filter.mpr ⟨ztb_in (k := 8) (List.mem_of_getElem? (i := 112) (by show tables_1_8[112]? = some (.code (zyy 224) (zcd 224) (zmax 224) (zret 224)); unfold zyy zcd zmax zret; rw [zm_224]; rfl)), rfl⟩
theorem zcw_225 : zcode 225 ∈ zgw := List.mem_filter.mpr ⟨ztb_in (k := 8) (List.mem_of_getElem? (i := 72) (by show tables_1_8[72]? = some (.code (zyy 225) (zcd 225) (zmax 225) (zret 225)); unfold zyy zcd zmax zret; rw [zm_225]; rfl)), rfl⟩
theorem zcw_226 : zcode 226 ∈ zgw := List.mem_filter.mpr ⟨ztb_in (k := 8) (List.mem_of_getElem? (i := 84) (by show tables_1_8[84]? = some (.code (zyy 226) (zcd 226) (zmax 226) (zret 226)); unfold zyy zcd zmax zret; rw [zm_226]; rfl)), rfl⟩
theorem zcw_227 : zcode 227 ∈ zgw := List.mem_filter.mpr ⟨ztb_in (k := 8) (List.mem_of_getElem? (i := 80) (by show tables_1_8[80]? = some (.code (zyy 227) (zcd 227) (zmax 227) (zret 227)); unfold zyy zcd zmax zret; rw [zm_227]; rfl)), rfl⟩
theorem zcw_228 : zcode 228 ∈ zgw := List.mem_filter.mpr ⟨ztb_in (k := 8) (List.mem_of_getElem? (i := 88) (by show tables_1_8[88]? = some (.code (zyy 228) (zcd 228) (zmax 228) (zret 228)); unfold zyy zcd zmax zret; rw [zm_228]; rfl)), rfl⟩
theorem zcw_229 : zcode 229 ∈ zgw := List.mem_filter.mpr ⟨ztb_in (k := 8) (List.mem_of_getElem? (i := 68) (by show tables_1_8[68]? = some (.code (zyy 229) (zcd 229) (zmax 229) (zret 229)); unfold zyy zcd zmax zret; rw [zm_229]; rfl)), rfl⟩
theorem zcw_230 : zcode 230 ∈ zgw := List.mem_filter.mpr ⟨ztb_in (k := 8) (List.mem_of_getElem? (i := 100) (by show tables_1_8[100]? = some (.code (zyy 230) (zcd 230) (zmax 230) (zret 230)); unfold zyy zcd zmax zret; rw [zm_230]; rfl)), rfl⟩
theorem zcw_231 : zcode 231 ∈ zgw := List.mem_filter.mpr ⟨ztb_in (k := 8) (List.mem_of_getElem? (i := 2) (by show tables_1_8[2]? = some (.code (zyy 231) (zcd 231) (zmax 231) (zret 231)); unfold zyy zcd zmax zret; rw [zm_231]; rfl)), rfl⟩
theorem zcw_232 : zcode 232 ∈ zgw := List.mem_filter.mpr ⟨ztb_in (k := 7) (List.mem_of_getElem? (i := 230) (by show tables_1_7[230]? = some (.code (zyy 232) (zcd 232) (zmax 232) (zret 232)); unfold zyy zcd zmax zret; rw [zm_232]; rfl)), rfl⟩
theorem zcw_233 : zcode 233 ∈ zgw := List.mem_filter.mpr ⟨ztb_in (k := 8) (List.mem_of_getElem? (i := 13) (by show tables_1_8[13]? = some (.code (zyy 233) (zcd 233) (zmax 233) (zret 233)); unfold zyy zcd zmax zret; rw [zm_233]; rfl)), rfl⟩
theorem zcw_234 : zcode 234 ∈ zgw := List.mem_filter.mpr ⟨ztb_in (k := 7) (List.mem_of_getElem? (i := 222) (by show tables_1_7[222]? = some (.code (zyy 234) (zcd 234) (zmax 234) (zret 234)); unfold zyy zcd zmax zret; rw [zm_234]; rfl)), rfl⟩
theorem zcw_235 : zcode 235 ∈ zgw := List.mem_filter.mpr ⟨ztb_in (k := 7) (List.mem_of_getElem? (i := 214) (by show tables_1_7[214]? = some (.code (zyy 235) (zcd 235) (zmax 235) (zret 235)); unfold zyy zcd zmax zret; rw [zm_235]; rfl)), rfl⟩
theorem zcw_236 : zcode 236 ∈ zgw := List.mem_filter.mpr ⟨ztb_in (k := 8) (List.mem_of_getElem? (i := 29) (by show tables_1_8[29]? = some (.code (zyy 236) (zcd 236) (zmax 236) (zret 236)); unfold zyy zcd zmax zret; rw [zm_236]; rfl)), rfl⟩
theorem zcw_237 : zcode 237 ∈ zgw := List.mem_filter.mpr ⟨ztb_in (k := 8) (List.mem_of_getElem? (i := 17) (by show tables_1_8[17]? = some (.code (zyy 237) (zcd 237) (zmax 237) (zret 237)); unfold zyy zcd zmax zret; rw [zm_237]; rfl)), rfl⟩
theorem zcw_238 : zcode 238 ∈ zgw := List.mem_filter.mpr ⟨ztb_in (k := 8) (List.mem_of_getElem? (i := 33) (by show tables_1_8[33]? = some (.code (zyy 238) (zcd 238) (zmax 238) (zret 238)); unfold zyy zcd zmax zret; rw [zm_238]; rfl)), rfl⟩
theorem zcw_239 : zcode 239 ∈ zgw := List.mem_filter.mpr ⟨ztb_in (k := 8) (List.mem_of_getElem? (i := 96) (by show tables_1_8[96]? = some (.code (zyy 239) (zcd 239) (zmax 239) (zret 239)); unfold zyy zcd zmax zret; rw [zm_239]; rfl)), rfl⟩
theorem zcw_240 : zcode 240 ∈ zgw := List.mem_filter.mpr ⟨ztb_in (k := 8) (List.mem_of_getElem? (i := 120) (by show tables_1_8[120]? = some (.code (zyy 240) (zcd 240) (zmax 240) (zret 240)); unfold zyy zcd zmax zret; rw [zm_240]; rfl)), rfl⟩
theorem zcw_241 : zcode 241 ∈ zgw := List.mem_filter.mpr ⟨ztb_in (k := 8) (List.mem_of_getElem? (i := 92) (by show tables_1_8[92]? = some (.code (zyy 241) (zcd 241) (zmax 241) (zret 241)); unfold zyy zcd zmax zret; rw [zm_241]; rfl)), rfl⟩
theorem zcw_242 : zcode 242 ∈ zgw := List.mem_filter.mpr ⟨ztb_in (k := 8) (List.mem_of_getElem? (i := 104) (by show tables_1_8[104]? = some (.code (zyy 242) (zcd 242) (zmax 242) (zret 242)); unfold zyy zcd zmax zret; rw [zm_242]; rfl)), rfl⟩
theorem zcw_243 : zcode 243 ∈ zgw := List.mem_filter.mpr ⟨ztb_in (k := 8) (List.mem_of_getElem? (i := 108) (by show tables_1_8[108]? = some (.code (zyy 243) (zcd 243) (zmax 243) (zret 243)); unfold zyy zcd zmax zret; rw [zm_243]; rfl)), rfl⟩
theorem zcw_244 : zcode 244 ∈ zgw := List.mem_filter.mpr ⟨ztb_in (k := 8) (List.mem_of_getElem? (i := 116) (by show tables_1_8[116]? = some (.code (zyy 244) (zcd 244) (zmax 244) (zret 244)); unfold zyy zcd zmax zret; rw [zm_244]; rfl)), rfl⟩
theorem zcw_245 : zcode 245 ∈ zgw := List.mem_filter.mpr ⟨ztb_in (k := 8) (List.mem_of_getElem? (i := 124) (by show tables_1_8[124]? = some (.code (zyy 245) (zcd 245) (zmax 245) (zret 245)); unfold zyy zcd zmax zret; rw [zm_245]; rfl)), rfl⟩
theorem zcw_246 : zcode 246 ∈ zgw := List.mem_filter.mpr ⟨ztb_in (k := 8) (List.mem_of_getElem? (i := 128) (by show tables_1_8[128]? = some (.code (zyy 246) (zcd 246) (zmax 246) (zret 246)); unfold zyy zcd zmax zret; rw [zm_246]; rfl)), rfl⟩
theorem zcw_247 : zcode 247 ∈ zgw := List.mem_filter.mpr ⟨ztb_in (k := 8) (List.mem_of_getElem? (i := 132) (by show tables_1_8[132]? = some (.code (zyy 247) (zcd 247) (zmax 247) (zret 247)); unfold zyy zcd zmax zret; rw [zm_247]; rfl)), rfl⟩
theorem zcw_248 : zcode 248 ∈ zgw := List.mem_filter.mpr ⟨ztb_in (k := 8) (List.mem_of_getElem? (i := 136) (by show tables_1_8[136]? = some (.code (zyy 248) (zcd 248) (zmax 248) (zret 248)); unfold zyy zcd zmax zret; rw [zm_248]; rfl)), rfl⟩
theorem zcw_249 : zcode 249 ∈ zgw := List.mem_filter.mpr ⟨ztb_in (k := 8) (List.mem_of_getElem? (i := 140) (by show tables_1_8[140]? = some (.code (zyy 249) (zcd 249) (zmax 249) (zret 249)); unfold zyy zcd zmax zret; rw [zm_249]; rfl)), rfl⟩
theorem zcw_250 : zcode 250 ∈ zgw := List.mem_filter.mpr ⟨ztb_in (k := 8) (List.mem_of_getElem? (i := 144) (by show tables_1_8[144]? = some (.code (zyy 250) (zcd 250) (zmax 250) (zret 250)); unfold zyy zcd zmax zret; rw [zm_250]; rfl)), rfl⟩
theorem zcw_251 : zcode 251 ∈ zgw := List.mem_filter.mpr ⟨ztb_in (k := 8) (List.mem_of_getElem? (i := 64) (by show tables_1_8[64]? = some (.code (zyy 251) (zcd 251) (zmax 251) (zret 251)); unfold zyy zcd zmax zret; rw [zm_251]; rfl)), rfl⟩
theorem zcw_252 : zcode 252 ∈ zgw := List.mem_filter.mpr ⟨ztb_in (k := 8) (List.mem_of_getElem? (i := 60) (by show tables_1_8[60]? = some (.code (zyy 252) (zcd 252) (zmax 252) (zret 252)); unfold zyy zcd zmax zret; rw [zm_252]; rfl)), rfl⟩
theorem zcw_253 : zcode 253 ∈ zgw := List.mem_filter.mpr ⟨ztb_in (k := 8) (List.mem_of_getElem? (i := 148) (by show tables_1_8[148]? = some (.code (zyy 253) (zcd 253) (zmax 253) (zret 253)); unfold zyy zcd zmax zret; rw [zm_253]; rfl)), rfl⟩
theorem zcw_254 : zcode 254 ∈ zgw := List.mem_filter.mpr ⟨ztb_in (k := 8) (List.mem_of_getElem? (i := 152) (by show tables_1_8[152]? = some (.code (zyy 254) (zcd 254) (zmax 254) (zret 254)); unfold zyy zcd zmax zret; rw [zm_254]; rfl)), rfl⟩
theorem zcw_255 : zcode 255 ∈ zgw := List.mem_filter.mpr ⟨ztb_in (k := 8) (List.mem_of_getElem? (i := 160) (by show tables_1_8[160]? = some (.code (zyy 255) (zcd 255) (zmax 255) (zret 255)); unfold zyy zcd zmax zret; rw [zm_255]; rfl)), rfl⟩
theorem zcw_256 : zcode 256 ∈ zgw := List.mem_filter.mpr ⟨ztb_in (k := 8) (List.mem_of_getElem? (i := 156) (by show tables_1_8[156]? = some (.code (zyy 256) (zcd 256) (zmax 256) (zret 256)); unfold zyy zcd zmax zret; rw [zm_256]; rfl)), rfl⟩
theorem zcw_257 : zcode 257 ∈ zgw := List.mem_filter.mpr ⟨ztb_in (k := 8) (List.mem_of_getElem? (i := 164) (by show tables_1_8[164]? = some (.code (zyy 257) (zcd 257) (zmax 257) (zret 257)); unfold zyy zcd zmax zret; rw [zm_257]; rfl)), rfl⟩
theorem zcw_258 : zcode 258 ∈ zgw := List.mem_filter.mpr ⟨ztb_in (k := 8) (List.mem_of_getElem? (i := 172) (by show tables_1_8[172]? = some (.code (zyy 258) (zcd 258) (zmax 258) (zret 258)); unfold zyy zcd zmax zret; rw [zm_258]; rfl)), rfl⟩
theorem zcw_259 : zcode 259 ∈ zgw := List.mem_filter.mpr ⟨ztb_in (k := 8) (List.mem_of_getElem? (i := 168) (by show tables_1_8[168]? = some (.code (zyy 259) (zcd 259) (zmax 259) (zret 259)); unfold zyy zcd zmax zret; rw [zm_259]; rfl)), rfl⟩
theorem zcw_260 : zcode 260 ∈ zgw := List.mem_filter.mpr ⟨ztb_in (k := 8) (List.mem_of_getElem? (i := 176) (by show tables_1_8[176]? = some (.code (zyy 260) (zcd 260) (zmax 260) (zret 260)); unfold zyy zcd zmax zret; rw [zm_260]; rfl)), rfl⟩
theorem zcw_261 : zcode 261 ∈ zgw := List.mem_filter.mpr ⟨ztb_in (k := 8) (List.mem_of_getElem? (i := 180) (by show tables_1_8[180]? = some (.code (zyy 261) (zcd 261) (zmax 261) (zret 261)); unfold zyy zcd zmax zret; rw [zm_261]; rfl)), rfl⟩
theorem zcw_262 : zcode 262 ∈ zgw := List.mem_filter.mpr ⟨ztb_in (k := 8) (List.mem_of_getElem? (i := 184) (by show tables_1_8[184]? = some (.code (zyy 262) (zcd 262) (zmax 262) (zret 262)); unfold zyy zcd zmax zret; rw [zm_262]; rfl)), rfl⟩
theorem zcw_263 : zcode 263 ∈ zgw := List.mem_filter.mpr ⟨ztb_in (k := 8) (List.mem_of_getElem? (i := 192) (by show tables_1_8[192]? = some (.code (zyy 263) (zcd 263) (zmax 263) (zret 263)); unfold zyy zcd zmax zret; rw [zm_263]; rfl)), rfl⟩
theorem zcw_264 : zcode 264 ∈ zgw := List.mem_filter.mpr ⟨ztb_in (k := 8) (List.mem_of_getElem? (i := 188) (by show tables_1_8[188]? = some (.code (zyy 264) (zcd 264) (zmax 264) (zret 264)); unfold zyy zcd zmax zret; rw [zm_264]; rfl)), rfl⟩
theorem zcw_265 : zcode 265 ∈ zgw := List.mem_filter.mpr ⟨ztb_in (k := 8) (List.mem_of_getElem? (i := 204) (by show tables_1_8[204]? = some (.code (zyy 265) (zcd 265) (zmax 265) (zret 265)); unfold zyy zcd zmax zret; rw [zm_265]; rfl)), rfl⟩
theorem zcw_266 : zcode 266 ∈ zgw := List.mem_filter.mpr ⟨ztb_in (k := 8) (List.mem_of_getElem? (i := 208) (by show tables_1_8[208]? = some (.code (zyy 266) (zcd 266) (zmax 266) (zret 266)); unfold zyy zcd zmax zret; rw [zm_266]; rfl)), rfl⟩
theorem zcw_267 : zcode 267 ∈ zgw := List.mem_filter.mpr ⟨ztb_in (k := 8) (List.mem_of_getElem? (i := 200) (by show tables_1_8[200]? = some (.code (zyy 267) (zcd 267) (zmax 267) (zret 267)); unfold zyy zcd zmax zret; rw [zm_267]; rfl)), rfl⟩
theorem zcw_268 : zcode 268 ∈ zgw := List.mem_filter.mpr ⟨ztb_in (k := 8) (List.mem_of_getElem? (i := 196) (by show tables_1_8[196]? = some (.code (zyy 268) (zcd 268) (zmax 268) (zret 268)); unfold zyy zcd zmax zret; rw [zm_268]; rfl)), rfl⟩
theorem zcw_269 : zcode 269 ∈ zgw := List.mem_filter.mpr ⟨ztb_in (k := 8) (List.mem_of_getElem? (i := 212) (by show tables_1_8[212]? = some (.code (zyy 269) (zcd 269) (zmax 269) (zret 269)); unfold zyy zcd zmax zret; rw [zm_269]; rfl)), rfl⟩
theorem zcw_270 : zcode 270 ∈ zgw := List.mem_filter.mpr ⟨ztb_in (k := 8) (List.mem_of_getElem? (i := 217) (by show tables_1_8[217]? = some (.code (zyy 270) (zcd 270) (zmax 270) (zret 270)); unfold zyy zcd zmax zret; rw [zm_270]; rfl)), rfl⟩
theorem zcw_271 : zcode 271 ∈ zgw := List.mem_filter.mpr ⟨ztb_in (k := 8) (List.mem_of_getElem? (i := 228) (by show tables_1_8[228]? = some (.code (zyy 271) (zcd 271) (zmax 271) (zret 271)); unfold zyy zcd zmax zret; rw [zm_271]; rfl)), rfl⟩
theorem zcw_272 : zcode 272 ∈ zgw := List.mem_filter.mpr ⟨ztb_in (k := 8) (List.mem_of_getElem? (i := 221) (by show tables_1_8[221]? = some (.code (zyy 272) (zcd 272) (zmax 272) (zret 272)); unfold zyy zcd zmax zret; rw [zm_272]; rfl)), rfl⟩
theorem zcw_273 : zcode 273 ∈ zgw := List.mem_filter.mpr ⟨ztb_in (k := 8) (List.mem_of_getElem? (i := 232) (by show tables_1_8[232]? = some (.code (zyy 273) (zcd 273) (zmax 273) (zret 273)); unfold zyy zcd zmax zret; rw [zm_273]; rfl)), rfl⟩
theorem zcw_274 : zcode 274 ∈ zgw := List.mem_filter.mpr ⟨ztb_in (k := 9) (List.mem_of_getElem? (i := 0) (by show tables_1_9[0]? = some (.code (zyy 274) (zcd 274) (zmax 274) (zret 274)); unfold zyy zcd zmax zret; rw [zm_274]; rfl)), rfl⟩
theorem zcw_275 : zcode 275 ∈ zgw := List.mem_filter.mpr ⟨ztb_in (k := 8) (List.mem_of_getElem? (i := 236) (by show tables_1_8[236]? = some (.code (zyy 275) (zcd 275) (zmax 275) (zret 275)); unfold zyy zcd zmax zret; rw [zm_275]; rfl)), rfl⟩
theorem zcw_276 : zcode 276 ∈ zgw := List.mem_filter.mpr ⟨ztb_in (k := 9) (List.mem_of_getElem? (i := 8) (by show tables_1_9[8]? = some (.code (zyy 276) (zcd 276) (zmax 276) (zret 276)); unfold zyy zcd zmax zret; rw [zm_276]; rfl)), rfl⟩
theorem zcw_277 : zcode 277 ∈ zgw := List.mem_filter.mpr ⟨ztb_in (k := 9) (List.mem_of_getElem? (i := 4) (by show tables_1_9[4]? = some (.code (zyy 277) (zcd 277) (zmax 277) (zret 277)); unfold zyy zcd zmax zret; rw [zm_277]; rfl)), rfl⟩
theorem zcw_278 : zcode 278 ∈ zgw := List.mem_filter.mpr ⟨ztb_in (k := 9) (List.mem_of_getElem? (i := 12) (by show tables_1_9[12]? = some (.code (zyy 278) (zcd 278) (zmax 278) (zret 278)); unfold zyy zcd zmax zret; rw [zm_278]; rfl)), rfl⟩
theorem zcw_279 : zcode 279 ∈ zgw := List.mem_filter.mpr ⟨ztb_in (k := 9) (List.mem_of_getElem? (i := 16) (by show tables_1_9[16]? = some (.code (zyy 279) (zcd 279) (zmax 279) (zret 279)); unfold zyy zcd zmax zret; rw [zm_279]; rfl)), rfl⟩
theorem zcw_280 : zcode 280 ∈ zgw := List.mem_filter.mpr ⟨ztb_in (k := 8) (List.mem_of_getElem? (i := 56) (by show tables_1_8[56]? = some (.code (zyy 280) (zcd 280) (zmax 280) (zret 280)); unfold zyy zcd zmax zret; rw [zm_280]; rfl)), rfl⟩
theorem zcw_281 : zcode 281 ∈ zgw := List.mem_filter.mpr ⟨ztb_in (k := 9) (List.mem_of_getElem? (i := 28) (by show tables_1_9[28]? = some (.code (zyy 281) (zcd 281) (zmax 281) (zret 281)); unfold zyy zcd zmax zret; rw [zm_281]; rfl)), rfl⟩
theorem zcw_282 : zcode 282 ∈ zgw := List.mem_filter.mpr ⟨ztb_in (k := 9) (List.mem_of_getElem? (i := 24) (by show tables_1_9[24]? = some (.code (zyy 282) (zcd 282) (zmax 282) (zret 282)); unfold zyy zcd zmax zret; rw [zm_282]; rfl)), rfl⟩
theorem zcw_283 : zcode 283 ∈ zgw := List.mem_filter.mpr ⟨ztb_in (k := 9) (List.mem_of_getElem? (i := 20) (by show tables_1_9[20]? = some (.code (zyy 283) (zcd 283) (zmax 283) (zret 283)); unfold zyy zcd zmax zret; rw [zm_283]; rfl)), rfl⟩
theorem zcw_284 : zcode 284 ∈ zgw := List.mem_filter.mpr ⟨ztb_in (k := 9) (List.mem_of_getElem? (i := 36) (by show tables_1_9[36]? = some (.code (zyy 284) (zcd 284) (zmax 284) (zret 284)); unfold zyy zcd zmax zret; rw [zm_284]; rfl)), rfl⟩
theorem zcw_285 : zcode 285 ∈ zgw := List.mem_filter.mpr ⟨ztb_in (k := 9) (List.mem_of_getElem? (i := 32) (by show tables_1_9[32]? = some (.code (zyy 285) (zcd 285) (zmax 285) (zret 285)); unfold zyy zcd zmax zret; rw [zm_285]; rfl)), rfl⟩
theorem zcw_286 : zcode 286 ∈ zgw := List.mem_filter.mpr ⟨ztb_in (k := 9) (List.mem_of_getElem? (i := 40) (by show tables_1_9[40]? = some (.code (zyy 286) (zcd 286) (zmax 286) (zret 286)); unfold zyy zcd zmax zret; rw [zm_286]; rfl)), rfl⟩
theorem zcw_287 : zcode 287 ∈ zgw := List.mem_filter.mpr ⟨ztb_in (k := 9) (List.mem_of_getElem? (i := 46) (by show tables_1_9[46]? = some (.code (zyy 287) (zcd 287) (zmax 287) (zret 287)); unfold zyy zcd zmax zret; rw [zm_287]; rfl)), rfl⟩
theorem zcw_288 : zcode 288 ∈ zgw := List.mem_filter.mpr ⟨ztb_in (k := 9) (List.mem_of_getElem? (i := 50) (by show tables_1_9[50]? = some (.code (zyy 288) (zcd 288) (zmax 288) (zret 288)); unfold zyy zcd zmax zret; rw [zm_288]; rfl)), rfl⟩
theorem zcw_289 : zcode 289 ∈ zgw := List.mem_filter.mpr ⟨ztb_in (k := 9) (List.mem_of_getElem? (i := 58) (by show tables_1_9[58]? = some (.code (zyy 289) (zcd 289) (zmax 289) (zret 289)); unfold zyy zcd zmax zret; rw [zm_289]; rfl)), rfl⟩
theorem zcw_290 : zcode 290 ∈ zgw := List.mem_filter.mpr ⟨ztb_in (k := 9) (List.mem_of_getElem? (i := 54) (by show tables_1_9[54]? = some (.code (zyy 290) (zcd 290) (zmax 290) (zret 290)); unfold zyy zcd zmax zret; rw [zm_290]; rfl)), rfl⟩
theorem zcw_291 : zcode 291 ∈ zgw := List.mem_filter.mpr ⟨ztb_in (k := 9) (List.mem_of_getElem? (i := 62) (by show tables_1_9[62]? = some (.code (zyy 291) (zcd 291) (zmax 291) (zret 291)); unfold zyy zcd zmax zret; rw [zm_291]; rfl)), rfl⟩
theorem zcw_292 : zcode 292 ∈ zgw := List.mem_filter.mpr ⟨ztb_in (k := 9) (List.mem_of_getElem? (i := 66) (by show tables_1_9[66]? = some (.code (zyy 292) (zcd 292) (zmax 292) (zret 292)); unfold zyy zcd zmax zret; rw [zm_292]; rfl)), rfl⟩
theorem zcw_293 : zcode 293 ∈ zgw := List.mem_filter.mpr ⟨ztb_in (k := 9) (List.mem_of_getElem? (i := 78) (by show tables_1_9[78]? = some (.code (zyy 293) (zcd 293) (zmax 293) (zret 293)); unfold zyy zcd zmax zret; rw [zm_293]; rfl)), rfl⟩
theorem zcw_294 : zcode 294 ∈ zgw := List.mem_filter.mpr ⟨ztb_in (k := 9) (List.mem_of_getElem? (i := 70) (by show tables_1_9[70]? = some (.code (zyy 294) (zcd 294) (zmax 294) (zret 294)); unfold zyy zcd zmax zret; rw [zm_294]; rfl)), rfl⟩
theorem zcw_295 : zcode 295 ∈ zgw := List.mem_filter.mpr ⟨ztb_in (k := 9) (List.mem_of_getElem? (i := 74) (by show tables_1_9[74]? = some (.code (zyy 295) (zcd 295) (zmax 295) (zret 295)); unfold zyy zcd zmax zret; rw [zm_295]; rfl)), rfl⟩
theorem zcw_296 : zcode 296 ∈ zgw := List.mem_filter.mpr ⟨ztb_in (k := 9) (List.mem_of_getElem? (i := 86) (by show tables_1_9[86]? = some (.code (zyy 296) (zcd 296) (zmax 296) (zret 296)); unfold zyy zcd zmax zret; rw [zm_296]; rfl)), rfl⟩
theorem zcw_297 : zcode 297 ∈ zgw := List.mem_filter.mpr ⟨ztb_in (k := 9) (List.mem_of_getElem? (i := 82) (by show tables_1_9[82]? = some (.code (zyy 297) (zcd 297) (zmax 297) (zret 297)); unfold zyy zcd zmax zret; rw [zm_297]; rfl)), rfl⟩
theorem zcw_298 : zcode 298 ∈ zgw := List.mem_filter.mpr ⟨ztb_in (k := 9) (List.mem_of_getElem? (i := 90) (by show tables_1_9[90]? = some (.code (zyy 298) (zcd 298) (zmax 298) (zret 298)); unfold zyy zcd zmax zret; rw [zm_298]; rfl)), rfl⟩
theorem zcw_299 : zcode 299 ∈ zgw := List.mem_filter.mpr ⟨ztb_in (k := 9) (List.mem_of_getElem? (i := 94) (by show tables_1_9[94]? = some (.code (zyy 299) (zcd 299) (zmax 299) (zret 299)); unfold zyy zcd zmax zret; rw [zm_299]; rfl)), rfl⟩
theorem zcw_300 : zcode 300 ∈ zgw := List.mem_filter.mpr ⟨ztb_in (k := 9) (List.mem_of_getElem? (i := 98) (by show tables_1_9[98]? = some (.code (zyy 300) (zcd 300) (zmax 300) (zret 300)); unfold zyy zcd zmax zret; rw [zm_300]; rfl)), rfl⟩
theorem zcw_301 : zcode 301 ∈ zgw := List.mem_filter.mpr ⟨ztb_in (k := 9) (List.mem_of_getElem? (i := 102) (by show tables_1_9[102]? = some (.code (zyy 301) (zcd 301) (zmax 301) (zret 301)); unfold zyy zcd zmax zret; rw [zm_301]; rfl)), rfl⟩
theorem zcw_302 : zcode 302 ∈ zgw := List.mem_filter.mpr ⟨ztb_in (k := 9) (List.mem_of_getElem? (i := 106) (by show tables_1_9[106]? = some (.code (zyy 302) (zcd 302) (zmax 302) (zret 302)); unfold zyy zcd zmax zret; rw [zm_302]; rfl)), rfl⟩
theorem zcw_303 : zcode 303 ∈ zgw := List.mem_filter.mpr ⟨ztb_in (k := 9) (List.mem_of_getElem? (i := 110) (by show tables_1_9[110]? = some (.code (zyy 303) (zcd 303) (zmax 303) (zret 303)); unfold zyy zcd zmax zret; rw [zm_303]; rfl)), rfl⟩
theorem zcw_304 : zcode 304 ∈ zgw := List.mem_filter.mpr ⟨ztb_in (k := 9) (List.mem_of_getElem? (i := 114) (by show tables_1_9[114]? = some (.code (zyy 304) (zcd 304) (zmax 304) (zret 304)); unfold zyy zcd zmax zret; rw [zm_304]; rfl)), rfl⟩
theorem zcw_305 : zcode 305 ∈ zgw := List.mem_filter.mpr ⟨ztb_in (k := 3) (List.mem_of_getElem? (i := 32) (by show tables_1_3[32]? = some (.code (zyy 305) (zcd 305) (zmax 305) (zret 305)); unfold zyy zcd zmax zret; rw [zm_305]; rfl)), rfl⟩
theorem zcw_306 : zcode 306 ∈ zgw := List.mem_filter.mpr ⟨ztb_in (k := 2) (List.mem_of_getElem? (i := 228) (by show tables_1_2[228]? = some (.code (zyy 306) (zcd 306) (zmax 306) (zret 306)); unfold zyy zcd zmax zret; rw [zm_306]; rfl)), rfl⟩
theorem zcw_307 : zcode 307 ∈ zgw := List.mem_filter.mpr ⟨ztb_in (k := 6) (List.mem_of_getElem? (i := 128) (by show tables_1_6[128]? = some (.code (zyy 307) (zcd 307) (zmax 307) (zret 307)); unfold zyy zcd zmax zret; rw [zm_307]; rfl)), rfl⟩
theorem zcw_308 : zcode 308 ∈ zgw := List.mem_filter.mpr ⟨ztb_in (k := 2) (List.mem_of_getElem? (i := 231) (by show tables_1_2[231]? = some (.code (zyy 308) (zcd 308) (zmax 308) (zret 308)); unfold zyy zcd zmax zret; rw [zm_308]; rfl)), rfl⟩
theorem zcw_309 : zcode 309 ∈ zgw := List.mem_filter.mpr ⟨ztb_in (k := 3) (List.mem_of_getElem? (i := 148) (by show tables_1_3[148]? = some (.code (zyy 309) (zcd 309) (zmax 309) (zret 309)); unfold zyy zcd zmax zret; rw [zm_309]; rfl)), rfl⟩
theorem zcw_310 : zcode 310 ∈ zgw := List.mem_filter.mpr ⟨ztb_in (k := 3) (List.mem_of_getElem? (i := 158) (by show tables_1_3[158]? = some (.code (zyy 310) (zcd 310) (zmax 310) (zret 310)); unfold zyy zcd zmax zret; rw [zm_310]; rfl)), rfl⟩
theorem zcw_311 : zcode 311 ∈ zgw := List.mem_filter.mpr ⟨ztb_in (k := 3) (List.mem_of_getElem? (i := 152) (by show tables_1_3[152]? = some (.code (zyy 311) (zcd 311) (zmax 311) (zret 311)); unfold zyy zcd zmax zret; rw [zm_311]; rfl)), rfl⟩
theorem zcw_312 : zcode 312 ∈ zgw := List.mem_filter.mpr ⟨ztb_in (k := 3) (List.mem_of_getElem? (i := 162) (by show tables_1_3[162]? = some (.code (zyy 312) (zcd 312) (zmax 312) (zret 312)); unfold zyy zcd zmax zret; rw [zm_312]; rfl)), rfl⟩
theorem zcw_313 : zcode 313 ∈ zgw := List.mem_filter.mpr ⟨ztb_in (k := 3) (List.mem_of_getElem? (i := 168) (by show tables_1_3[168]? = some (.code (zyy 313) (zcd 313) (zmax 313) (zret 313)); unfold zyy zcd zmax zret; rw [zm_313]; rfl)), rfl⟩
theorem zcw_314 : zcode 314 ∈ zgw := List.mem_filter.mpr ⟨ztb_in (k := 3) (List.mem_of_getElem? (i := 165) (by show tables_1_3[165]? = some (.code (zyy 314) (zcd 314) (zmax 314) (zret 314)); unfold zyy zcd zmax zret; rw [zm_314]; rfl)), rfl⟩
theorem zcw_315 : zcode 315 ∈ zgw := List.mem_filter.mpr ⟨ztb_in (k := 3) (List.mem_of_getElem? (i := 25) (by show tables_1_3[25]? = some (.code (zyy 315) (zcd 315) (zmax 315) (zret 315)); unfold zyy zcd zmax zret; rw [zm_315]; rfl)), rfl⟩
theorem zcw_316 : zcode 316 ∈ zgw := List.mem_filter.mpr ⟨ztb_in (k := 3) (List.mem_of_getElem? (i := 173) (by show tables_1_3[173]? = some (.code (zyy 316) (zcd 316) (zmax 316) (zret 316)); unfold zyy zcd zmax zret; rw [zm_316]; rfl)), rfl⟩
theorem zcw_317 : zcode 317 ∈ zgw := List.mem_filter.mpr ⟨ztb_in (k := 3) (List.mem_of_getElem? (i := 118) (by show tables_1_3[118]? = some (.codeWith (zyy 317) (zcd 317) (zmax 317) (zret 317) [(0, 8, 11, 13), (0, 8, 14, 15)]); unfold zyy zcd zmax zret; rw [zm_317]; rfl)), rfl⟩
theorem zcw_318 : zcode 318 ∈ zgw := List.mem_filter.mpr ⟨ztb_in (k := 4) (List.mem_of_getElem? (i := 110) (by show tables_1_4[110]? = some (.codeWith (zyy 318) (zcd 318) (zmax 318) (zret 318) [(0, 8, 11, 13)]); unfold zyy zcd zmax zret; rw [zm_318]; rfl)), rfl⟩
theorem zcw_319 : zcode 319 ∈ zgw := List.mem_filter.mpr ⟨ztb_in (k := 4) (List.mem_of_getElem? (i := 197) (by show tables_1_4[197]? = some (.codeWith (zyy 319) (zcd 319) (zmax 319) (zret 319) [(0, 10, 13, 24), (0, 10, 17, 26)]); unfold zyy zcd zmax zret; rw [zm_319]; rfl)), rfl⟩
theorem zcw_320 : zcode 320 ∈ zgw := List.mem_filter.mpr ⟨ztb_in (k := 5) (List.mem_of_getElem? (i := 26) (by show tables_1_5[26]? = some (.codeWith (zyy 320) (zcd 320) (zmax 320) (zret 320) [(0, 10, 13, 24), (0, 10, 17, 26)]); unfold zyy zcd zmax zret; rw [zm_320]; rfl)), rfl⟩
theorem zcw_321 : zcode 321 ∈ zgw := List.mem_filter.mpr ⟨ztb_in (k := 5) (List.mem_of_getElem? (i := 41) (by show tables_1_5[41]? = some (.codeWith (zyy 321) (zcd 321) (zmax 321) (zret 321) [(0, 10, 13, 24), (0, 10, 17, 26)]); unfold zyy zcd zmax zret; rw [zm_321]; rfl)), rfl⟩
theorem zcw_322 : zcode 322 ∈ zgw := List.mem_filter.mpr ⟨ztb_in (k := 5) (List.mem_of_getElem? (i := 65) (by show tables_1_5[65]? = some (.codeWith (zyy 322) (zcd 322) (zmax 322) (zret 322) [(0, 9, 12, 13)]); unfold zyy zcd zmax zret; rw [zm_322]; rfl)), rfl⟩
theorem zcw_323 : zcode 323 ∈ zgw := List.mem_filter.mpr ⟨ztb_in (k := 5) (List.mem_of_getElem? (i := 84) (by show tables_1_5[84]? = some (.codeWith (zyy 323) (zcd 323) (zmax 323) (zret 323) [(0, 16, 19, 24), (0, 16, 23, 13), (0, 16, 27, 42)]); unfold zyy zcd zmax zret; rw [zm_323]; rfl)), rfl⟩
theorem zcw_324 : zcode 324 ∈ zgw := List.mem_filter.mpr ⟨ztb_in (k := 5) (List.mem_of_getElem? (i := 111) (by show tables_1_5[111]? = some (.codeWith (zyy 324) (zcd 324) (zmax 324) (zret 324) [(0, 10, 13, 24), (0, 10, 17, 42)]); unfold zyy zcd zmax zret; rw [zm_324]; rfl)), rfl⟩
theorem zcw_325 : zcode 325 ∈ zgw := List.mem_filter.mpr ⟨ztb_in (k := 5) (List.mem_of_getElem? (i := 123) (by show tables_1_5[123]? = some (.codeWith (zyy 325) (zcd 325) (zmax 325) (zret 325) [(0, 9, 12, 24), (0, 9, 15, 42)]); unfold zyy zcd zmax zret; rw [zm_325]; rfl)), rfl⟩
theorem zcw_326 : zcode 326 ∈ zgw := List.mem_filter.mpr ⟨ztb_in (k := 5) (List.mem_of_getElem? (i := 131) (by show tables_1_5[131]? = some (.codeWith (zyy 326) (zcd 326) (zmax 326) (zret 326) [(0, 12, 15, 24), (0, 12, 19, 13), (0, 12, 23, 42)]); unfold zyy zcd zmax zret; rw [zm_326]; rfl)), rfl⟩
theorem zcw_327 : zcode 327 ∈ zgw := List.mem_filter.mpr ⟨ztb_in (k := 5) (List.mem_of_getElem? (i := 138) (by show tables_1_5[138]? = some (.codeWith (zyy 327) (zcd 327) (zmax 327) (zret 327) [(0, 9, 12, 13)]); unfold zyy zcd zmax zret; rw [zm_327]; rfl)), rfl⟩
theorem zcw_328 : zcode 328 ∈ zgw := List.mem_filter.mpr ⟨ztb_in (k := 5) (List.mem_of_getElem? (i := 145) (by show tables_1_5[145]? = some (.codeWith (zyy 328) (zcd 328) (zmax 328) (zret 328) [(0, 10, 13, 24), (0, 10, 17, 13)]); unfold zyy zcd zmax zret; rw [zm_328]; rfl)), rfl⟩
theorem zcw_329 : zcode 329 ∈ zgw := List.mem_filter.mpr ⟨ztb_in (k := 5) (List.mem_of_getElem? (i := 152) (by show tables_1_5[152]? = some (.codeWith (zyy 329) (zcd 329) (zmax 329) (zret 329) [(0, 9, 12, 24)]); unfold zyy zcd zmax zret; rw [zm_329]; rfl)), rfl⟩
theorem zcw_330 : zcode 330 ∈ zgw := List.mem_filter.mpr ⟨ztb_in (k := 5) (List.mem_of_getElem? (i := 159) (by show tables_1_5[159]? = some (.codeWith (zyy 330) (zcd 330) (zmax 330) (zret 330) [(0, 9, 12, 24)]); unfold zyy zcd zmax zret; rw [zm_330]; rfl)), rfl⟩
theorem zcw_331 : zcode 331 ∈ zgw := List.mem_filter.mpr ⟨ztb_in (k := 5) (List.mem_of_getElem? (i := 166) (by show tables_1_5[166]? = some (.codeWith (zyy 331) (zcd 331) (zmax 331) (zret 331) [(0, 10, 13, 24), (0, 10, 17, 13)]); unfold zyy zcd zmax zret; rw [zm_331]; rfl)), rfl⟩
theorem zcw_332 : zcode 332 ∈ zgw := List.mem_filter.mpr ⟨ztb_in (k := 5) (List.mem_of_getElem? (i := 180) (by show tables_1_5[180]? = some (.codeWith (zyy 332) (zcd 332) (zmax 332) (zret 332) [(0, 9, 12, 24)]); unfold zyy zcd zmax zret; rw [zm_332]; rfl)), rfl⟩
theorem zcw_333 : zcode 333 ∈ zgw := List.mem_filter.mpr ⟨ztb_in (k := 5) (List.mem_of_getElem? (i := 191) (by show tables_1_5[191]? = some (.codeWith (zyy 333) (zcd 333) (zmax 333) (zret 333) [(0, 9, 12, 24)]); unfold zyy zcd zmax zret; rw [zm_333]; rfl)), rfl⟩
theorem zcw_334 : zcode 334 ∈ zgw := List.mem_filter.mpr ⟨ztb_in (k := 5) (List.mem_of_getElem? (i := 198) (by show tables_1_5[198]? = some (.codeWith (zyy 334) (zcd 334) (zmax 334) (zret 334) [(0, 10, 13, 24)]); unfold zyy zcd zmax zret; rw [zm_334]; rfl)), rfl⟩
theorem zcw_335 : zcode 335 ∈ zgw := List.mem_filter.mpr ⟨ztb_in (k := 5) (List.mem_of_getElem? (i := 205) (by show tables_1_5[205]? = some (.codeWith (zyy 335) (zcd 335) (zmax 335) (zret 335) [(0, 12, 15, 24), (0, 12, 19, 13)]); unfold zyy zcd zmax zret; rw [zm_335]; rfl)), rfl⟩
theorem zcw_336 : zcode 336 ∈ zgw := List.mem_filter.mpr ⟨ztb_in (k := 5) (List.mem_of_getElem? (i := 220) (by show tables_1_5[220]? = some (.codeWith (zyy 336) (zcd 336) (zmax 336) (zret 336) [(0, 9, 12, 13)]); unfold zyy zcd zmax zret; rw [zm_336]; rfl)), rfl⟩
theorem zcw_337 : zcode 337 ∈ zgw := List.mem_filter.mpr ⟨ztb_in (k := 6) (List.mem_of_getElem? (i := 15) (by show tables_1_6[15]? = some (.codeWith (zyy 337) (zcd 337) (zmax 337) (zret 337) [(0, 8, 11, 13)]); unfold zyy zcd zmax zret; rw [zm_337]; rfl)), rfl⟩
theorem zcw_338 : zcode 338 ∈ zgw := List.mem_filter.mpr ⟨ztb_in (k := 6) (List.mem_of_getElem? (i := 33) (by show tables_1_6[33]? = some (.codeWith (zyy 338) (zcd 338) (zmax 338) (zret 338) [(0, 16, 19, 24), (0, 16, 22, 42)]); unfold zyy zcd zmax zret; rw [zm_338]; rfl)), rfl⟩
theorem zcw_339 : zcode 339 ∈ zgw := List.mem_filter.mpr ⟨ztb_in (k := 6) (List.mem_of_getElem? (i := 40) (by show tables_1_6[40]? = some (.codeWith (zyy 339) (zcd 339) (zmax 339) (zret 339) [(0, 10, 13, 24), (0, 10, 17, 13)]); unfold zyy zcd zmax zret; rw [zm_339]; rfl)), rfl⟩
theorem zcw_340 : zcode 340 ∈ zgw := List.mem_filter.mpr ⟨ztb_in (k := 6) (List.mem_of_getElem? (i := 51) (by show tables_1_6[51]? = some (.codeWith (zyy 340) (zcd 340) (zmax 340) (zret 340) [(0, 16, 19, 24)]); unfold zyy zcd zmax zret; rw [zm_340]; rfl)), rfl⟩
theorem zcw_341 : zcode 341 ∈ zgw := List.mem_filter.mpr ⟨ztb_in (k := 6) (List.mem_of_getElem? (i := 63) (by show tables_1_6[63]? = some (.codeWith (zyy 341) (zcd 341) (zmax 341) (zret 341) [(0, 9, 12, 24)]); unfold zyy zcd zmax zret; rw [zm_341]; rfl)), rfl⟩
theorem zcw_342 : zcode 342 ∈ zgw := List.mem_filter.mpr ⟨ztb_in (k := 6) (List.mem_of_getElem? (i := 102) (by show tables_1_6[102]? = some (.codeWith (zyy 342) (zcd 342) (zmax 342) (zret 342) [(0, 12, 15, 24), (0, 12, 19, 13)]); unfold zyy zcd zmax zret; rw [zm_342]; rfl)), rfl⟩
theorem zcw_343 : zcode 343 ∈ zgw := List.mem_filter.mpr ⟨ztb_in (k := 6) (List.mem_of_getElem? (i := 114) (by show tables_1_6[114]? = some (.codeWith (zyy 343) (zcd 343) (zmax 343) (zret 343) [(0, 10, 13, 13)]); unfold zyy zcd zmax zret; rw [zm_343]; rfl)), rfl⟩
theorem zcw_344 : zcode 344 ∈ zgw := List.mem_filter.mpr ⟨ztb_in (k := 6) (List.mem_of_getElem? (i := 131) (by show tables_1_6[131]? = some (.codeWith (zyy 344) (zcd 344) (zmax 344) (zret 344) [(0, 9, 12, 24)]); unfold zyy zcd zmax zret; rw [zm_344]; rfl)), rfl⟩
theorem zcw_345 : zcode 345 ∈ zgw := List.mem_filter.mpr ⟨ztb_in (k := 6) (List.mem_of_getElem? (i := 138) (by show tables_1_6[138]? = some (.codeWith (zyy 345) (zcd 345) (zmax 345) (zret 345) [(0, 12, 15, 24), (0, 12, 19, 13), (0, 12, 23, 26)]); unfold zyy zcd zmax zret; rw [zm_345]; rfl)), rfl⟩
theorem zcw_346 : zcode 346 ∈ zgw := List.mem_filter.mpr ⟨ztb_in (k := 6) (List.mem_of_getElem? (i := 145) (by show tables_1_6[145]? = some (.codeWith (zyy 346) (zcd 346) (zmax 346) (zret 346) [(0, 10, 13, 13)]); unfold zyy zcd zmax zret; rw [zm_346]; rfl)), rfl⟩
theorem zcw_347 : zcode 347 ∈ zgw := List.mem_filter.mpr ⟨ztb_in (k := 6) (List.mem_of_getElem? (i := 156) (by show tables_1_6[156]? = some (.codeWith (zyy 347) (zcd 347) (zmax 347) (zret 347) [(0, 10, 13, 13)]); unfold zyy zcd zmax zret; rw [zm_347]; rfl)), rfl⟩
theorem zcw_348 : zcode 348 ∈ zgw := List.mem_filter.mpr ⟨ztb_in (k := 6) (List.mem_of_getElem? (i := 164) (by show tables_1_6[164]? = some (.codeWith (zyy 348) (zcd 348) (zmax 348) (zret 348) [(0, 10, 13, 24)]); unfold zyy zcd zmax zret; rw [zm_348]; rfl)), rfl⟩
theorem zcw_349 : zcode 349 ∈ zgw := List.mem_filter.mpr ⟨ztb_in (k := 6) (List.mem_of_getElem? (i := 183) (by show tables_1_6[183]? = some (.codeWith (zyy 349) (zcd 349) (zmax 349) (zret 349) [(0, 10, 13, 26)]); unfold zyy zcd zmax zret; rw [zm_349]; rfl)), rfl⟩
theorem zcw_350 : zcode 350 ∈ zgw := List.mem_filter.mpr ⟨ztb_in (k := 6) (List.mem_of_getElem? (i := 191) (by show tables_1_6[191]? = some (.codeWith (zyy 350) (zcd 350) (zmax 350) (zret 350) [(0, 9, 12, 24)]); unfold zyy zcd zmax zret; rw [zm_350]; rfl)), rfl⟩
theorem zcwl_50 : ∀ m, m < 50 → zcode m ∈ zgw := lt_s (lt_s (lt_s (lt_s (lt_s (lt_s (lt_s (lt_s (lt_s (lt_s (lt_s (lt_s (lt_s (lt_s (lt_s (lt_s (lt_s (lt_s (lt_s (lt_s (lt_s (lt_s (lt_s (lt_s (lt_s (lt_s (lt_s (lt_s (lt_s (lt_s (lt_s (lt_s (lt_s (lt_s (lt_s (lt_s (lt_s (lt_s (lt_s (lt_s (lt_s (lt_s (lt_s (lt_s (lt_s (lt_s (lt_s (lt_s (lt_s (lt_s (lt_0) zcw_0) zcw_1) zcw_2) zcw_3) zcw_4) zcw_5) zcw_6) zcw_7) zcw_8) zcw_9) zcw_10) zcw_11) zcw_12) zcw_13) zcw_14) zcw_15) zcw_16) zcw_17) zcw_18) zcw_19) zcw_20) zcw_21) zcw_22) zcw_23) zcw_24) zcw_25) zcw_26) zcw_27) zcw_28) zcw_29) zcw_30) zcw_31) zcw_32) zcw_33) zcw_34) zcw_35) zcw_36) zcw_37) zcw_38) zcw_39) zcw_40) zcw_41) zcw_42) zcw_43) zcw_44) zcw_45) zcw_46) zcw_47) zcw_48) zcw_49
theorem zcwl_100 : ∀ m, m < 100 → zcode m ∈ zgw := lt_s (lt_s (lt_s (lt_s (lt_s (lt_s (lt_s (lt_s (lt_s (lt_s (lt_s (lt_s (lt_s (lt_s (lt_s (lt_s (lt_s (lt_s (lt_s (lt_s (lt_s (lt_s (lt_s (lt_s (lt_s (lt_s (lt_s (lt_s (lt_s (lt_s (lt_s (lt_s (lt_s (lt_s (lt_s (lt_s (lt_s (lt_s (lt_s (lt_s (lt_s (lt_s (lt_s (lt_s (lt_s (lt_s (lt_s (lt_s (lt_s (lt_s (zcwl_50) zcw_50) zcw_51) zcw_52) zcw_53) zcw_54) zcw_55) zcw_56) zcw_57) zcw_58) zcw_59) zcw_60) zcw_61) zcw_62) zcw_63) zcw_64) zcw_65) zcw_66) zcw_67) zcw_68) zcw_69) zcw_70) zcw_71) zcw_72) zcw_73) zcw_74) zcw_75) zcw_76) zcw_77) zcw_78) zcw_79) zcw_80) zcw_81) zcw_82) zcw_83) zcw_84) zcw_85) zcw_86) zcw_87) zcw_88) zcw_89) zcw_90) zcw_91) zcw_92) zcw_93) zcw_94) zcw_95) zcw_96) zcw_97) zcw_98) zcw_99
theorem zcwl_150 : ∀ m, m < 150 → zcode m ∈ zgw := lt_s (lt_s (lt_s (lt_s (lt_s (lt_s (lt_s (lt_s (lt_s (lt_s (lt_s (lt_s (lt_s (lt_s (lt_s (lt_s (lt_s (lt_s (lt_s (lt_s (lt_s (lt_s (lt_s (lt_s (lt_s (lt_s (lt_s (lt_s (lt_s (lt_s (lt_s (lt_s (lt_s (lt_s (lt_s (lt_s (lt_s (lt_s (lt_s (lt_s (lt_s (lt_s (lt_s (lt_s (lt_s (lt_s (lt_s (lt_s (lt_s (lt_s (zcwl_100) zcw_100) zcw_101) zcw_102) zcw_103) zcw_104) zcw_105) zcw_106) zcw_107) zcw_108) zcw_109) zcw_110) zcw_111) zcw_112) zcw_113) zcw_114) zcw_115) zcw_116) zcw_117) zcw_118) zcw_119) zcw_120) zcw_121) zcw_122) zcw_123) zcw_124) zcw_125) zcw_126) zcw_127) zcw_128) zcw_129) zcw_130) zcw_131) zcw_132) zcw_133) zcw_134) zcw_135) zcw_136) zcw_137) zcw_138) zcw_139) zcw_140) zcw_141) zcw_142) zcw_143) zcw_144) zcw_145) zcw_146) zcw_147) zcw_148) zcw_149
theorem zcwl_200 : ∀ m, m < 200 → zcode m ∈ zgw := lt_s (lt_s (lt_s (lt_s (lt_s (lt_s (lt_s (lt_s (lt_s (lt_s (lt_s (lt_s (lt_s (lt_s (lt_s (lt_s (lt_s (lt_s (lt_s (lt_s (lt_s (lt_s (lt_s (lt_s (lt_s (lt_s (lt_s (lt_s (lt_s (lt_s (lt_s (lt_s (lt_s (lt_s (lt_s (lt_s (lt_s (lt_s (lt_s (lt_s (lt_s (lt_s (lt_s (lt_s (lt_s (lt_s (lt_s (lt_s (lt_s (lt_s (zcwl_150) zcw_150) zcw_151) zcw_152) zcw_153) zcw_154) zcw_155) zcw_156) zcw_157) zcw_158) zcw_159) zcw_160) zcw_161) zcw_162) zcw_163) zcw_164) zcw_165) zcw_166) zcw_167) zcw_168) zcw_169) zcw_170) zcw_171) zcw_172) zcw_173) zcw_174) zcw_175) zcw_176) zcw_177) zcw_178) zcw_179) zcw_180) zcw_181) zcw_182) zcw_183) zcw_184) zcw_185) zcw_186) zcw_187) zcw_188) zcw_189) zcw_190) zcw_191) zcw_192) zcw_193) zcw_194) zcw_195) zcw_196) zcw_197) zcw_198) zcw_199
theorem zcwl_250 : ∀ m, m < 250 → zcode m ∈ zgw := lt_s (lt_s (lt_s (lt_s (lt_s (lt_s (lt_s (lt_s (lt_s (lt_s (lt_s (lt_s (lt_s (lt_s (lt_s (lt_s (lt_s (lt_s (lt_s (lt_s (lt_s (lt_s (lt_s (lt_s (lt_s (lt_s (lt_s (lt_s (lt_s (lt_s (lt_s (lt_s (lt_s (lt_s (lt_s (lt_s (lt_s (lt_s (lt_s (lt_s (lt_s (lt_s (lt_s (lt_s (lt_s (lt_s (lt_s (lt_s (lt_s (lt_s (zcwl_200) zcw_200) zcw_201) zcw_202) zcw_203) zcw_204) zcw_205) zcw_206) zcw_207) zcw_208) zcw_209) zcw_210) zcw_211) zcw_212) zcw_213) zcw_214) zcw_215) zcw_216) zcw_217) zcw_218) zcw_219) zcw_220) zcw_221) zcw_222) zcw_223) zcw_224) zcw_225) zcw_226) zcw_227) zcw_228) zcw_229) zcw_230) zcw_231) zcw_232) zcw_233) zcw_234) zcw_235) zcw_236) zcw_237) zcw_238) zcw_239) zcw_240) zcw_241) zcw_242) zcw_243) zcw_244) zcw_245) zcw_246) zcw_247) zcw_248) zcw_249
theorem zcwl_300 : ∀ m, m < 300 → zcode m ∈ zgw := lt_s (lt_s (lt_s (lt_s (lt_s (lt_s (lt_s (lt_s (lt_s (lt_s (lt_s (lt_s (lt_s (lt_s (lt_s (lt_s (lt_s (lt_s (lt_s (lt_s (lt_s (lt_s (lt_s (lt_s (lt_s (lt_s (lt_s (lt_s (lt_s (lt_s (lt_s (lt_s (lt_s (lt_s (lt_s (lt_s (lt_s (lt_s (lt_s (lt_s (lt_s (lt_s (lt_s (lt_s (lt_s (lt_s (lt_s (lt_s (lt_s (lt_s (zcwl_250) zcw_250) zcw_251) zcw_252) zcw_253) zcw_254) zcw_255) zcw_256) zcw_257) zcw_258) zcw_259) zcw_260) zcw_261) zcw_262) zcw_263) zcw_264) zcw_265) zcw_266) zcw_267) zcw_268) zcw_269) zcw_270) zcw_271) zcw_272) zcw_273) zcw_274) zcw_275) zcw_276) zcw_277) zcw_278) zcw_279) zcw_280) zcw_281) zcw_282) zcw_283) zcw_284) zcw_285) zcw_286) zcw_287) zcw_288) zcw_289) zcw_290) zcw_291) zcw_292) zcw_293) zcw_294) zcw_295) zcw_296) zcw_297) zcw_298) zcw_299
theorem zcwl_350 : ∀ m, m < 350 → zcode m ∈ zgw := lt_s (lt_s (lt_s (lt_s (lt_s (lt_s (lt_s (lt_s (lt_s (lt_s (lt_s (lt_s (lt_s (lt_s (lt_s (lt_s (lt_s (lt_s (lt_s (lt_s (lt_s (lt_s (lt_s (lt_s (lt_s (lt_s (lt_s (lt_s (lt_s (lt_s (lt_s (lt_s (lt_s (lt_s (lt_s (lt_s (lt_s (lt_s (lt_s (lt_s (lt_s (lt_s (lt_s (lt_s (lt_s (lt_s (lt_s (lt_s (lt_s (lt_s (zcwl_300) zcw_300) zcw_301) zcw_302) zcw_303) zcw_304) zcw_305) zcw_306) zcw_307) zcw_308) zcw_309) zcw_310) zcw_311) zcw_312) zcw_313) zcw_314) zcw_315) zcw_316) zcw_317) zcw_318) zcw_319) zcw_320) zcw_321) zcw_322) zcw_323) zcw_324) zcw_325) zcw_326) zcw_327) zcw_328) zcw_329) zcw_330) zcw_331) zcw_332) zcw_333) zcw_334) zcw_335) zcw_336) zcw_337) zcw_338) zcw_339) zcw_340) zcw_341) zcw_342) zcw_343) zcw_344) zcw_345) zcw_346) zcw_347) zcw_348) zcw_349
theorem zcwl_351 : ∀ m, m < 351 → zcode m ∈ zgw := lt_s (zcwl_350) zcw_350
theorem zcode_w (m : Nat) (hm : m < 351) : zcode m ∈ zgw := zcwl_351 m hm
theorem zdd_0 : ∀ q ∈ zii.getD 0 [], decode (zcd 0) q.1 = .ok q.2 := by unfold zcd; rw [zm_0]; exact zdc_0
theorem zdd_1 : ∀ q ∈ zii.getD 1 [], decode (zcd 1) q.1 = .ok q.2 := by unfold zcd; rw [zm_1]; exact zdc_1
theorem zdd_2 : ∀ q ∈ zii.getD 2 [], decode (zcd 2) q.1 = .ok q.2 := by unfold zcd; rw [zm_2]; exact zdc_2
theorem zdd_3 : ∀ q ∈ zii.getD 3 [], decode (zcd 3) q.1 = .ok q.2 := by unfold zcd; rw [zm_3]; exact zdc_3
theorem zdd_4 : ∀ q ∈ zii.getD 4 [], decode (zcd 4) q.1 = .ok q.2 := by unfold zcd; rw [zm_4]; exact zdc_4
theorem zdd_5 : ∀ q ∈ zii.getD 5 [], decode (zcd 5) q.1 = .ok q.2 := by unfold zcd; rw [zm_5]; exact zdc_5
theorem zdd_6 : ∀ q ∈ zii.getD 6 [], decode (zcd 6) q.1 = .ok q.2 := by unfold zcd; rw [zm_6]; exact zdc_6
theorem zdd_7 : ∀ q ∈ zii.getD 7 [], decode (zcd 7) q.1 = .ok q.2 := by unfold zcd; rw [zm_7]; exact zdc_7
theorem zdd_8 : ∀ q ∈ zii.getD 8 [], decode (zcd 8) q.1 = .ok q.2 := by unfold zcd; rw [zm_8]; exact zdc_8
theorem zdd_9 : ∀ q ∈ zii.getD 9 [], decode (zcd 9) q.1 = .ok q.2 := by unfold zcd; rw [zm_9]; exact zdc_9
theorem zdd_10 : ∀ q ∈ zii.getD 10 [], decode (zcd 10) q.1 = .ok q.2 := by unfold zcd; rw [zm_10]; exact zdc_10
theorem zdd_11 : ∀ q ∈ zii.getD 11 [], decode (zcd 11) q.1 = .ok q.2 := by unfold zcd; rw [zm_11]; exact zdc_11
theorem zdd_12 : ∀ q ∈ zii.getD 12 [], decode (zcd 12) q.1 = .ok q.2 := by unfold zcd; rw [zm_12]; exact zdc_12
theorem zdd_13 : ∀ q ∈ zii.getD 13 [], decode (zcd 13) q.1 = .ok q.2 := by unfold zcd; rw [zm_13]; exact zdc_13
theorem zdd_14 : ∀ q ∈ zii.getD 14 [], decode (zcd 14) q.1 = .ok q.2 := by unfold zcd; rw [zm_14]; exact zdc_14
theorem zdd_15 : ∀ q ∈ zii.getD 15 [], decode (zcd 15) q.1 = .ok q.2 := by unfold zcd; rw [zm_15]; exact zdc_15
theorem zdd_16 : ∀ q ∈ zii.getD 16 [], decode (zcd 16) q.1 = .ok q.2 := by unfold zcd; rw [zm_16]; exact zdc_16
theorem zdd_17 : ∀ q ∈ zii.getD 17 [], decode (zcd 17) q.1 = .ok q.2 := by unfold zcd; rw [zm_17]; exact zdc_17
theorem zdd_18 : ∀ q ∈ zii.getD 18 [], decode (zcd 18) q.1 = .ok q.2 := by unfold zcd; rw [zm_18]; exact zdc_18
theorem zdd_19 : ∀ q ∈ zii.getD 19 [], decode (zcd 19) q.1 = .ok q.2 := by unfold zcd; rw [zm_19]; exact zdc_19
theorem zdd_20 : ∀ q ∈ zii.getD 20 [], decode (zcd 20) q.1 = .ok q.2 := by unfold zcd; rw [zm_20]; exact zdc_20
theorem zdd_21 : ∀ q ∈ zii.getD 21 [], decode (zcd 21) q.1 = .ok q.2 := by unfold zcd; rw [zm_21]; exact zdc_21
theorem zdd_22 : ∀ q ∈ zii.getD 22 [], decode (zcd 22) q.1 = .ok q.2 := by unfold zcd; rw [zm_22]; exact zdc_22
theorem zdd_23 : ∀ q ∈ zii.getD 23 [], decode (zcd 23) q.1 = .ok q.2 := by unfold zcd; rw [zm_23]; exact zdc_23
theorem zdd_24 : ∀ q ∈ zii.getD 24 [], decode (zcd 24) q.1 = .ok q.2 := by unfold zcd; rw [zm_24]; exact zdc_24
theorem zdd_25 : ∀ q ∈ zii.getD 25 [], decode (zcd 25) q.1 = .ok q.2 := by unfold zcd; rw [zm_25]; exact zdc_25
theorem zdd_26 : ∀ q ∈ zii.getD 26 [], decode (zcd 26) q.1 = .ok q.2 := by unfold zcd; rw [zm_26]; exact zdc_26
theorem zdd_27 : ∀ q ∈ zii.getD 27 [], decode (zcd 27) q.1 = .ok q.2 := by unfold zcd; rw [zm_27]; exact zdc_27
theorem zdd_28 : ∀ q ∈ zii.getD 28 [], decode (zcd 28) q.1 = .ok q.2 := by unfold zcd; rw [zm_28]; exact zdc_28
theorem zdd_29 : ∀ q ∈ zii.getD 29 [], decode (zcd 29) q.1 = .ok q.2 := by unfold zcd; rw [zm_29]; exact zdc_29
theorem zdd_30 : ∀ q ∈ zii.getD 30 [], decode (zcd 30) q.1 = .ok q.2 := by unfold zcd; rw [zm_30]; exact zdc_30
theorem zdd_31 : ∀ q ∈ zii.getD 31 [], decode (zcd 31) q.1 = .ok q.2 := by unfold zcd; rw [zm_31]; exact zdc_31
theorem zdd_32 : ∀ q ∈ zii.getD 32 [], decode (zcd 32) q.1 = .ok q.2 := by unfold zcd; rw [zm_32]; exact zdc_32
theorem zdd_33 : ∀ q ∈ zii.getD 33 [], decode (zcd 33) q.1 = .ok q.2 := by unfold zcd; rw [zm_33]; exact zdc_33
theorem zdd_34 : ∀ q ∈ zii.getD 34 [], decode (zcd 34) q.1 = .ok q.2 := by unfold zcd; rw [zm_34]; exact zdc_34
theorem zdd_35 : ∀ q ∈ zii.getD 35 [], decode (zcd 35) q.1 = .ok q.2 := by unfold zcd; rw [zm_35]; exact zdc_35
theorem zdd_36 : ∀ q ∈ zii.getD 36 [], decode (zcd 36) q.1 = .ok q.2 := by unfold zcd; rw [zm_36]; exact zdc_36
theorem zdd_37 : ∀ q ∈ zii.getD 37 [], decode (zcd 37) q.1 = .ok q.2 := by unfold zcd; rw [zm_37]; exact zdc_37
theorem zdd_38 : ∀ q ∈ zii.getD 38 [], decode (zcd 38) q.1 = .ok q.2 := by unfold zcd; rw [zm_38]; exact zdc_38
theorem zdd_39 : ∀ q ∈ zii.getD 39 [], decode (zcd 39) q.1 = .ok q.2 := by unfold zcd; rw [zm_39]; exact zdc_39
theorem zdd_40 : ∀ q ∈ zii.getD 40 [], decode (zcd 40) q.1 = .ok q.2 := by unfold zcd; rw [zm_40]; exact zdc_40
theorem zdd_41 : ∀ q ∈ zii.getD 41 [], decode (zcd 41) q.1 = .ok q.2 := by unfold zcd; rw [zm_41]; exact zdc_41
theorem zdd_42 : ∀ q ∈ zii.getD 42 [], decode (zcd 42) q.1 = .ok q.2 := by unfold zcd; rw [zm_42]; exact zdc_42
theorem zdd_43 : ∀ q ∈ zii.getD 43 [], decode (zcd 43) q.1 = .ok q.2 := by unfold zcd; rw [zm_43]; exact zdc_43
theorem zdd_44 : ∀ q ∈ zii.getD 44 [], decode (zcd 44) q.1 = .ok q.2 := by unfold zcd; rw [zm_44]; exact zdc_44
theorem zdd_45 : ∀ q ∈ zii.getD 45 [], decode (zcd 45) q.1 = .ok q.2 := by unfold zcd; rw [zm_45]; exact zdc_45
theorem zdd_46 : ∀ q ∈ zii.getD 46 [], decode (zcd 46) q.1 = .ok q.2 := by unfold zcd; rw [zm_46]; exact zdc_46
theorem zdd_47 : ∀ q ∈ zii.getD 47 [], decode (zcd 47) q.1 = .ok q.2 := by unfold zcd; rw [zm_47]; exact zdc_47
theorem zdd_48 : ∀ q ∈ zii.getD 48 [], decode (zcd 48) q.1 = .ok q.2 := by unfold zcd; rw [zm_48]; exact zdc_48
theorem zdd_49 : ∀ q ∈ zii.getD 49 [], decode (zcd 49) q.1 = .ok q.2 := by unfold zcd; rw [zm_49]; exact zdc_49
theorem zdd_50 : ∀ q ∈ zii.getD 50 [], decode (zcd 50) q.1 = .ok q.2 := by unfold zcd; rw [zm_50]; exact zdc_50
theorem zdd_51 : ∀ q ∈ zii.getD 51 [], decode (zcd 51) q.1 = .ok q.2 := by unfold zcd; rw [zm_51]; exact zdc_51
theorem zdd_52 : ∀ q ∈ zii.getD 52 [], decode (zcd 52) q.1 = .ok q.2 := by unfold zcd; rw [zm_52]; exact zdc_52
theorem zdd_53 : ∀ q ∈ zii.getD 53 [], decode (zcd 53) q.1 = .ok q.2 := by unfold zcd; rw [zm_53]; exact zdc_53
theorem zdd_54 : ∀ q ∈ zii.getD 54 [], decode (zcd 54) q.1 = .ok q.2 := by unfold zcd; rw [zm_54]; exact zdc_54
theorem zdd_55 : ∀ q ∈ zii.getD 55 [], decode (zcd 55) q.1 = .ok q.2 := by unfold zcd; rw [zm_55]; exact zdc_55
theorem zdd_56 : ∀ q ∈ zii.getD 56 [], decode (zcd 56) q.1 = .ok q.2 := by unfold zcd; rw [zm_56]; exact zdc_56
theorem zdd_57 : ∀ q ∈ zii.getD 57 [], decode (zcd 57) q.1 = .ok q.2 := by unfold zcd; rw [zm_57]; exact zdc_57
theorem zdd_58 : ∀ q ∈ zii.getD 58 [], decode (zcd 58) q.1 = .ok q.2 := by unfold zcd; rw [zm_58]; exact zdc_58
theorem zdd_59 : ∀ q ∈ zii.getD 59 [], decode (zcd 59) q.1 = .ok q.2 := by unfold zcd; rw [zm_59]; exact zdc_59
theorem zdd_60 : ∀ q ∈ zii.getD 60 [], decode (zcd 60) q.1 = .ok q.2 := by unfold zcd; rw [zm_60]; exact zdc_60
theorem zdd_61 : ∀ q ∈ zii.getD 61 [], decode (zcd 61) q.1 = .ok q.2 := by unfold zcd; rw [zm_61]; exact zdc_61
theorem zdd_62 : ∀ q ∈ zii.getD 62 [], decode (zcd 62) q.1 = .ok q.2 := by unfold zcd; rw [zm_62]; exact zdc_62
theorem zdd_63 : ∀ q ∈ zii.getD 63 [], decode (zcd 63) q.1 = .ok q.2 := by unfold zcd; rw [zm_63]; exact zdc_63
theorem zdd_64 : ∀ q ∈ zii.getD 64 [], decode (zcd 64) q.1 = .ok q.2 := by unfold zcd; rw [zm_64]; exact zdc_64
theorem zdd_65 : ∀ q ∈ zii.getD 65 [], decode (zcd 65) q.1 = .ok q.2 := by unfold zcd; rw [zm_65]; exact zdc_65
theorem zdd_66 : ∀ q ∈ zii.getD 66 [], decode (zcd 66) q.1 = .ok q.2 := by unfold zcd; rw [zm_66]; exact zdc_66
theorem zdd_67 : ∀ q ∈ zii.getD 67 [], decode (zcd 67) q.1 = .ok q.2 := by unfold zcd; rw [zm_67]; exact zdc_67
theorem zdd_68 : ∀ q ∈ zii.getD 68 [], decode (zcd 68) q.1 = .ok q.2 := by unfold zcd; rw [zm_68]; exact zdc_68
theorem zdd_69 : ∀ q ∈ zii.getD 69 [], decode (zcd 69) q.1 = .ok q.2 := by unfold zcd; rw [zm_69]; exact zdc_69
theorem zdd_70 : ∀ q ∈ zii.getD 70 [], decode (zcd 70) q.1 = .ok q.2 := by unfold zcd; rw [zm_70]; exact zdc_70
theorem zdd_71 : ∀ q ∈ zii.getD 71 [], decode (zcd 71) q.1 = .ok q.2 := by unfold zcd; rw [zm_71]; exact zdc_71
theorem zdd_72 : ∀ q ∈ zii.getD 72 [], decode (zcd 72) q.1 = .ok q.2 := by unfold zcd; rw [zm_72]; exact zdc_72
theorem zdd_73 : ∀ q ∈ zii.getD 73 [], decode (zcd 73) q.1 = .ok q.2 := by unfold zcd; rw [zm_73]; exact zdc_73
theorem zdd_74 : ∀ q ∈ zii.getD 74 [], decode (zcd 74) q.1 = .ok q.2 := by unfold zcd; rw [zm_74]; exact zdc_74
theorem zdd_75 : ∀ q ∈ zii.getD 75 [], decode (zcd 75) q.1 = .ok q.2 := by unfold zcd; rw [zm_75]; exact zdc_75
theorem zdd_76 : ∀ q ∈ zii.getD 76 [], decode (zcd 76) q.1 = .ok q.2 := by unfold zcd; rw [zm_76]; exact zdc_76
theorem zdd_77 : ∀ q ∈ zii.getD 77 [], decode (zcd 77) q.1 = .ok q.2 := by unfold zcd; rw [zm_77]; exact zdc_77
theorem zdd_78 : ∀ q ∈ zii.getD 78 [], decode (zcd 78) q.1 = .ok q.2 := by unfold zcd; rw [zm_78]; exact zdc_78
theorem zdd_79 : ∀ q ∈ zii.getD 79 [], decode (zcd 79) q.1 = .ok q.2 := by unfold zcd; rw [zm_79]; exact zdc_79
theorem zdd_80 : ∀ q ∈ zii.getD 80 [], decode (zcd 80) q.1 = .ok q.2 := by unfold zcd; rw [zm_80]; exact zdc_80
theorem zdd_81 : ∀ q ∈ zii.getD 81 [], decode (zcd 81) q.1 = .ok q.2 := by unfold zcd; rw [zm_81]; exact zdc_81
theorem zdd_82 : ∀ q ∈ zii.getD 82 [], decode (zcd 82) q.1 = .ok q.2 := by unfold zcd; rw [zm_82]; exact zdc_82
theorem zdd_83 : ∀ q ∈ zii.getD 83 [], decode (zcd 83) q.1 = .ok q.2 := by unfold zcd; rw [zm_83]; exact zdc_83
theorem zdd_84 : ∀ q ∈ zii.getD 84 [], decode (zcd 84) q.1 = .ok q.2 := by unfold zcd; rw [zm_84]; exact zdc_84
theorem zdd_85 : ∀ q ∈ zii.getD 85 [], decode (zcd 85) q.1 = .ok q.2 := by unfold zcd; rw [zm_85]; exact zdc_85
theorem zdd_86 : ∀ q ∈ zii.getD 86 [], decode (zcd 86) q.1 = .ok q.2 := by unfold zcd; rw [zm_86]; exact zdc_86
theorem zdd_87 : ∀ q ∈ zii.getD 87 [], decode (zcd 87) q.1 = .ok q.2 := by unfold zcd; rw [zm_87]; exact zdc_87
theorem zdd_88 : ∀ q ∈ zii.getD 88 [], decode (zcd 88) q.1 = .ok q.2 := by unfold zcd; rw [zm_88]; exact zdc_88
theorem zdd_89 : ∀ q ∈ zii.getD 89 [], decode (zcd 89) q.1 = .ok q.2 := by unfold zcd; rw [zm_89]; exact zdc_89
theorem zdd_90 : ∀ q ∈ zii.getD 90 [], decode (zcd 90) q.1 = .ok q.2 := by unfold zcd; rw [zm_90]; exact zdc_90
theorem zdd_91 : ∀ q ∈ zii.getD 91 [], decode (zcd 91) q.1 = .ok q.2 := by unfold zcd; rw [zm_91]; exact zdc_91
theorem zdd_92 : ∀ q ∈ zii.getD 92 [], decode (zcd 92) q.1 = .ok q.2 := by unfold zcd; rw [zm_92]; exact zdc_92
theorem zdd_93 : ∀ q ∈ zii.getD 93 [], decode (zcd 93) q.1 = .ok q.2 := by unfold zcd; rw [zm_93]; exact zdc_93
theorem zdd_94 : ∀ q ∈ zii.getD 94 [], decode (zcd 94) q.1 = .ok q.2 := by unfold zcd; rw [zm_94]; exact zdc_94
theorem zdd_95 : ∀ q ∈ zii.getD 95 [], decode (zcd 95) q.1 = .ok q.2 := by unfold zcd; rw [zm_95]; exact zdc_95
theorem zdd_96 : ∀ q ∈ zii.getD 96 [], decode (zcd 96) q.1 = .ok q.2 := by unfold zcd; rw [zm_96]; exact zdc_96
theorem zdd_97 : ∀ q ∈ zii.getD 97 [], decode (zcd 97) q.1 = .ok q.2 := by unfold zcd; rw [zm_97]; exact zdc_97
theorem zdd_98 : ∀ q ∈ zii.getD 98 [], decode (zcd 98) q.1 = .ok q.2 := by unfold zcd; rw [zm_98]; exact zdc_98
theorem zdd_99 : ∀ q ∈ zii.getD 99 [], decode (zcd 99) q.1 = .ok q.2 := by unfold zcd; rw [zm_99]; exact zdc_99
theorem zdd_100 : ∀ q ∈ zii.getD 100 [], decode (zcd 100) q.1 = .ok q.2 := by unfold zcd; rw [zm_100]; exact zdc_100
theorem zdd_101 : ∀ q ∈ zii.getD 101 [], decode (zcd 101) q.1 = .ok q.2 := by unfold zcd; rw [zm_101]; exact zdc_101
theorem zdd_102 : ∀ q ∈ zii.getD 102 [], decode (zcd 102) q.1 = .ok q.2 := by unfold zcd; rw [zm_102]; exact zdc_102
theorem zdd_103 : ∀ q ∈ zii.getD 103 [], decode (zcd 103) q.1 = .ok q.2 := by unfold zcd; rw [zm_103]; exact zdc_103
theorem zdd_104 : ∀ q ∈ zii.getD 104 [], decode (zcd 104) q.1 = .ok q.2 := by unfold zcd; rw [zm_104]; exact zdc_104
theorem zdd_105 : ∀ q ∈ zii.getD 105 [], decode (zcd 105) q.1 = .ok q.2 := by unfold zcd; rw [zm_105]; exact zdc_105
theorem zdd_106 : ∀ q ∈ zii.getD 106 [], decode (zcd 106) q.1 = .ok q.2 := by unfold zcd; rw [zm_106]; exact zdc_106
theorem zdd_107 : ∀ q ∈ zii.getD 107 [], decode (zcd 107) q.1 = .ok q.2 := by unfold zcd; rw [zm_107]; exact zdc_107
theorem zdd_108 : ∀ q ∈ zii.getD 108 [], decode (zcd 108) q.1 = .ok q.2 := by unfold zcd; rw [zm_108]; exact zdc_108
theorem zdd_109 : ∀ q ∈ zii.getD 109 [], decode (zcd 109) q.1 = .ok q.2 := by unfold zcd; rw [zm_109]; exact zdc_109
theorem zdd_110 : ∀ q ∈ zii.getD 110 [], decode (zcd 110) q.1 = .ok q.2 := by unfold zcd; rw [zm_110]; exact zdc_110
theorem zdd_111 : ∀ q ∈ zii.getD 111 [], decode (zcd 111) q.1 = .ok q.2 := by unfold zcd; rw [zm_111]; exact zdc_111
theorem zdd_112 : ∀ q ∈ zii.getD 112 [], decode (zcd 112) q.1 = .ok q.2 := by unfold zcd; rw [zm_112]; exact zdc_112
theorem zdd_113 : ∀ q ∈ zii.getD 113 [], decode (zcd 113) q.1 = .ok q.2 := by unfold zcd; rw [zm_113]; exact zdc_113
theorem zdd_114 : ∀ q ∈ zii.getD 114 [], decode (zcd 114) q.1 = .ok q.2 := by unfold zcd; rw [zm_114]; exact zdc_114
theorem zdd_115 : ∀ q ∈ zii.getD 115 [], decode (zcd 115) q.1 = .ok q.2 := by unfold zcd; rw [zm_115]; exact zdc_115
theorem zdd_116 : ∀ q ∈ zii.getD 116 [], decode (zcd 116) q.1 = .ok q.2 := by unfold zcd; rw [zm_116]; exact zdc_116
theorem zdd_117 : ∀ q ∈ zii.getD 117 [], decode (zcd 117) q.1 = .ok q.2 := by unfold zcd; rw [zm_117]; exact zdc_117
theorem zdd_118 : ∀ q ∈ zii.getD 118 [], decode (zcd 118) q.1 = .ok q.2 := by unfold zcd; rw [zm_118]; exact zdc_118
theorem zdd_119 : ∀ q ∈ zii.getD 119 [], decode (zcd 119) q.1 = .ok q.2 := by unfold zcd; rw [zm_119]; exact zdc_119
theorem zdd_120 : ∀ q ∈ zii.getD 120 [], decode (zcd 120) q.1 = .ok q.2 := by unfold zcd; rw [zm_120]; exact zdc_120
theorem zdd_121 : ∀ q ∈ zii.getD 121 [], decode (zcd 121) q.1 = .ok q.2 := by unfold zcd; rw [zm_121]; exact zdc_121
theorem zdd_122 : ∀ q ∈ zii.getD 122 [], decode (zcd 122) q.1 = .ok q.2 := by unfold zcd; rw [zm_122]; exact zdc_122
theorem zdd_123 : ∀ q ∈ zii.getD 123 [], decode (zcd 123) q.1 = .ok q.2 := by unfold zcd; rw [zm_123]; exact zdc_123
theorem zdd_124 : ∀ q ∈ zii.getD 124 [], decode (zcd 124) q.1 = .ok q.2 := by unfold zcd; rw [zm_124]; exact zdc_124
theorem zdd_125 : ∀ q ∈ zii.getD 125 [], decode (zcd 125) q.1 = .ok q.2 := by unfold zcd; rw [zm_125]; exact zdc_125
theorem zdd_126 : ∀ q ∈ zii.getD 126 [], decode (zcd 126) q.1 = .ok q.2 := by unfold zcd; rw [zm_126]; exact zdc_126
theorem zdd_127 : ∀ q ∈ zii.getD 127 [], decode (zcd 127) q.1 = .ok q.2 := by unfold zcd; rw [zm_127]; exact zdc_127
theorem zdd_128 : ∀ q ∈ zii.getD 128 [], decode (zcd 128) q.1 = .ok q.2 := by unfold zcd; rw [zm_128]; exact zdc_128
theorem zdd_129 : ∀ q ∈ zii.getD 129 [], decode (zcd 129) q.1 = .ok q.2 := by unfold zcd; rw [zm_129]; exact zdc_129
theorem zdd_130 : ∀ q ∈ zii.getD 130 [], decode (zcd 130) q.1 = .ok q.2 := by unfold zcd; rw [zm_130]; exact zdc_130
theorem zdd_131 : ∀ q ∈ zii.getD 131 [], decode (zcd 131) q.1 = .ok q.2 := by unfold zcd; rw [zm_131]; exact zdc_131
theorem zdd_132 : ∀ q ∈ zii.getD 132 [], decode (zcd 132) q.1 = .ok q.2 := by unfold zcd; rw [zm_132]; exact zdc_132
theorem zdd_133 : ∀ q ∈ zii.getD 133 [], decode (zcd 133) q.1 = .ok q.2 := by unfold zcd; rw [zm_133]; exact zdc_133
theorem zdd_134 : ∀ q ∈ zii.getD 134 [], decode (zcd 134) q.1 = .ok q.2 := by unfold zcd; rw [zm_134]; exact zdc_134
theorem zdd_135 : ∀ q ∈ zii.getD 135 [], decode (zcd 135) q.1 = .ok q.2 := by unfold zcd; rw [zm_135]; exact zdc_135
theorem zdd_136 : ∀ q ∈ zii.getD 136 [], decode (zcd 136) q.1 = .ok q.2 := by unfold zcd; rw [zm_136]; exact zdc_136
theorem zdd_137 : ∀ q ∈ zii.getD 137 [], decode (zcd 137) q.1 = .ok q.2 := by unfold zcd; rw [zm_137]; exact zdc_137
theorem zdd_138 : ∀ q ∈ zii.getD 138 [], decode (zcd 138) q.1 = .ok q.2 := by unfold zcd; rw [zm_138]; exact zdc_138
theorem zdd_139 : ∀ q ∈ zii.getD 139 [], decode (zcd 139) q.1 = .ok q.2 := by unfold zcd; rw [zm_139]; exact zdc_139
theorem zdd_140 : ∀ q ∈ zii.getD 140 [], decode (zcd 140) q.1 = .ok q.2 := by unfold zcd; rw [zm_140]; exact zdc_140
theorem zdd_141 : ∀ q ∈ zii.getD 141 [], decode (zcd 141) q.1 = .ok q.2 := by unfold zcd; rw [zm_141]; exact zdc_141
theorem zdd_142 : ∀ q ∈ zii.getD 142 [], decode (zcd 142) q.1 = .ok q.2 := by unfold zcd; rw [zm_142]; exact zdc_142
theorem zdd_143 : ∀ q ∈ zii.getD 143 [], decode (zcd 143) q.1 = .ok q.2 := by unfold zcd; rw [zm_143]; exact zdc_143
theorem zdd_144 : ∀ q ∈ zii.getD 144 [], decode (zcd 144) q.1 = .ok q.2 := by unfold zcd; rw [zm_144]; exact zdc_144
theorem zdd_145 : ∀ q ∈ zii.getD 145 [], decode (zcd 145) q.1 = .ok q.2 := by unfold zcd; rw [zm_145]; exact zdc_145
theorem zdd_146 : ∀ q ∈ zii.getD 146 [], decode (zcd 146) q.1 = .ok q.2 := by unfold zcd; rw [zm_146]; exact zdc_146
theorem zdd_147 : ∀ q ∈ zii.getD 147 [], decode (zcd 147) q.1 = .ok q.2 := by unfold zcd; rw [zm_147]; exact zdc_147
theorem zdd_148 : ∀ q ∈ zii.getD 148 [], decode (zcd 148) q.1 = .ok q.2 := by unfold zcd; rw [zm_148]; exact zdc_148
theorem zdd_149 : ∀ q ∈ zii.getD 149 [], decode (zcd 149) q.1 = .ok q.2 := by unfold zcd; rw [zm_149]; exact zdc_149
theorem zdd_150 : ∀ q ∈ zii.getD 150 [], decode (zcd 150) q.1 = .ok q.2 := by unfold zcd; rw [zm_150]; exact zdc_150
theorem zdd_151 : ∀ q ∈ zii.getD 151 [], decode (zcd 151) q.1 = .ok q.2 := by unfold zcd; rw [zm_151]; exact zdc_151
theorem zdd_152 : ∀ q ∈ zii.getD 152 [], decode (zcd 152) q.1 = .ok q.2 := by unfold zcd; rw [zm_152]; exact zdc_152
theorem zdd_153 : ∀ q ∈ zii.getD 153 [], decode (zcd 153) q.1 = .ok q.2 := by unfold zcd; rw [zm_153]; exact zdc_153
theorem zdd_154 : ∀ q ∈ zii.getD 154 [], decode (zcd 154) q.1 = .ok q.2 := by unfold zcd; rw [zm_154]; exact zdc_154
theorem zdd_155 : ∀ q ∈ zii.getD 155 [], decode (zcd 155) q.1 = .ok q.2 := by unfold zcd; rw [zm_155]; exact zdc_155
theorem zdd_156 : ∀ q ∈ zii.getD 156 [], decode (zcd 156) q.1 = .ok q.2 := by unfold zcd; rw [zm_156]; exact zdc_156
theorem zdd_157 : ∀ q ∈ zii.getD 157 [], decode (zcd 157) q.1 = .ok q.2 := by unfold zcd; rw [zm_157]; exact zdc_157
theorem zdd_158 : ∀ q ∈ zii.getD 158 [], decode (zcd 158) q.1 = .ok q.2 := by unfold zcd; rw [zm_158]; exact zdc_158
theorem zdd_159 : ∀ q ∈ zii.getD 159 [], decode (zcd 159) q.1 = .ok q.2 := by unfold zcd; rw [zm_159]; exact zdc_159
theorem zdd_160 : ∀ q ∈ zii.getD 160 [], decode (zcd 160) q.1 = .ok q.2 := by unfold zcd; rw [zm_160]; exact zdc_160
theorem zdd_161 : ∀ q ∈ zii.getD 161 [], decode (zcd 161) q.1 = .ok q.2 := by unfold zcd; rw [zm_161]; exact zdc_161
theorem zdd_162 : ∀ q ∈ zii.getD 162 [], decode (zcd 162) q.1 = .ok q.2 := by unfold zcd; rw [zm_162]; exact zdc_162
theorem zdd_163 : ∀ q ∈ zii.getD 163 [], decode (zcd 163) q.1 = .ok q.2 := by unfold zcd; rw [zm_163]; exact zdc_163
theorem zdd_164 : ∀ q ∈ zii.getD 164 [], decode (zcd 164) q.1 = .ok q.2 := by unfold zcd; rw [zm_164]; exact zdc_164
theorem zdd_165 : ∀ q ∈ zii.getD 165 [], decode (zcd 165) q.1 = .ok q.2 := by unfold zcd; rw [zm_165]; exact zdc_165
theorem zdd_166 : ∀ q ∈ zii.getD 166 [], decode (zcd 166) q.1 = .ok q.2 := by unfold zcd; rw [zm_166]; exact zdc_166
theorem zdd_167 : ∀ q ∈ zii.getD 167 [], decode (zcd 167) q.1 = .ok q.2 := by unfold zcd; rw [zm_167]; exact zdc_167
theorem zdd_168 : ∀ q ∈ zii.getD 168 [], decode (zcd 168) q.1 = .ok q.2 := by unfold zcd; rw [zm_168]; exact zdc_168
theorem zdd_169 : ∀ q ∈ zii.getD 169 [], decode (zcd 169) q.1 = .ok q.2 := by unfold zcd; rw [zm_169]; exact zdc_169
theorem zdd_170 : ∀ q ∈ zii.getD 170 [], decode (zcd 170) q.1 = .ok q.2 := by unfold zcd; rw [zm_170]; exact zdc_170
theorem zdd_171 : ∀ q ∈ zii.getD 171 [], decode (zcd 171) q.1 = .ok q.2 := by unfold zcd; rw [zm_171]; exact zdc_171
theorem zdd_172 : ∀ q ∈ zii.getD 172 [], decode (zcd 172) q.1 = .ok q.2 := by unfold zcd; rw [zm_172]; exact zdc_172
theorem zdd_173 : ∀ q ∈ zii.getD 173 [], decode (zcd 173) q.1 = .ok q.2 := by unfold zcd; rw [zm_173]; exact zdc_173
theorem zdd_174 : ∀ q ∈ zii.getD 174 [], decode (zcd 174) q.1 = .ok q.2 := by unfold zcd; rw [zm_174]; exact zdc_174
theorem zdd_175 : ∀ q ∈ zii.getD 175 [], decode (zcd 175) q.1 = .ok q.2 := by unfold zcd; rw [zm_175]; exact zdc_175
theorem zdd_176 : ∀ q ∈ zii.getD 176 [], decode (zcd 176) q.1 = .ok q.2 := by unfold zcd; rw [zm_176]; exact zdc_176
theorem zdd_177 : ∀ q ∈ zii.getD 177 [], decode (zcd 177) q.1 = .ok q.2 := by unfold zcd; rw [zm_177]; exact zdc_177
theorem zdd_178 : ∀ q ∈ zii.getD 178 [], decode (zcd 178) q.1 = .ok q.2 := by unfold zcd; rw [zm_178]; exact zdc_178
theorem zdd_179 : ∀ q ∈ zii.getD 179 [], decode (zcd 179) q.1 = .ok q.2 := by unfold zcd; rw [zm_179]; exact zdc_179
theorem zdd_180 : ∀ q ∈ zii.getD 180 [], decode (zcd 180) q.1 = .ok q.2 := by unfold zcd; rw [zm_180]; exact zdc_180
theorem zdd_181 : ∀ q ∈ zii.getD 181 [], decode (zcd 181) q.1 = .ok q.2 := by unfold zcd; rw [zm_181]; exact zdc_181
theorem zdd_182 : ∀ q ∈ zii.getD 182 [], decode (zcd 182) q.1 = .ok q.2 := by unfold zcd; rw [zm_182]; exact zdc_182
theorem zdd_183 : ∀ q ∈ zii.getD 183 [], decode (zcd 183) q.1 = .ok q.2 := by unfold zcd; rw [zm_183]; exact zdc_183
theorem zdd_184 : ∀ q ∈ zii.getD 184 [], decode (zcd 184) q.1 = .ok q.2 := by unfold zcd; rw [zm_184]; exact zdc_184
theorem zdd_185 : ∀ q ∈ zii.getD 185 [], decode (zcd 185) q.1 = .ok q.2 := by unfold zcd; rw [zm_185]; exact zdc_185
theorem zdd_186 : ∀ q ∈ zii.getD 186 [], decode (zcd 186) q.1 = .ok q.2 := by unfold zcd; rw [zm_186]; exact zdc_186
theorem zdd_187 : ∀ q ∈ zii.getD 187 [], decode (zcd 187) q.1 = .ok q.2 := by unfold zcd; rw [zm_187]; exact zdc_187
theorem zdd_188 : ∀ q ∈ zii.getD 188 [], decode (zcd 188) q.1 = .ok q.2 := by unfold zcd; rw [zm_188]; exact zdc_188
theorem zdd_189 : ∀ q ∈ zii.getD 189 [], decode (zcd 189) q.1 = .ok q.2 := by unfold zcd; rw [zm_189]; exact zdc_189
theorem zdd_190 : ∀ q ∈ zii.getD 190 [], decode (zcd 190) q.1 = .ok q.2 := by unfold zcd; rw [zm_190]; exact zdc_190
theorem zdd_191 : ∀ q ∈ zii.getD 191 [], decode (zcd 191) q.1 = .ok q.2 := by unfold zcd; rw [zm_191]; exact zdc_191
theorem zdd_192 : ∀ q ∈ zii.getD 192 [], decode (zcd 192) q.1 = .ok q.2 := by unfold zcd; rw [zm_192]; exact zdc_192
theorem zdd_193 : ∀ q ∈ zii.getD 193 [], decode (zcd 193) q.1 = .ok q.2 := by unfold zcd; rw [zm_193]; exact zdc_193
theorem zdd_194 : ∀ q ∈ zii.getD 194 [], decode (zcd 194) q.1 = .ok q.2 := by unfold zcd; rw [zm_194]; exact zdc_194
theorem zdd_195 : ∀ q ∈ zii.getD 195 [], decode (zcd 195) q.1 = .ok q.2 := by unfold zcd; rw [zm_195]; exact zdc_195
theorem zdd_196 : ∀ q ∈ zii.getD 196 [], decode (zcd 196) q.1 = .ok q.2 := by unfold zcd; rw [zm_196]; exact zdc_196
theorem zdd_197 : ∀ q ∈ zii.getD 197 [], decode (zcd 197) q.1 = .ok q.2 := by unfold zcd; rw [zm_197]; exact zdc_197
theorem zdd_198 : ∀ q ∈ zii.getD 198 [], decode (zcd 198) q.1 = .ok q.2 := by unfold zcd; rw [zm_198]; exact zdc_198
theorem zdd_199 : ∀ q ∈ zii.getD 199 [], decode (zcd 199) q.1 = .ok q.2 := by unfold zcd; rw [zm_199]; exact zdc_199
theorem zdd_200 : ∀ q ∈ zii.getD 200 [], decode (zcd 200) q.1 = .ok q.2 := by unfold zcd; rw [zm_200]; exact zdc_200
theorem zdd_201 : ∀ q ∈ zii.getD 201 [], decode (zcd 201) q.1 = .ok q.2 := by unfold zcd; rw [zm_201]; exact zdc_201
theorem zdd_202 : ∀ q ∈ zii.getD 202 [], decode (zcd 202) q.1 = .ok q.2 := by unfold zcd; rw [zm_202]; exact zdc_202
theorem zdd_203 : ∀ q ∈ zii.getD 203 [], decode (zcd 203) q.1 = .ok q.2 := by unfold zcd; rw [zm_203]; exact zdc_203
theorem zdd_204 : ∀ q ∈ zii.getD 204 [], decode (zcd 204) q.1 = .ok q.2 := by unfold zcd; rw [zm_204]; exact zdc_204
theorem zdd_205 : ∀ q ∈ zii.getD 205 [], decode (zcd 205) q.1 = .ok q.2 := by unfold zcd; rw [zm_205]; exact zdc_205
theorem zdd_206 : ∀ q ∈ zii.getD 206 [], decode (zcd 206) q.1 = .ok q.2 := by unfold zcd; rw [zm_206]; exact zdc_206
theorem zdd_207 : ∀ q ∈ zii.getD 207 [], decode (zcd 207) q.1 = .ok q.2 := by unfold zcd; rw [zm_207]; exact zdc_207
theorem zdd_208 : ∀ q ∈ zii.getD 208 [], decode (zcd 208) q.1 = .ok q.2 := by unfold zcd; rw [zm_208]; exact zdc_208
theorem zdd_209 : ∀ q ∈ zii.getD 209 [], decode (zcd 209) q.1 = .ok q.2 := by unfold zcd; rw [zm_209]; exact zdc_209
theorem zdd_210 : ∀ q ∈ zii.getD 210 [], decode (zcd 210) q.1 = .ok q.2 := by unfold zcd; rw [zm_210]; exact zdc_210
theorem zdd_211 : ∀ q ∈ zii.getD 211 [], decode (zcd 211) q.1 = .ok q.2 := by unfold zcd; rw [zm_211]; exact zdc_211
theorem zdd_212 : ∀ q ∈ zii.getD 212 [], decode (zcd 212) q.1 = .ok q.2 := by unfold zcd; rw [zm_212]; exact zdc_212
theorem zdd_213 : ∀ q ∈ zii.getD 213 [], decode (zcd 213) q.1 = .ok q.2 := by unfold zcd; rw [zm_213]; exact zdc_213
theorem zdd_214 : ∀ q ∈ zii.getD 214 [], decode (zcd 214) q.1 = .ok q.2 := by unfold zcd; rw [zm_214]; exact zdc_214
theorem zdd_215 : ∀ q ∈ zii.getD 215 [], decode (zcd 215) q.1 = .ok q.2 := by unfold zcd; rw [zm_215]; exact zdc_215
theorem zdd_216 : ∀ q ∈ zii.getD 216 [], decode (zcd 216) q.1 = .ok q.2 := by unfold zcd; rw [zm_216]; exact zdc_216
theorem zdd_217 : ∀ q ∈ zii.getD 217 [], decode (zcd 217) q.1 = .ok q.2 := by unfold zcd; rw [zm_217]; exact zdc_217
theorem zdd_218 : ∀ q ∈ zii.getD 218 [], decode (zcd 218) q.1 = .ok q.2 := by unfold zcd; rw [zm_218]; exact zdc_218
theorem zdd_219 : ∀ q ∈ zii.getD 219 [], decode (zcd 219) q.1 = .ok q.2 := by unfold zcd; rw [zm_219]; exact zdc_219
theorem zdd_220 : ∀ q ∈ zii.getD 220 [], decode (zcd 220) q.1 = .ok q.2 := by unfold zcd; rw [zm_220]; exact zdc_220
theorem zdd_221 : ∀ q ∈ zii.getD 221 [], decode (zcd 221) q.1 = .ok q.2 := by unfold zcd; rw [zm_221]; exact zdc_221
theorem zdd_222 : ∀ q ∈ zii.getD 222 [], decode (zcd 222) q.1 = .ok q.2 := by unfold zcd; rw [zm_222]; exact zdc_222
theorem zdd_223 : ∀ q ∈ zii.getD 223 [], decode (zcd 223) q.1 = .ok q.2 := by unfold zcd; rw [zm_223]; exact zdc_223
theorem zdd_224 : ∀ q ∈ zii.getD 224 [], decode (zcd 224) q.1 = .ok q.2 := by unfold zcd; rw [zm_224]; exact zdc_224
theorem zdd_225 : ∀ q ∈ zii.getD 225 [], decode (zcd 225) q.1 = .ok q.2 := by unfold zcd; rw [zm_225]; exact zdc_225
theorem zdd_226 : ∀ q ∈ zii.getD 226 [], decode (zcd 226) q.1 = .ok q.2 := by unfold zcd; rw [zm_226]; exact zdc_226
theorem zdd_227 : ∀ q ∈ zii.getD 227 [], decode (zcd 227) q.1 = .ok q.2 := by unfold zcd; rw [zm_227]; exact zdc_227
theorem zdd_228 : ∀ q ∈ zii.getD 228 [], decode (zcd 228) q.1 = .ok q.2 := by unfold zcd; rw [zm_228]; exact zdc_228
theorem zdd_229 : ∀ q ∈ zii.getD 229 [], decode (zcd 229) q.1 = .ok q.2 := by unfold zcd; rw [zm_229]; exact zdc_229
theorem zdd_230 : ∀ q ∈ zii.getD 230 [], decode (zcd 230) q.1 = .ok q.2 := by unfold zcd; rw [zm_230]; exact zdc_230
theorem zdd_231 : ∀ q ∈ zii.getD 231 [], decode (zcd 231) q.1 = .ok q.2 := by unfold zcd; rw [zm_231]; exact zdc_231
theorem zdd_232 : ∀ q ∈ zii.getD 232 [], decode (zcd 232) q.1 = .ok q.2 := by unfold zcd; rw [zm_232]; exact zdc_232
theorem zdd_233 : ∀ q ∈ zii.getD 233 [], decode (zcd 233) q.1 = .ok q.2 := by unfold zcd; rw [zm_233]; exact zdc_233
theorem zdd_234 : ∀ q ∈ zii.getD 234 [], decode (zcd 234) q.1 = .ok q.2 := by unfold zcd; rw [zm_234]; exact zdc_234
theorem zdd_235 : ∀ q ∈ zii.getD 235 [], decode (zcd 235) q.1 = .ok q.2 := by unfold zcd; rw [zm_235]; exact zdc_235
theorem zdd_236 : ∀ q ∈ zii.getD 236 [], decode (zcd 236) q.1 = .ok q.2 := by unfold zcd; rw [zm_236]; exact zdc_236
theorem zdd_237 : ∀ q ∈ zii.getD 237 [], decode (zcd 237) q.1 = .ok q.2 := by unfold zcd; rw [zm_237]; exact zdc_237
theorem zdd_238 : ∀ q ∈ zii.getD 238 [], decode (zcd 238) q.1 = .ok q.2 := by unfold zcd; rw [zm_238]; exact zdc_238
theorem zdd_239 : ∀ q ∈ zii.getD 239 [], decode (zcd 239) q.1 = .ok q.2 := by unfold zcd; rw [zm_239]; exact zdc_239
theorem zdd_240 : ∀ q ∈ zii.getD 240 [], decode (zcd 240) q.1 = .ok q.2 := by unfold zcd; rw [zm_240]; exact zdc_240
theorem zdd_241 : ∀ q ∈ zii.getD 241 [], decode (zcd 241) q.1 = .ok q.2 := by unfold zcd; rw [zm_241]; exact zdc_241
theorem zdd_242 : ∀ q ∈ zii.getD 242 [], decode (zcd 242) q.1 = .ok q.2 := by unfold zcd; rw [zm_242]; exact zdc_242
theorem zdd_243 : ∀ q ∈ zii.getD 243 [], decode (zcd 243) q.1 = .ok q.2 := by unfold zcd; rw [zm_243]; exact zdc_243
theorem zdd_244 : ∀ q ∈ zii.getD 244 [], decode (zcd 244) q.1 = .ok q.2 := by unfold zcd; rw [zm_244]; exact zdc_244
theorem zdd_245 : ∀ q ∈ zii.getD 245 [], decode (zcd 245) q.1 = .ok q.2 := by unfold zcd; rw [zm_245]; exact zdc_245
theorem zdd_246 : ∀ q ∈ zii.getD 246 [], decode (zcd 246) q.1 = .ok q.2 := by unfold zcd; rw [zm_246]; exact zdc_246
theorem zdd_247 : ∀ q ∈ zii.getD 247 [], decode (zcd 247) q.1 = .ok q.2 := by unfold zcd; rw [zm_247]; exact zdc_247
theorem zdd_248 : ∀ q ∈ zii.getD 248 [], decode (zcd 248) q.1 = .ok q.2 := by unfold zcd; rw [zm_248]; exact zdc_248
theorem zdd_249 : ∀ q ∈ zii.getD 249 [], decode (zcd 249) q.1 = .ok q.2 := by unfold zcd; rw [zm_249]; exact zdc_249
theorem zdd_250 : ∀ q ∈ zii.getD 250 [], decode (zcd 250) q.1 = .ok q.2 := by unfold zcd; rw [zm_250]; exact zdc_250
theorem zdd_251 : ∀ q ∈ zii.getD 251 [], decode (zcd 251) q.1 = .ok q.2 := by unfold zcd; rw [zm_251]; exact zdc_251
theorem zdd_252 : ∀ q ∈ zii.getD 252 [], decode (zcd 252) q.1 = .ok q.2 := by unfold zcd; rw [zm_252]; exact zdc_252
theorem zdd_253 : ∀ q ∈ zii.getD 253 [], decode (zcd 253) q.1 = .ok q.2 := by unfold zcd; rw [zm_253]; exact zdc_253
theorem zdd_254 : ∀ q ∈ zii.getD 254 [], decode (zcd 254) q.1 = .ok q.2 := by unfold zcd; rw [zm_254]; exact zdc_254
theorem zdd_255 : ∀ q ∈ zii.getD 255 [], decode (zcd 255) q.1 = .ok q.2 := by unfold zcd; rw [zm_255]; exact zdc_255
theorem zdd_256 : ∀ q ∈ zii.getD 256 [], decode (zcd 256) q.1 = .ok q.2 := by unfold zcd; rw [zm_256]; exact zdc_256
theorem zdd_257 : ∀ q ∈ zii.getD 257 [], decode (zcd 257) q.1 = .ok q.2 := by unfold zcd; rw [zm_257]; exact zdc_257
theorem zdd_258 : ∀ q ∈ zii.getD 258 [], decode (zcd 258) q.1 = .ok q.2 := by unfold zcd; rw [zm_258]; exact zdc_258
theorem zdd_259 : ∀ q ∈ zii.getD 259 [], decode (zcd 259) q.1 = .ok q.2 := by unfold zcd; rw [zm_259]; exact zdc_259
theorem zdd_260 : ∀ q ∈ zii.getD 260 [], decode (zcd 260) q.1 = .ok q.2 := by unfold zcd; rw [zm_260]; exact zdc_260
theorem zdd_261 : ∀ q ∈ zii.getD 261 [], decode (zcd 261) q.1 = .ok q.2 := by unfold zcd; rw [zm_261]; exact zdc_261
theorem zdd_262 : ∀ q ∈ zii.getD 262 [], decode (zcd 262) q.1 = .ok q.2 := by unfold zcd; rw [zm_262]; exact zdc_262
theorem zdd_263 : ∀ q ∈ zii.getD 263 [], decode (zcd 263) q.1 = .ok q.2 := by unfold zcd; rw [zm_263]; exact zdc_263
theorem zdd_264 : ∀ q ∈ zii.getD 264 [], decode (zcd 264) q.1 = .ok q.2 := by unfold zcd; rw [zm_264]; exact zdc_264
theorem zdd_265 : ∀ q ∈ zii.getD 265 [], decode (zcd 265) q.1 = .ok q.2 := by unfold zcd; rw [zm_265]; exact zdc_265
theorem zdd_266 : ∀ q ∈ zii.getD 266 [], decode (zcd 266) q.1 = .ok q.2 := by unfold zcd; rw [zm_266]; exact zdc_266
theorem zdd_267 : ∀ q ∈ zii.getD 267 [], decode (zcd 267) q.1 = .ok q.2 := by unfold zcd; rw [zm_267]; exact zdc_267
theorem zdd_268 : ∀ q ∈ zii.getD 268 [], decode (zcd 268) q.1 = .ok q.2 := by unfold zcd; rw [zm_268]; exact zdc_268
theorem zdd_269 : ∀ q ∈ zii.getD 269 [], decode (zcd 269) q.1 = .ok q.2 := by unfold zcd; rw [zm_269]; exact zdc_269
theorem zdd_270 : ∀ q ∈ zii.getD 270 [], decode (zcd 270) q.1 = .ok q.2 := by unfold zcd; rw [zm_270]; exact zdc_270
theorem zdd_271 : ∀ q ∈ zii.getD 271 [], decode (zcd 271) q.1 = .ok q.2 := by unfold zcd; rw [zm_271]; exact zdc_271
theorem zdd_272 : ∀ q ∈ zii.getD 272 [], decode (zcd 272) q.1 = .ok q.2 := by unfold zcd; rw [zm_272]; exact zdc_272
theorem zdd_273 : ∀ q ∈ zii.getD 273 [], decode (zcd 273) q.1 = .ok q.2 := by unfold zcd; rw [zm_273]; exact zdc_273
theorem zdd_274 : ∀ q ∈ zii.getD 274 [], decode (zcd 274) q.1 = .ok q.2 := by unfold zcd; rw [zm_274]; exact zdc_274
theorem zdd_275 : ∀ q ∈ zii.getD 275 [], decode (zcd 275) q.1 = .ok q.2 := by unfold zcd; rw [zm_275]; exact zdc_275
theorem zdd_276 : ∀ q ∈ zii.getD 276 [], decode (zcd 276) q.1 = .ok q.2 := by unfold zcd; rw [zm_276]; exact zdc_276
theorem zdd_277 : ∀ q ∈ zii.getD 277 [], decode (zcd 277) q.1 = .ok q.2 := by unfold zcd; rw [zm_277]; exact zdc_277
theorem zdd_278 : ∀ q ∈ zii.getD 278 [], decode (zcd 278) q.1 = .ok q.2 := by unfold zcd; rw [zm_278]; exact zdc_278
theorem zdd_279 : ∀ q ∈ zii.getD 279 [], decode (zcd 279) q.1 = .ok q.2 := by unfold zcd; rw [zm_279]; exact zdc_279
theorem zdd_280 : ∀ q ∈ zii.getD 280 [], decode (zcd 280) q.1 = .ok q.2 := by unfold zcd; rw [zm_280]; exact zdc_280
theorem zdd_281 : ∀ q ∈ zii.getD 281 [], decode (zcd 281) q.1 = .ok q.2 := by unfold zcd; rw [zm_281]; exact zdc_281
theorem zdd_282 : ∀ q ∈ zii.getD 282 [], decode (zcd 282) q.1 = .ok q.2 := by unfold zcd; rw [zm_282]; exact zdc_282
theorem zdd_283 : ∀ q ∈ zii.getD 283 [], decode (zcd 283) q.1 = .ok q.2 := by unfold zcd; rw [zm_283]; exact zdc_283
theorem zdd_284 : ∀ q ∈ zii.getD 284 [], decode (zcd 284) q.1 = .ok q.2 := by unfold zcd; rw [zm_284]; exact zdc_284
theorem zdd_285 : ∀ q ∈ zii.getD 285 [], decode (zcd 285) q.1 = .ok q.2 := by unfold zcd; rw [zm_285]; exact zdc_285
theorem zdd_286 : ∀ q ∈ zii.getD 286 [], decode (zcd 286) q.1 = .ok q.2 := by unfold zcd; rw [zm_286]; exact zdc_286
theorem zdd_287 : ∀ q ∈ zii.getD 287 [], decode (zcd 287) q.1 = .ok q.2 := by unfold zcd; rw [zm_287]; exact zdc_287
theorem zdd_288 : ∀ q ∈ zii.getD 288 [], decode (zcd 288) q.1 = .ok q.2 := by unfold zcd; rw [zm_288]; exact zdc_288
theorem zdd_289 : ∀ q ∈ zii.getD 289 [], decode (zcd 289) q.1 = .ok q.2 := by unfold zcd; rw [zm_289]; exact zdc_289
theorem zdd_290 : ∀ q ∈ zii.getD 290 [], decode (zcd 290) q.1 = .ok q.2 := by unfold zcd; rw [zm_290]; exact zdc_290
theorem zdd_291 : ∀ q ∈ zii.getD 291 [], decode (zcd 291) q.1 = .ok q.2 := by unfold zcd; rw [zm_291]; exact zdc_291
theorem zdd_292 : ∀ q ∈ zii.getD 292 [], decode (zcd 292) q.1 = .ok q.2 := by unfold zcd; rw [zm_292]; exact zdc_292
theorem zdd_293 : ∀ q ∈ zii.getD 293 [], decode (zcd 293) q.1 = .ok q.2 := by unfold zcd; rw [zm_293]; exact zdc_293
theorem zdd_294 : ∀ q ∈ zii.getD 294 [], decode (zcd 294) q.1 = .ok q.2 := by unfold zcd; rw [zm_294]; exact zdc_294
theorem zdd_295 : ∀ q ∈ zii.getD 295 [], decode (zcd 295) q.1 = .ok q.2 := by unfold zcd; rw [zm_295]; exact zdc_295
theorem zdd_296 : ∀ q ∈ zii.getD 296 [], decode (zcd 296) q.1 = .ok q.2 := by unfold zcd; rw [zm_296]; exact zdc_296
theorem zdd_297 : ∀ q ∈ zii.getD 297 [], decode (zcd 297) q.1 = .ok q.2 := by unfold zcd; rw [zm_297]; exact zdc_297
theorem zdd_298 : ∀ q ∈ zii.getD 298 [], decode (zcd 298) q.1 = .ok q.2 := by unfold zcd; rw [zm_298]; exact zdc_298
theorem zdd_299 : ∀ q ∈ zii.getD 299 [], decode (zcd 299) q.1 = .ok q.2 := by unfold zcd; rw [zm_299]; exact zdc_299
theorem zdd_300 : ∀ q ∈ zii.getD 300 [], decode (zcd 300) q.1 = .ok q.2 := by unfold zcd; rw [zm_300]; exact zdc_300
theorem zdd_301 : ∀ q ∈ zii.getD 301 [], decode (zcd 301) q.1 = .ok q.2 := by unfold zcd; rw [zm_301]; exact zdc_301
theorem zdd_302 : ∀ q ∈ zii.getD 302 [], decode (zcd 302) q.1 = .ok q.2 := by unfold zcd; rw [zm_302]; exact zdc_302
theorem zdd_303 : ∀ q ∈ zii.getD 303 [], decode (zcd 303) q.1 = .ok q.2 := by unfold zcd; rw [zm_303]; exact zdc_303
theorem zdd_304 : ∀ q ∈ zii.getD 304 [], decode (zcd 304) q.1 = .ok q.2 := by unfold zcd; rw [zm_304]; exact zdc_304
theorem zdd_305 : ∀ q ∈ zii.getD 305 [], decode (zcd 305) q.1 = .ok q.2 := by unfold zcd; rw [zm_305]; exact zdc_305
theorem zdd_306 : ∀ q ∈ zii.getD 306 [], decode (zcd 306) q.1 = .ok q.2 := by unfold zcd; rw [zm_306]; exact zdc_306
theorem zdd_307 : ∀ q ∈ zii.getD 307 [], decode (zcd 307) q.1 = .ok q.2 := by unfold zcd; rw [zm_307]; exact zdc_307
theorem zdd_308 : ∀ q ∈ zii.getD 308 [], decode (zcd 308) q.1 = .ok q.2 := by unfold zcd; rw [zm_308]; exact zdc_308
theorem zdd_309 : ∀ q ∈ zii.getD 309 [], decode (zcd 309) q.1 = .ok q.2 := by unfold zcd; rw [zm_309]; exact zdc_309
theorem zdd_310 : ∀ q ∈ zii.getD 310 [], decode (zcd 310) q.1 = .ok q.2 := by unfold zcd; rw [zm_310]; exact zdc_310
theorem zdd_311 : ∀ q ∈ zii.getD 311 [], decode (zcd 311) q.1 = .ok q.2 := by unfold zcd; rw [zm_311]; exact zdc_311
theorem zdd_312 : ∀ q ∈ zii.getD 312 [], decode (zcd 312) q.1 = .ok q.2 := by unfold zcd; rw [zm_312]; exact zdc_312
theorem zdd_313 : ∀ q ∈ zii.getD 313 [], decode (zcd 313) q.1 = .ok q.2 := by unfold zcd; rw [zm_313]; exact zdc_313
theorem zdd_314 : ∀ q ∈ zii.getD 314 [], decode (zcd 314) q.1 = .ok q.2 := by unfold zcd; rw [zm_314]; exact zdc_314
theorem zdd_315 : ∀ q ∈ zii.getD 315 [], decode (zcd 315) q.1 = .ok q.2 := by unfold zcd; rw [zm_315]; exact zdc_315
theorem zdd_316 : ∀ q ∈ zii.getD 316 [], decode (zcd 316) q.1 = .ok q.2 := by unfold zcd; rw [zm_316]; exact zdc_316
theorem zdd_317 : ∀ q ∈ zii.getD 317 [], decode (zcd 317) q.1 = .ok q.2 := by unfold zcd; rw [zm_317]; exact zdc_317
theorem zdd_318 : ∀ q ∈ zii.getD 318 [], decode (zcd 318) q.1 = .ok q.2 := by unfold zcd; rw [zm_318]; exact zdc_318
theorem zdd_319 : ∀ q ∈ zii.getD 319 [], decode (zcd 319) q.1 = .ok q.2 := by unfold zcd; rw [zm_319]; exact zdc_319
theorem zdd_320 : ∀ q ∈ zii.getD 320 [], decode (zcd 320) q.1 = .ok q.2 := by unfold zcd; rw [zm_320]; exact zdc_320
theorem zdd_321 : ∀ q ∈ zii.getD 321 [], decode (zcd 321) q.1 = .ok q.2 := by unfold zcd; rw [zm_321]; exact zdc_321
theorem zdd_322 : ∀ q ∈ zii.getD 322 [], decode (zcd 322) q.1 = .ok q.2 := by unfold zcd; rw [zm_322]; exact zdc_322
theorem zdd_323 : ∀ q ∈ zii.getD 323 [], decode (zcd 323) q.1 = .ok q.2 := by unfold zcd; rw [zm_323]; exact zdc_323
theorem zdd_324 : ∀ q ∈ zii.getD 324 [], decode (zcd 324) q.1 = .ok q.2 := by unfold zcd; rw [zm_324]; exact zdc_324
theorem zdd_325 : ∀ q ∈ zii.getD 325 [], decode (zcd 325) q.1 = .ok q.2 := by unfold zcd; rw [zm_325]; exact zdc_325
theorem zdd_326 : ∀ q ∈ zii.getD 326 [], decode (zcd 326) q.1 = .ok q.2 := by unfold zcd; rw [zm_326]; exact zdc_326
theorem zdd_327 : ∀ q ∈ zii.getD 327 [], decode (zcd 327) q.1 = .ok q.2 := by unfold zcd; rw [zm_327]; exact zdc_327
theorem zdd_328 : ∀ q ∈ zii.getD 328 [], decode (zcd 328) q.1 = .ok q.2 := by unfold zcd; rw [zm_328]; exact zdc_328
theorem zdd_329 : ∀ q ∈ zii.getD 329 [], decode (zcd 329) q.1 = .ok q.2 := by unfold zcd; rw [zm_329]; exact zdc_329
theorem zdd_330 : ∀ q ∈ zii.getD 330 [], decode (zcd 330) q.1 = .ok q.2 := by unfold zcd; rw [zm_330]; exact zdc_330
theorem zdd_331 : ∀ q ∈ zii.getD 331 [], decode (zcd 331) q.1 = .ok q.2 := by unfold zcd; rw [zm_331]; exact zdc_331
theorem zdd_332 : ∀ q ∈ zii.getD 332 [], decode (zcd 332) q.1 = .ok q.2 := by unfold zcd; rw [zm_332]; exact zdc_332
theorem zdd_333 : ∀ q ∈ zii.getD 333 [], decode (zcd 333) q.1 = .ok q.2 := by unfold zcd; rw [zm_333]; exact zdc_333
theorem zdd_334 : ∀ q ∈ zii.getD 334 [], decode (zcd 334) q.1 = .ok q.2 := by unfold zcd; rw [zm_334]; exact zdc_334
theorem zdd_335 : ∀ q ∈ zii.getD 335 [], decode (zcd 335) q.1 = .ok q.2 := by unfold zcd; rw [zm_335]; exact zdc_335
theorem zdd_336 : ∀ q ∈ zii.getD 336 [], decode (zcd 336) q.1 = .ok q.2 := by unfold zcd; rw [zm_336]; exact zdc_336
theorem zdd_337 : ∀ q ∈ zii.getD 337 [], decode (zcd 337) q.1 = .ok q.2 := by unfold zcd; rw [zm_337]; exact zdc_337
theorem zdd_338 : ∀ q ∈ zii.getD 338 [], decode (zcd 338) q.1 = .ok q.2 := by unfold zcd; rw [zm_338]; exact zdc_338
theorem zdd_339 : ∀ q ∈ zii.getD 339 [], decode (zcd 339) q.1 = .ok q.2 := by unfold zcd; rw [zm_339]; exact zdc_339
theorem zdd_340 : ∀ q ∈ zii.getD 340 [], decode (zcd 340) q.1 = .ok q.2 := by unfold zcd; rw [zm_340]; exact zdc_340
theorem zdd_341 : ∀ q ∈ zii.getD 341 [], decode (zcd 341) q.1 = .ok q.2 := by unfold zcd; rw [zm_341]; exact zdc_341
theorem zdd_342 : ∀ q ∈ zii.getD 342 [], decode (zcd 342) q.1 = .ok q.2 := by unfold zcd; rw [zm_342]; exact zdc_342
theorem zdd_343 : ∀ q ∈ zii.getD 343 [], decode (zcd 343) q.1 = .ok q.2 := by unfold zcd; rw [zm_343]; exact zdc_343
theorem zdd_344 : ∀ q ∈ zii.getD 344 [], decode (zcd 344) q.1 = .ok q.2 := by unfold zcd; rw [zm_344]; exact zdc_344
theorem zdd_345 : ∀ q ∈ zii.getD 345 [], decode (zcd 345) q.1 = .ok q.2 := by unfold zcd; rw [zm_345]; exact zdc_345
theorem zdd_346 : ∀ q ∈ zii.getD 346 [], decode (zcd 346) q.1 = .ok q.2 := by unfold zcd; rw [zm_346]; exact zdc_346
theorem zdd_347 : ∀ q ∈ zii.getD 347 [], decode (zcd 347) q.1 = .ok q.2 := by unfold zcd; rw [zm_347]; exact zdc_347
theorem zdd_348 : ∀ q ∈ zii.getD 348 [], decode (zcd 348) q.1 = .ok q.2 := by unfold zcd; rw [zm_348]; exact zdc_348
theorem zdd_349 : ∀ q ∈ zii.getD 349 [], decode (zcd 349) q.1 = .ok q.2 := by unfold zcd; rw [zm_349]; exact zdc_349
theorem zdd_350 : ∀ q ∈ zii.getD 350 [], decode (zcd 350) q.1 = .ok q.2 := by unfold zcd; rw [zm_350]; exact zdc_350
theorem zddl_50 : ∀ m, m < 50 → ∀ q ∈ zii.getD m [], decode (zcd m) q.1 = .ok q.2 := lt_s (lt_s (lt_s (lt_s (lt_s (lt_s (lt_s (lt_s (lt_s (lt_s (lt_s (lt_s (lt_s (lt_s (lt_s (lt_s (lt_s (lt_s (lt_s (lt_s (lt_s (lt_s (lt_s (lt_s (lt_s (lt_s (lt_s (lt_s (lt_s (lt_s (lt_s (lt_s (lt_s (lt_s (lt_s (lt_s (lt_s (lt_s (lt_s (lt_s (lt_s (lt_s (lt_s (lt_s (lt_s (lt_s (lt_s (lt_s (lt_s (lt_s (lt_0) zdd_0) zdd_1) zdd_2) zdd_3) zdd_4) zdd_5) zdd_6) zdd_7) zdd_8) zdd_9) zdd_10) zdd_11) zdd_12) zdd_13) zdd_14) zdd_15) zdd_16) zdd_17) zdd_18) zdd_19) zdd_20) zdd_21) zdd_22) zdd_23) zdd_24) zdd_25) zdd_26) zdd_27) zdd_28) zdd_29) zdd_30) zdd_31) zdd_32) zdd_33) zdd_34) zdd_35) zdd_36) zdd_37) zdd_38) zdd_39) zdd_40) zdd_41) zdd_42) zdd_43) zdd_44) zdd_45) zdd_46) zdd_47) zdd_48) zdd_49
theorem zddl_100 : ∀ m, m < 100 → ∀ q ∈ zii.getD m [], decode (zcd m) q.1 = .ok q.2 := lt_s (lt_s (lt_s (lt_s (lt_s (lt_s (lt_s (lt_s (lt_s (lt_s (lt_s (lt_s (lt_s (lt_s (lt_s (lt_s (lt_s (lt_s (lt_s (lt_s (lt_s (lt_s (lt_s (lt_s (lt_s (lt_s (lt_s (lt_s (lt_s (lt_s (lt_s (lt_s (lt_s (lt_s (lt_s (lt_s (lt_s (lt_s (lt_s (lt_s (lt_s (lt_s (lt_s (lt_s (lt_s (lt_s (lt_s (lt_s (lt_s (lt_s (zddl_50) zdd_50) zdd_51) zdd_52) zdd_53) zdd_54) zdd_55) zdd_56) zdd_57) zdd_58) zdd_59) zdd_60) zdd_61) zdd_62) zdd_63) zdd_64) zdd_65) zdd_66) zdd_67) zdd_68) zdd_69) zdd_70) zdd_71) zdd_72) zdd_73) zdd_74) zdd_75) zdd_76) zdd_77) zdd_78) zdd_79) zdd_80) zdd_81) zdd_82) zdd_83) zdd_84) zdd_85) zdd_86) zdd_87) zdd_88) zdd_89) zdd_90) zdd_91) zdd_92) zdd_93) zdd_94) zdd_95) zdd_96) zdd_97) zdd_98) zdd_99
theorem zddl_150 : ∀ m, m < 150 → ∀ q ∈ zii.getD m [], decode (zcd m) q.1 = .ok q.2 := lt_s (lt_s (lt_s (lt_s (lt_s (lt_s (lt_s (lt_s (lt_s (lt_s (lt_s (lt_s (lt_s (lt_s (lt_s (lt_s (lt_s (lt_s (lt_s (lt_s (lt_s (lt_s (lt_s (lt_s (lt_s (lt_s (lt_s (lt_s (lt_s (lt_s (lt_s (lt_s (lt_s (lt_s (lt_s (lt_s (lt_s (lt_s (lt_s (lt_s (lt_s (lt_s (lt_s (lt_s (lt_s (lt_s (lt_s (lt_s (lt_s (lt_s (zddl_100) zdd_100) zdd_101) zdd_102) zdd_103) zdd_104) zdd_105) zdd_106) zdd_107) zdd_108) zdd_109) zdd_110) zdd_111) zdd_112) zdd_113) zdd_114) zdd_115) zdd_116) zdd_117) zdd_118) zdd_119) zdd_120) zdd_121) zdd_122) zdd_123) zdd_124) zdd_125) zdd_126) zdd_127) zdd_128) zdd_129) zdd_130) zdd_131) zdd_132) zdd_133) zdd_134) zdd_135) zdd_136) zdd_137) zdd_138) zdd_139) zdd_140) zdd_141) zdd_142) zdd_143) zdd_144) zdd_145) zdd_146) zdd_147) zdd_148) zdd_149
theorem zddl_200 : ∀ m, m < 200 → ∀ q ∈ zii.getD m [], decode (zcd m) q.1 = .ok q.2 := lt_s (lt_s (lt_s (lt_s (lt_s (lt_s (lt_s (lt_s (lt_s (lt_s (lt_s (lt_s (lt_s (lt_s (lt_s (lt_s (lt_s (lt_s (lt_s (lt_s (lt_s (lt_s (lt_s (lt_s (lt_s (lt_s (lt_s (lt_s (lt_s (lt_s (lt_s (lt_s (lt_s (lt_s (lt_s (lt_s (lt_s (lt_s (lt_s (lt_s (lt_s (lt_s (lt_s (lt_s (lt_s (lt_s (lt_s (lt_s (lt_s (lt_s (zddl_150) zdd_150) zdd_151) zdd_152) zdd_153) zdd_154) zdd_155) zdd_156) zdd_157) zdd_158) zdd_159) zdd_160) zdd_161) zdd_162) zdd_163) zdd_164) zdd_165) zdd_166) zdd_167) zdd_168) zdd_169) zdd_170) zdd_171) zdd_172) zdd_173) zdd_174) zdd_175) zdd_176) zdd_177) zdd_178) zdd_179) zdd_180) zdd_181) zdd_182) zdd_183) zdd_184) zdd_185) zdd_186) zdd_187) zdd_188) zdd_189) zdd_190) zdd_191) zdd_192) zdd_193) zdd_194) zdd_195) zdd_196) zdd_197) zdd_198) zdd_199
theorem zddl_250 : ∀ m, m < 250 → ∀ q ∈ zii.getD m [], decode (zcd m) q.1 = .ok q.2 := lt_s (lt_s (lt_s (lt_s (lt_s (lt_s (lt_s (lt_s (lt_s (lt_s (lt_s (lt_s (lt_s (lt_s (lt_s (lt_s (lt_s (lt_s (lt_s (lt_s (lt_s (lt_s (lt_s (lt_s (lt_s (lt_s (lt_s (lt_s (lt_s (lt_s (lt_s (lt_s (lt_s (lt_s (lt_s (lt_s (lt_s (lt_s (lt_s (lt_s (lt_s (lt_s (lt_s (lt_s (lt_s (lt_s (lt_s (lt_s (lt_s (lt_s (zddl_200) zdd_200) zdd_201) zdd_202) zdd_203) zdd_204) zdd_205) zdd_206) zdd_207) zdd_208) zdd_209) zdd_210) zdd_211) zdd_212) zdd_213) zdd_214) zdd_215) zdd_216) zdd_217) zdd_218) zdd_219) zdd_220) zdd_221) zdd_222) zdd_223) zdd_224) zdd_225) zdd_226) zdd_227) zdd_228) zdd_229) zdd_230) zdd_231) zdd_232) zdd_233) zdd_234) zdd_235) zdd_236) zdd_237) zdd_238) zdd_239) zdd_240) zdd_241) zdd_242) zdd_243) zdd_244) zdd_245) zdd_246) zdd_247) zdd_248) zdd_249
theorem zddl_300 : ∀ m, m < 300 → ∀ q ∈ zii.getD m [], decode (zcd m) q.1 = .ok q.2 := lt_s (lt_s (lt_s (lt_s (lt_s (lt_s (lt_s (lt_s (lt_s (lt_s (lt_s (lt_s (lt_s (lt_s (lt_s (lt_s (lt_s (lt_s (lt_s (lt_s (lt_s (lt_s (lt_s (lt_s (lt_s (lt_s (lt_s (lt_s (lt_s (lt_s (lt_s (lt_s (lt_s (lt_s (lt_s (lt_s (lt_s (lt_s (lt_s (lt_s (lt_s (lt_s (lt_s (lt_s (lt_s (lt_s (lt_s (lt_s (lt_s (lt_s (zddl_250) zdd_250) zdd_251) zdd_252) zdd_253) zdd_254) zdd_255) zdd_256) zdd_257) zdd_258) zdd_259) zdd_260) zdd_261) zdd_262) zdd_263) zdd_264) zdd_265) zdd_266) zdd_267) zdd_268) zdd_269) zdd_270) zdd_271) zdd_272) zdd_273) zdd_274) zdd_275) zdd_276) zdd_277) zdd_278) zdd_279) zdd_280) zdd_281) zdd_282) zdd_283) zdd_284) zdd_285) zdd_286) zdd_287) zdd_288) zdd_289) zdd_290) zdd_291) zdd_292) zdd_293) zdd_294) zdd_295) zdd_296) zdd_297) zdd_298) zdd_299
theorem zddl_350 : ∀ m, m < 350 → ∀ q ∈ zii.getD m [], decode (zcd m) q.1 = .ok q.2 := lt_s (lt_s (lt_s (lt_s (lt_s (lt_s (lt_s (lt_s (lt_s (lt_s (lt_s (lt_s (lt_s (lt_s (lt_s (lt_s (lt_s (lt_s (lt_s (lt_s (lt_s (lt_s (lt_s (lt_s (lt_s (lt_s (lt_s (lt_s (lt_s (lt_s (lt_s (lt_s (lt_s (lt_s (lt_s (lt_s (lt_s (lt_s (lt_s (lt_s (lt_s (lt_s (lt_s (lt_s (lt_s (lt_s (lt_s (lt_s (lt_s (lt_s (zddl_300) zdd_300) zdd_301) zdd_302) zdd_303) zdd_304) zdd_305) zdd_306) zdd_307) zdd_308) zdd_309) zdd_310) zdd_311) zdd_312) zdd_313) zdd_314) zdd_315) zdd_316) zdd_317) zdd_318) zdd_319) zdd_320) zdd_321) zdd_322) zdd_323) zdd_324) zdd_325) zdd_326) zdd_327) zdd_328) zdd_329) zdd_330) zdd_331) zdd_332) zdd_333) zdd_334) zdd_335) zdd_336) zdd_337) zdd_338) zdd_339) zdd_340) zdd_341) zdd_342) zdd_343) zdd_344) zdd_345) zdd_346) zdd_347) zdd_348) zdd_349
theorem zddl_351 : ∀ m, m < 351 → ∀ q ∈ zii.getD m [], decode (zcd m) q.1 = .ok q.2 := lt_s (zddl_350) zdd_350
theorem zm_351 : zmt.getD 351 zmt0 = (⟨"LateInksLaw", "law", "([I)Z"⟩, code, 7, some .boolean) := rfl
theorem zdd_351 : ∀ q ∈ zii.getD 351 [], decode (zcd 351) q.1 = .ok q.2 := by unfold zcd; rw [zm_351]; exact zdc_351
theorem zfetch_ok {n pc : Nat} {q : Instr × Nat} (hn : n < 352) (h : zfetch n pc = some q) : decode (zcd n) pc = .ok q := by
  have := lt_s zddl_351 zdd_351 n hn (pc, q) (zlk_mem h)
  exact this
