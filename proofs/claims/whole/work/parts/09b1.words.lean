/-! THE WORDS, by their places in the tables -/
def ztb : Nat → List Cond
  | 0 => k2_sels lw_privs
  | 1 => tables_1_1
  | 2 => tables_1_2
  | 3 => tables_1_3
  | 4 => tables_1_4
  | 5 => tables_1_5
  | 6 => tables_1_6
  | 7 => tables_1_7
  | 8 => tables_1_8
  | 9 => tables_1_9
  | _ => []
theorem ztb_in {k : Nat} {w : Cond} (h : w ∈ ztb k) : w ∈ lw_tbl := by
  unfold lw_tbl tables_1
  simp only [List.mem_append]
  unfold ztb at h
  split at h
  · left; exact h
  · right; left; exact h
  · right; right; left; exact h
  · right; right; right; left; exact h
  · right; right; right; right; left; exact h
  · right; right; right; right; right; left; exact h
  · right; right; right; right; right; right; left; exact h
  · right; right; right; right; right; right; right; left; exact h
  · right; right; right; right; right; right; right; right; left; exact h
  · right; right; right; right; right; right; right; right; right; exact h
  · cases h
/-- a place: 1000 times the table's number and the place there -/
def zat (i : Nat) : Option Cond := (ztb (i / 1000))[i % 1000]?
def zck1 {α : Type} (word : Nat → α → Cond) : List (Nat × α) → List Nat → Bool
  | [], _ => true
  | _ :: _, [] => false
  | q :: r, i :: is => decide (zat i = some (word q.1 q.2)) && goodWord (word q.1 q.2) && zck1 word r is
def zckT {α : Type} (word : Nat → Nat → α → Cond) : Nat → List (List (Nat × α)) → List (List Nat) → Bool
  | _, [], _ => true
  | _, _ :: _, [] => false
  | o, t :: ts, i :: is => zck1 (word o) t i && zckT word (o + 1) ts is
theorem zgw_mem {i : Nat} {w : Cond} (h : zat i = some w) (hg : goodWord w = true) : w ∈ zgw := List.mem_filter.mpr ⟨ztb_in (List.mem_of_getElem? h), hg⟩
theorem zck1_ok {α : Type} {word : Nat → α → Cond} : ∀ (t : List (Nat × α)) (is : List Nat), zck1 word t is = true → ∀ q ∈ t, word q.1 q.2 ∈ zgw := by
  intro t
  induction t with
  | nil => intro is _ q hq; cases hq
  | cons a r ih =>
    intro is h q hq
    cases is with
    | nil => cases h
    | cons i is =>
      simp only [zck1, Bool.and_eq_true, decide_eq_true_eq] at h
      rcases List.mem_cons.mp hq with rfl | hq
      · exact zgw_mem h.1.1 h.1.2
      · exact ih is h.2 q hq
theorem zckT_ok {α : Type} {word : Nat → Nat → α → Cond} : ∀ (ts : List (List (Nat × α))) (o : Nat) (is : List (List Nat)), zckT word o ts is = true → ∀ j k x, zlk k (ts.getD j []) = some x → word (o + j) k x ∈ zgw := by
  intro ts
  induction ts with
  | nil => intro o is _ j k x hx; simp [zlk] at hx
  | cons t r ih =>
    intro o is h j k x hx
    cases is with
    | nil => cases h
    | cons i is =>
      simp only [zckT, Bool.and_eq_true] at h
      cases j with
      | zero => exact zck1_ok t i h.1 (k, x) (zlk_mem (by simpa using hx))
      | succ j =>
        have := ih (o + 1) is h.2 j k x (by simpa using hx)
        rwa [show o + 1 + j = o + (j + 1) by omega] at this

def zwfd (o k : Nat) (q : Nat × Nat) : Cond := .fieldLink (zcn o) k (zcn q.1) (zFT q.1 q.2).2.1 (zFT q.1 q.2).2.2.1
set_option maxRecDepth 100000 in
theorem zfd_c : zckT zwfd 0 zfd [[1149, 1153, 1157, 1161, 1165, 1169, 1172, 1176, 1178, 1181, 1184, 1188], [1124, 1128, 1133], [1129, 1225, 1230, 2058, 2059, 2060], [4122, 4123, 4124, 4125, 4126, 4127, 4129], [1089, 1090, 1092], [1107, 1185, 1218, 1221, 1233, 1236, 2074, 2075], [1105, 1110], [1109, 1113, 1126, 1131, 1136, 1151, 1155, 1159, 1163, 1167, 1171, 1174, 1179, 1182, 1186, 1189, 1216, 1220, 1224, 1228, 1232, 1235, 1239, 2002, 2005, 2008, 2011, 2013, 2015, 2017, 2019], [1044, 1045, 1046, 1049, 1050, 1051, 1053], [1054, 1091, 1108, 1112, 1127, 1132, 1135, 1152, 1156, 1160, 1164, 1168, 1175, 1177, 1180, 1183, 1187, 1190, 1219, 1223, 1227, 1231, 1234, 1238, 2001, 2004, 2007, 2010, 2012, 2014, 2016, 2018, 2081, 2082, 2083, 2084, 2085, 2086, 2087, 2088, 2089, 2090, 2091, 2092, 2093, 2094, 4128], [6202, 6203, 6204, 6205, 6206, 6207, 6208, 6209, 6210, 6211, 6212, 6213, 6214, 6215, 6216, 6217, 6218, 6219, 6220, 6221, 6222, 6223, 6224, 6225], [9135, 9136], [1048], [1047, 1052, 1106, 1111, 1125, 1130, 1134, 1150, 1154, 1158, 1162, 1166, 1170, 1173, 1217, 1222, 1226, 1229, 1237, 2000, 2003, 2006, 2009], [], [], [], [], [], []] = true := by decide +kernel
theorem zfd_w (o k : Nat) (q : Nat × Nat) (h : zlk k (zfd.getD o []) = some q) : zwfd o k q ∈ zgw := by have := zckT_ok _ _ _ zfd_c o k q h; rwa [Nat.zero_add] at this
def zmy (m : Nat) : MethodName := match Nat.beq m 1000 with
  | true => objectInit
  | false => match Nat.beq m 1001 with
    | true => arraycopyName
    | false => match Nat.blt m 1010 with
      | true => zyy m
      | false => ⟨zexn.getD (m - 1010) "", "<init>", "()V"⟩
def znest (o k : Nat) : Bool := znd.any (fun q => Nat.beq q.1 o && Nat.beq q.2.1 k)
/-- a nest mate's link is of another kind: its place then holds its owner's being ready -/
def zwmd (o k m : Nat) : Cond := match znest o k with
  | true => .initialized (zcn o)
  | false => .methodLink (zcn o) k (zmy m)
set_option maxRecDepth 100000 in
theorem zmd_c : zckT zwmd 0 zmd [[1148], [1123], [2057, 5237, 6001, 6002, 6006, 6024, 6025, 6026, 6030], [2219, 2223, 4120, 4121], [1088, 2187, 3000, 6173], [2073, 6072, 6073, 6074, 6078, 6082, 6083, 6087, 6096], [1104], [1076, 1003, 1003, 1003, 1003, 2168, 2172, 2176, 2180, 2183, 2199, 2203, 2207, 2211, 2215, 2226, 2229, 2232, 2236, 3001, 3005, 3009, 3010, 3011, 3040, 3060, 4057, 4227, 4232, 6060, 6111], [1043, 3129, 3130, 3145, 3155, 4003, 4031, 4041, 4045, 4085, 4089], [1035, 1001, 1073, 1001, 1001, 2128, 2144, 2156, 2164, 2188, 2192, 2195, 3019, 3023, 3030, 3036, 3048, 3056, 3076, 3100, 3108, 3112, 3125, 3134, 4102, 4117, 4145, 4204, 4217, 4223, 4228, 4236, 5000, 5004, 5005, 5018, 5031, 5035, 5046, 5050, 5054, 5055, 5059, 5071, 5072, 5076, 5077, 5090, 5102, 5108, 5116, 5117, 5128, 5171, 5174, 5185, 5210, 5214, 5225, 5229, 5233, 6009, 6020, 6045, 6056, 6068, 6088, 6092, 6107, 6119, 6122, 6126, 6150, 6161, 6169, 6177, 6188], [6201, 7048, 7055, 7059, 7063, 7067, 7071, 7075, 7079, 7084, 7088, 7089, 7092, 7096, 7101, 7105, 7109, 7114, 7118, 7124, 7128, 7140, 7145, 7149, 7154, 7159, 7164, 7170, 7177, 7181, 7185, 7193, 7199, 7215, 7219, 7223, 7227, 7231, 7235, 7239, 8003, 8007, 8010, 8018, 8022, 8026, 8034, 8038, 8042, 8046, 8049, 8053, 8057, 8061, 8065, 8069, 8074, 8077, 8081, 8085, 8093, 8097, 8109, 8117, 8157, 8169, 8189, 8197, 8201, 8205, 8222, 8225, 8237, 9005, 9021, 9025, 9033, 9055, 9075, 9083], [3149, 3159, 3163, 3171], [4148, 4152, 4155, 4156, 4158, 4161, 4165, 4166, 4167, 4168, 4169, 4173, 4176, 4179, 4190, 4194], [3137, 3141, 3193, 3196, 4026, 4027, 4033, 4037, 4047, 4050, 4053, 4068, 4072, 4081], [1032, 2124, 2132, 2136, 2140, 2148, 2152, 2160, 3015, 3026, 3044, 3052, 3064, 3068, 3072, 3080, 3084, 3088, 3092, 3096, 3104, 3116, 3121, 4108, 4111, 4195, 4200, 5024, 5027, 5039, 5042, 5063, 5066, 5082, 5086, 5109, 5112, 5121, 5124, 5129, 5132, 5136, 5139, 5143, 5146, 5150, 5153, 5157, 5160, 5164, 5167, 5178, 5181, 5189, 5192, 5196, 5199, 5203, 5206, 5218, 5221, 6013, 6016, 6031, 6034, 6038, 6041, 6049, 6052, 6061, 6064, 6100, 6103, 6112, 6115, 6129, 6132, 6136, 6139, 6143, 6146, 6154, 6157, 6162, 6165, 6181, 6184, 6189, 6192, 6198, 7036, 7040, 7044, 7051, 7203, 7207, 7211, 8014, 8030, 8089, 8101, 8105, 8113, 8121, 8125, 8129, 8133, 8137, 8141, 8145, 8149, 8153, 8161, 8165, 8173, 8177, 8181, 8185, 8193, 8209, 8214, 8218, 8229, 8233, 9001, 9009, 9013, 9017, 9029, 9037, 9043, 9047, 9051, 9059, 9063, 9067, 9071, 9079, 9087, 9091, 9095, 9099, 9103, 9107, 9111], [3166], [], [], [], []] = true := by decide +kernel
theorem zmd_w (o k m : Nat) (h : zlk k (zmd.getD o []) = some m) : zwmd o k m ∈ zgw := by have := zckT_ok _ _ _ zmd_c o k m h; rwa [Nat.zero_add] at this
def zcname (c : Nat) : String := match Nat.blt c 100 with
  | true => zcn c
  | false => zexn.getD (c - 100) ""
def zwcr (o k c : Nat) : Cond := .classLink (zcn o) k (zcname c)
set_option maxRecDepth 100000 in
theorem zcr_c : zckT zwcr 0 zcr [[], [], [], [], [], [], [], [1077, 1079, 1081, 1083], [3200], [1038, 1071, 2052, 2068, 4093, 4115, 4208, 5009, 5070, 5093], [], [], [], [], [1030, 3119, 3120, 4198, 4199, 5085, 6196], [], [], [], [], []] = true := by decide +kernel
theorem zcr_w (o k c : Nat) (h : zlk k (zcr.getD o []) = some c) : Cond.classLink (zcn o) k (zcname c) ∈ zgw := by have := zckT_ok _ _ _ zcr_c o k c h; rwa [Nat.zero_add] at this
set_option maxRecDepth 100000 in
theorem zci_c : zckT (fun o k (v : Int32) => Cond.constant (zcn o) k v) 0 zci [[], [], [], [], [], [], [], [5081], [], [], [8073, 8213], [], [], [], [], [], [], [], [3033, 3034, 3035], []] = true := by decide +kernel
theorem zci_w (o k : Nat) (v : Int32) (h : zlk k (zci.getD o []) = some v) : Cond.constant (zcn o) k v ∈ zgw := by have := zckT_ok _ _ _ zci_c o k v h; rwa [Nat.zero_add] at this
set_option maxRecDepth 100000 in
theorem zcj_c : zckT (fun o k (v : Int64) => Cond.constantLong (zcn o) k v) 0 zcj [[], [], [], [], [], [], [], [], [], [6125], [9041, 9042], [], [], [], [], [], [], [], [], []] = true := by decide +kernel
theorem zcj_w (o k : Nat) (v : Int64) (h : zlk k (zcj.getD o []) = some v) : Cond.constantLong (zcn o) k v ∈ zgw := by have := zckT_ok _ _ _ zcj_c o k v h; rwa [Nat.zero_add] at this
