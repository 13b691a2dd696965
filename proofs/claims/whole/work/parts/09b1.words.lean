/-! THE WORDS, by their places in the tables -/
def ztb : Nat → List Cond
  | 0 => k2_sels lw_privs
  | 1 => tables_1_1
  | 2 => tables_1_2
  | 3 => tables_1_3
  | 4 => tables_1_4
  | 5 => tables_1_5
  | 6 => tables_1_6
  | 7 => tables_1_7
  | 8 => tables_1_8
  | 9 => tables_1_9
  | _ => []
theorem ztb_in {k : Nat} {w : Cond} (h : w ∈ ztb k) : w ∈ lw_tbl := by
  unfold lw_tbl tables_1
  simp only [List.mem_append]
  unfold ztb at h
  split at h
  · left; exact h
  · right; left; exact h
  · right; right; left; exact h
  · right; right; right; left; exact h
  · right; right; right; right; left; exact h
  · right; right; right; right; right; left; exact h
  · right; right; right; right; right; right; left; exact h
  · right; right; right; right; right; right; right; left; exact h
  · right; right; right; right; right; right; right; right; left; exact h
  · right; right; right; right; right; right; right; right; right; exact h
  · cases h
/-- a place: 1000 times the table's number and the place there -/
def zat (i : Nat) : Option Cond := (ztb (i / 1000))[i % 1000]?
def zck1 {α : Type} (word : Nat → α → Cond) : List (Nat × α) → List Nat → Bool
  | [], _ => true
  | _ :: _, [] => false
  | q :: r, i :: is => decide (zat i = some (word q.1 q.2)) && goodWord (word q.1 q.2) && zck1 word r is
def zckT {α : Type} (word : Nat → Nat → α → Cond) : Nat → List (List (Nat × α)) → List (List Nat) → Bool
  | _, [], _ => true
  | _, _ :: _, [] => false
  | o, t :: ts, i :: is => zck1 (word o) t i && zckT word (o + 1) ts is
theorem zgw_mem {i : Nat} {w : Cond} (h : zat i = some w) (hg : goodWord w = true) : w ∈ zgw := List.mem_filter.mpr ⟨ztb_in (List.mem_of_getElem? h), hg⟩
theorem zck1_ok {α : Type} {word : Nat → α → Cond} : ∀ (t : List (Nat × α)) (is : List Nat), zck1 word t is = true → ∀ q ∈ t, word q.1 q.2 ∈ zgw := by
  intro t
  induction t with
  | nil => intro is _ q hq; cases hq
  | cons a r ih =>
    intro is h q hq
    cases is with
    | nil => cases h
    | cons i is =>
      simp only [zck1, Bool.and_eq_true, decide_eq_true_eq] at h
      rcases List.mem_cons.mp hq with rfl | hq
      · exact zgw_mem h.1.1 h.1.2
      · exact ih is h.2 q hq
theorem zckT_ok {α : Type} {word : Nat → Nat → α → Cond} : ∀ (ts : List (List (Nat × α))) (o : Nat) (is : List (List Nat)), zckT word o ts is = true → ∀ j k x, zlk k (ts.getD j []) = some x → word (o + j) k x ∈ zgw := by
  intro ts
  induction ts with
  | nil => intro o is _ j k x hx; simp [zlk] at hx
  | cons t r ih =>
    intro o is h j k x hx
    cases is with
    | nil => cases h
    | cons i is =>
      simp only [zckT, Bool.and_eq_true] at h
      cases j with
      | zero => exact zck1_ok t i h.1 (k, x) (zlk_mem (by simpa using hx))
      | succ j =>
        have := ih (o + 1) is h.2 j k x (by simpa using hx)
        rwa [show o + 1 + j = o + (j + 1) by omega] at this

def zwfd (o k : Nat) (q : Nat × Nat) : Cond := .fieldLink (zcn o) k (zcn q.1) (zFT q.1 q.2).2.1 (zFT q.1 q.2).2.2.1
set_option maxRecDepth 100000 in
theorem zfd_c : zckT zwfd 0 zfd [[1149, 1153, 1157, 1161, 1165, 1169, 1172, 1176, 1178, 1181, 1184, 1188], [1124, 1128, 1133], [1129, 1225, 1230, 2058, 2059, 2060], [4122, 4123, 4124, 4125, 4126, 4127, 4129], [1089, 1090, 1092], [1107, 1185, 1218, 1221, 1233, 1236, 2074, 2075], [1105, 1110], [1109, 1113, 1126, 1131, 1136, 1151, 1155, 1159, 1163, 1167, 1171, 1174, 1179, 1182, 1186, 1189, 1216, 1220, 1224, 1228, 1232, 1235, 1239, 2002, 2005, 2008, 2011, 2013, 2015, 2017, 2019], [1044, 1045, 1046, 1049, 1050, 1051, 1053], [1054, 1091, 1108, 1112, 1127, 1132, 1135, 1152, 1156, 1160, 1164, 1168, 1175, 1177, 1180, 1183, 1187, 1190, 1219, 1223, 1227, 1231, 1234, 1238, 2001, 2004, 2007, 2010, 2012, 2014, 2016, 2018, 2081, 2082, 2083, 2084, 2085, 2086, 2087, 2088, 2089, 2090, 2091, 2092, 2093, 2094, 4128], [6205, 6206, 6207, 6208, 6209, 6210, 6211, 6212, 6213, 6214, 6215, 6216, 6217, 6218, 6219, 6220, 6221, 6222, 6223, 6224, 6225, 6226, 6227, 6228], [9138, 9139], [1048], [1047, 1052, 1106, 1111, 1125, 1130, 1134, 1150, 1154, 1158, 1162, 1166, 1170, 1173, 1217, 1222, 1226, 1229, 1237, 2000, 2003, 2006, 2009], [], [], [], [], [], []] = true := by decide +kernel
theorem zfd_w (o k : Nat) (q : Nat × Nat) (h : zlk k (zfd.getD o []) = some q) : zwfd o k q ∈ zgw := by have := zckT_ok _ _ _ zfd_c o k q h; rwa [Nat.zero_add] at this
def zmy (m : Nat) : MethodName := match Nat.beq m 1000 with
  | true => objectInit
  | false => match Nat.beq m 1001 with
    | true => arraycopyName
    | false => match Nat.blt m 1010 with
      | true => zyy m
      | false => ⟨zexn.getD (m - 1010) "", "<init>", "()V"⟩
def znest (o k : Nat) : Bool := znd.any (fun q => Nat.beq q.1 o && Nat.beq q.2.1 k)
/-- a nest mate's link is of another kind: its place then holds its owner's being ready -/
def zwmd (o k m : Nat) : Cond := match znest o k with
  | true => .initialized (zcn o)
  | false => .methodLink (zcn o) k (zmy m)
set_option maxRecDepth 100000 in
theorem zmd_c : zckT zwmd 0 zmd [[1148], [1123], [2057, 6000, 6004, 6005, 6009, 6027, 6028, 6029, 6033], [2219, 2223, 4120, 4121], [1088, 2187, 3000, 6176], [2073, 6075, 6076, 6077, 6081, 6085, 6086, 6090, 6099], [1104], [1076, 1003, 1003, 1003, 1003, 2168, 2172, 2176, 2180, 2183, 2199, 2203, 2207, 2211, 2215, 2226, 2229, 2232, 2236, 3001, 3005, 3009, 3010, 3011, 3040, 3060, 4057, 4230, 4235, 6063, 6114], [1043, 3129, 3130, 3145, 3155, 4003, 4031, 4041, 4045, 4085, 4089], [1035, 1001, 1073, 1001, 1001, 2128, 2144, 2156, 2164, 2188, 2192, 2195, 3019, 3023, 3030, 3036, 3048, 3056, 3076, 3100, 3108, 3112, 3125, 3134, 4102, 4117, 4145, 4207, 4220, 4226, 4231, 4239, 5003, 5007, 5008, 5021, 5034, 5038, 5049, 5053, 5057, 5058, 5062, 5074, 5075, 5079, 5080, 5093, 5105, 5111, 5119, 5120, 5131, 5174, 5177, 5188, 5213, 5217, 5228, 5232, 5236, 6012, 6023, 6048, 6059, 6071, 6091, 6095, 6110, 6122, 6125, 6129, 6153, 6164, 6172, 6180, 6191], [6204, 7051, 7058, 7062, 7066, 7070, 7074, 7078, 7082, 7087, 7091, 7092, 7095, 7099, 7104, 7108, 7112, 7117, 7121, 7127, 7131, 7143, 7148, 7152, 7157, 7162, 7167, 7173, 7180, 7184, 7188, 7196, 7202, 7218, 7222, 7226, 7230, 7234, 7238, 8002, 8006, 8010, 8013, 8021, 8025, 8029, 8037, 8041, 8045, 8049, 8052, 8056, 8060, 8064, 8068, 8072, 8077, 8080, 8084, 8088, 8096, 8100, 8112, 8120, 8160, 8172, 8192, 8200, 8204, 8208, 8225, 8228, 9000, 9008, 9024, 9028, 9036, 9058, 9078, 9086], [3149, 3159, 3163, 3171], [4148, 4152, 4155, 4156, 4158, 4161, 4165, 4166, 4167, 4168, 4169, 4173, 4176, 4179, 4182, 4193, 4197], [3137, 3141, 3193, 3196, 4026, 4027, 4033, 4037, 4047, 4050, 4053, 4068, 4072, 4081], [1032, 2124, 2132, 2136, 2140, 2148, 2152, 2160, 3015, 3026, 3044, 3052, 3064, 3068, 3072, 3080, 3084, 3088, 3092, 3096, 3104, 3116, 3121, 4108, 4111, 4198, 4203, 5027, 5030, 5042, 5045, 5066, 5069, 5085, 5089, 5112, 5115, 5124, 5127, 5132, 5135, 5139, 5142, 5146, 5149, 5153, 5156, 5160, 5163, 5167, 5170, 5181, 5184, 5192, 5195, 5199, 5202, 5206, 5209, 5221, 5224, 6016, 6019, 6034, 6037, 6041, 6044, 6052, 6055, 6064, 6067, 6103, 6106, 6115, 6118, 6132, 6135, 6139, 6142, 6146, 6149, 6157, 6160, 6165, 6168, 6184, 6187, 6192, 6195, 6201, 7039, 7043, 7047, 7054, 7206, 7210, 7214, 8017, 8033, 8092, 8104, 8108, 8116, 8124, 8128, 8132, 8136, 8140, 8144, 8148, 8152, 8156, 8164, 8168, 8176, 8180, 8184, 8188, 8196, 8212, 8217, 8221, 8232, 8236, 9004, 9012, 9016, 9020, 9032, 9040, 9046, 9050, 9054, 9062, 9066, 9070, 9074, 9082, 9090, 9094, 9098, 9102, 9106, 9110, 9114], [3166], [], [], [], []] = true := by decide +kernel
theorem zmd_w (o k m : Nat) (h : zlk k (zmd.getD o []) = some m) : zwmd o k m ∈ zgw := by have := zckT_ok _ _ _ zmd_c o k m h; rwa [Nat.zero_add] at this
def zcname (c : Nat) : String := match Nat.blt c 100 with
  | true => zcn c
  | false => zexn.getD (c - 100) ""
def zwcr (o k c : Nat) : Cond := .classLink (zcn o) k (zcname c)
set_option maxRecDepth 100000 in
theorem zcr_c : zckT zwcr 0 zcr [[], [], [], [], [], [], [], [1077, 1079, 1081, 1083], [3200], [1038, 1071, 2052, 2068, 4093, 4115, 4211, 5012, 5073, 5096], [], [], [], [], [1030, 3119, 3120, 4201, 4202, 5088, 6199], [], [], [], [], []] = true := by decide +kernel
theorem zcr_w (o k c : Nat) (h : zlk k (zcr.getD o []) = some c) : Cond.classLink (zcn o) k (zcname c) ∈ zgw := by have := zckT_ok _ _ _ zcr_c o k c h; rwa [Nat.zero_add] at this
set_option maxRecDepth 100000 in
theorem zci_c : zckT (fun o k (v : Int32) => Cond.constant (zcn o) k v) 0 zci [[], [], [], [], [], [], [], [5084], [], [], [8076, 8216], [], [], [], [], [], [], [], [3033, 3034, 3035], []] = true := by decide +kernel
theorem zci_w (o k : Nat) (v : Int32) (h : zlk k (zci.getD o []) = some v) : Cond.constant (zcn o) k v ∈ zgw := by have := zckT_ok _ _ _ zci_c o k v h; rwa [Nat.zero_add] at this
set_option maxRecDepth 100000 in
theorem zcj_c : zckT (fun o k (v : Int64) => Cond.constantLong (zcn o) k v) 0 zcj [[], [], [], [], [], [], [], [], [], [6128], [9044, 9045], [], [], [], [], [], [], [], [], []] = true := by decide +kernel
theorem zcj_w (o k : Nat) (v : Int64) (h : zlk k (zcj.getD o []) = some v) : Cond.constantLong (zcn o) k v ∈ zgw := by have := zckT_ok _ _ _ zcj_c o k v h; rwa [Nat.zero_add] at this
