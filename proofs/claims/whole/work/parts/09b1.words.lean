/-! THE WORDS, by their places in the tables -/
def zck1 {α : Type} (word : Nat → α → Cond) : List (Nat × α) → List Nat → Bool
  | [], _ => true
  | _ :: _, [] => false
  | q :: r, i :: is => decide (lw_tbl[i]? = some (word q.1 q.2)) && goodWord (word q.1 q.2) && zck1 word r is
def zckT {α : Type} (word : Nat → Nat → α → Cond) : Nat → List (List (Nat × α)) → List (List Nat) → Bool
  | _, [], _ => true
  | _, _ :: _, [] => false
  | o, t :: ts, i :: is => zck1 (word o) t i && zckT word (o + 1) ts is
theorem zgw_mem {i : Nat} {w : Cond} (h : lw_tbl[i]? = some w) (hg : goodWord w = true) : w ∈ zgw := List.mem_filter.mpr ⟨List.mem_of_getElem? h, hg⟩
theorem zck1_ok {α : Type} {word : Nat → α → Cond} : ∀ (t : List (Nat × α)) (is : List Nat), zck1 word t is = true → ∀ q ∈ t, word q.1 q.2 ∈ zgw := by
  intro t
  induction t with
  | nil => intro is _ q hq; cases hq
  | cons a r ih =>
    intro is h q hq
    cases is with
    | nil => cases h
    | cons i is =>
      simp only [zck1, Bool.and_eq_true, decide_eq_true_eq] at h
      rcases List.mem_cons.mp hq with rfl | hq
      · exact zgw_mem h.1.1 h.1.2
      · exact ih is h.2 q hq
theorem zckT_ok {α : Type} {word : Nat → Nat → α → Cond} : ∀ (ts : List (List (Nat × α))) (o : Nat) (is : List (List Nat)), zckT word o ts is = true → ∀ j k x, zlk k (ts.getD j []) = some x → word (o + j) k x ∈ zgw := by
  intro ts
  induction ts with
  | nil => intro o is _ j k x hx; simp [zlk] at hx
  | cons t r ih =>
    intro o is h j k x hx
    cases is with
    | nil => cases h
    | cons i is =>
      simp only [zckT, Bool.and_eq_true] at h
      cases j with
      | zero => exact zck1_ok t i h.1 (k, x) (zlk_mem (by simpa using hx))
      | succ j =>
        have := ih (o + 1) is h.2 j k x (by simpa using hx)
        rwa [show o + 1 + j = o + (j + 1) by omega] at this

def zwfd (o k : Nat) (q : Nat × Nat) : Cond := .fieldLink (zcn o) k (zcn q.1) (zFT q.1 q.2).2.1 (zFT q.1 q.2).2.2.1
set_option maxRecDepth 100000 in
theorem zfd_c : zckT zwfd 0 zfd [[234, 238, 242, 246, 250, 254, 257, 261, 263, 266, 269, 273], [209, 213, 218], [214, 310, 315, 383, 384, 385], [927, 928, 929, 930, 931, 932, 934], [174, 175, 177], [192, 270, 303, 306, 318, 321, 399, 400], [190, 195], [194, 198, 211, 216, 221, 236, 240, 244, 248, 252, 256, 259, 264, 267, 271, 274, 301, 305, 309, 313, 317, 320, 324, 327, 330, 333, 336, 338, 340, 342, 344], [129, 130, 131, 134, 135, 136, 138], [139, 176, 193, 197, 212, 217, 220, 237, 241, 245, 249, 253, 260, 262, 265, 268, 272, 275, 304, 308, 312, 316, 319, 323, 326, 329, 332, 335, 337, 339, 341, 343, 406, 407, 408, 409, 410, 411, 412, 413, 414, 415, 416, 417, 418, 419, 933], [1490, 1491, 1492, 1493, 1494, 1495, 1496, 1497, 1498, 1499, 1500, 1501, 1502, 1503, 1504, 1505, 1506, 1507, 1508, 1509, 1510, 1511, 1512, 1513], [2143, 2144], [133], [132, 137, 191, 196, 210, 215, 219, 235, 239, 243, 247, 251, 255, 258, 302, 307, 311, 314, 322, 325, 328, 331, 334], [], [], [], [], [], []] = true := by decide +kernel
theorem zfd_w (o k : Nat) (q : Nat × Nat) (h : zlk k (zfd.getD o []) = some q) : zwfd o k q ∈ zgw := by have := zckT_ok _ _ _ zfd_c o k q h; rwa [Nat.zero_add] at this
def zmy (m : Nat) : MethodName := match Nat.beq m 1000 with
  | true => objectInit
  | false => match Nat.beq m 1001 with
    | true => arraycopyName
    | false => match Nat.blt m 1010 with
      | true => zyy m
      | false => ⟨zexn.getD (m - 1010) "", "<init>", "()V"⟩
def znest (o k : Nat) : Bool := znd.any (fun q => Nat.beq q.1 o && Nat.beq q.2.1 k)
/-- a nest mate's link is of another kind: its place then holds its owner's being ready -/
def zwmd (o k m : Nat) : Cond := match znest o k with
  | true => .initialized (zcn o)
  | false => .methodLink (zcn o) k (zmy m)
set_option maxRecDepth 100000 in
theorem zmd_c : zckT zwmd 0 zmd [[233], [208], [382, 1285, 1289, 1290, 1294, 1312, 1313, 1314, 1318], [544, 548, 925, 926], [173, 512, 565, 1461], [398, 1360, 1361, 1362, 1366, 1370, 1371, 1375, 1384], [189], [161, 88, 88, 88, 88, 493, 497, 501, 505, 508, 524, 528, 532, 536, 540, 551, 554, 557, 561, 566, 570, 574, 575, 576, 605, 625, 862, 1035, 1040, 1348, 1399], [128, 694, 695, 710, 720, 808, 836, 846, 850, 890, 894], [120, 86, 158, 86, 86, 453, 469, 481, 489, 513, 517, 520, 584, 588, 595, 601, 613, 621, 641, 665, 673, 677, 690, 699, 907, 922, 950, 1012, 1025, 1031, 1036, 1044, 1048, 1052, 1053, 1066, 1079, 1083, 1094, 1098, 1102, 1103, 1107, 1119, 1120, 1124, 1125, 1138, 1150, 1156, 1164, 1165, 1176, 1219, 1222, 1233, 1258, 1262, 1273, 1277, 1281, 1297, 1308, 1333, 1344, 1356, 1376, 1380, 1395, 1407, 1410, 1414, 1438, 1449, 1457, 1465, 1476], [1489, 1576, 1583, 1587, 1591, 1595, 1599, 1603, 1607, 1612, 1616, 1617, 1620, 1624, 1629, 1633, 1637, 1642, 1646, 1652, 1656, 1668, 1673, 1677, 1682, 1687, 1692, 1698, 1705, 1709, 1713, 1721, 1727, 1743, 1747, 1751, 1755, 1759, 1763, 1767, 1771, 1775, 1778, 1786, 1790, 1794, 1802, 1806, 1810, 1814, 1817, 1821, 1825, 1829, 1833, 1837, 1842, 1845, 1849, 1853, 1861, 1865, 1877, 1885, 1925, 1937, 1957, 1965, 1969, 1973, 1990, 1993, 2005, 2013, 2029, 2033, 2041, 2063, 2083, 2091], [714, 724, 728, 736], [953, 957, 960, 961, 963, 966, 970, 971, 972, 973, 974, 978, 981, 984, 987, 998, 1002], [702, 706, 758, 761, 831, 832, 838, 842, 852, 855, 858, 873, 877, 886], [117, 449, 457, 461, 465, 473, 477, 485, 580, 591, 609, 617, 629, 633, 637, 645, 649, 653, 657, 661, 669, 681, 686, 913, 916, 1003, 1008, 1072, 1075, 1087, 1090, 1111, 1114, 1130, 1134, 1157, 1160, 1169, 1172, 1177, 1180, 1184, 1187, 1191, 1194, 1198, 1201, 1205, 1208, 1212, 1215, 1226, 1229, 1237, 1240, 1244, 1247, 1251, 1254, 1266, 1269, 1301, 1304, 1319, 1322, 1326, 1329, 1337, 1340, 1349, 1352, 1388, 1391, 1400, 1403, 1417, 1420, 1424, 1427, 1431, 1434, 1442, 1445, 1450, 1453, 1469, 1472, 1477, 1480, 1486, 1564, 1568, 1572, 1579, 1731, 1735, 1739, 1782, 1798, 1857, 1869, 1873, 1881, 1889, 1893, 1897, 1901, 1905, 1909, 1913, 1917, 1921, 1929, 1933, 1941, 1945, 1949, 1953, 1961, 1977, 1982, 1986, 1997, 2001, 2009, 2017, 2021, 2025, 2037, 2045, 2051, 2055, 2059, 2067, 2071, 2075, 2079, 2087, 2095, 2099, 2103, 2107, 2111, 2115, 2119], [731], [], [], [], []] = true := by decide +kernel
theorem zmd_w (o k m : Nat) (h : zlk k (zmd.getD o []) = some m) : zwmd o k m ∈ zgw := by have := zckT_ok _ _ _ zmd_c o k m h; rwa [Nat.zero_add] at this
def zcname (c : Nat) : String := match Nat.blt c 100 with
  | true => zcn c
  | false => zexn.getD (c - 100) ""
def zwcr (o k c : Nat) : Cond := .classLink (zcn o) k (zcname c)
set_option maxRecDepth 100000 in
theorem zcr_c : zckT zwcr 0 zcr [[], [], [], [], [], [], [], [162, 164, 166, 168], [765], [123, 156, 377, 393, 898, 920, 1016, 1057, 1118, 1141], [], [], [], [], [115, 684, 685, 1006, 1007, 1133, 1484], [], [], [], [], []] = true := by decide +kernel
theorem zcr_w (o k c : Nat) (h : zlk k (zcr.getD o []) = some c) : Cond.classLink (zcn o) k (zcname c) ∈ zgw := by have := zckT_ok _ _ _ zcr_c o k c h; rwa [Nat.zero_add] at this
set_option maxRecDepth 100000 in
theorem zci_c : zckT (fun o k (v : Int32) => Cond.constant (zcn o) k v) 0 zci [[], [], [], [], [], [], [], [1129], [], [], [1841, 1981], [], [], [], [], [], [], [], [598, 599, 600], []] = true := by decide +kernel
theorem zci_w (o k : Nat) (v : Int32) (h : zlk k (zci.getD o []) = some v) : Cond.constant (zcn o) k v ∈ zgw := by have := zckT_ok _ _ _ zci_c o k v h; rwa [Nat.zero_add] at this
set_option maxRecDepth 100000 in
theorem zcj_c : zckT (fun o k (v : Int64) => Cond.constantLong (zcn o) k v) 0 zcj [[], [], [], [], [], [], [], [], [], [1413], [2049, 2050], [], [], [], [], [], [], [], [], []] = true := by decide +kernel
theorem zcj_w (o k : Nat) (v : Int64) (h : zlk k (zcj.getD o []) = some v) : Cond.constantLong (zcn o) k v ∈ zgw := by have := zckT_ok _ _ _ zcj_c o k v h; rwa [Nat.zero_add] at this
