/-! ODDS: the calls -/
theorem if1 {c : Prop} [Decidable c] {x : Int64} (h : c) : (if c then (1 : Int64) else 0) * x = x := by rw [if_pos h]; grind
theorem if0 {c : Prop} [Decidable c] {x : Int64} (h : ¬ c) : (if c then (1 : Int64) else 0) * x = 0 := by rw [if_neg h]; grind
theorem clG_00 (g : Nat → Int64) : clG 0 0 g 1 = bnS (fun c => (if 0 ≤ c then 1 else 0) * g c) 0 := by
  show _ = (if 0 ≤ 0 then (1 : Int64) else 0) * g 0
  rw [if1 (c := 0 ≤ 0) (x := g 0) (by decide)]
  show (0 + chN 0 0 * g 0) = _
  rw [chN_00]
  grind
theorem clG_01 (g : Nat → Int64) : clG 0 1 g 0 = bnS (fun c => (if 1 ≤ c then 1 else 0) * g c) 0 := by
  show _ = (if 1 ≤ 0 then (1 : Int64) else 0) * g 0
  rw [if0 (c := 1 ≤ 0) (x := g 0) (by decide)]
  show (0 : Int64) = _
  grind
theorem clG_02 (g : Nat → Int64) : clG 0 2 g 0 = bnS (fun c => (if 2 ≤ c then 1 else 0) * g c) 0 := by
  show _ = (if 2 ≤ 0 then (1 : Int64) else 0) * g 0
  rw [if0 (c := 2 ≤ 0) (x := g 0) (by decide)]
  show (0 : Int64) = _
  grind
theorem clG_03 (g : Nat → Int64) : clG 0 3 g 0 = bnS (fun c => (if 3 ≤ c then 1 else 0) * g c) 0 := by
  show _ = (if 3 ≤ 0 then (1 : Int64) else 0) * g 0
  rw [if0 (c := 3 ≤ 0) (x := g 0) (by decide)]
  show (0 : Int64) = _
  grind
theorem clG_04 (g : Nat → Int64) : clG 0 4 g 0 = bnS (fun c => (if 4 ≤ c then 1 else 0) * g c) 0 := by
  show _ = (if 4 ≤ 0 then (1 : Int64) else 0) * g 0
  rw [if0 (c := 4 ≤ 0) (x := g 0) (by decide)]
  show (0 : Int64) = _
  grind
theorem clG_05 (g : Nat → Int64) : clG 0 5 g 0 = bnS (fun c => (if 5 ≤ c then 1 else 0) * g c) 0 := by
  show _ = (if 5 ≤ 0 then (1 : Int64) else 0) * g 0
  rw [if0 (c := 5 ≤ 0) (x := g 0) (by decide)]
  show (0 : Int64) = _
  grind
theorem clG_06 (g : Nat → Int64) : clG 0 6 g 0 = bnS (fun c => (if 6 ≤ c then 1 else 0) * g c) 0 := by
  show _ = (if 6 ≤ 0 then (1 : Int64) else 0) * g 0
  rw [if0 (c := 6 ≤ 0) (x := g 0) (by decide)]
  show (0 : Int64) = _
  grind
theorem clG_10 (g : Nat → Int64) : clG 1 0 g 2 = bnS (fun c => (if 0 ≤ c then 1 else 0) * g c) 1 := by
  rw [bnS_1]
  rw [if1 (c := 0 ≤ 0) (x := g 0) (by decide)]
  rw [if1 (c := 0 ≤ 1) (x := g 1) (by decide)]
  show ((0 + chN 1 0 * g 0) + chN 1 1 * g 1) = _
  rw [chN_10, chN_11]
  grind
theorem clG_11 (g : Nat → Int64) : clG 1 1 g 1 = bnS (fun c => (if 1 ≤ c then 1 else 0) * g c) 1 := by
  rw [bnS_1]
  rw [if0 (c := 1 ≤ 0) (x := g 0) (by decide)]
  rw [if1 (c := 1 ≤ 1) (x := g 1) (by decide)]
  show (0 + chN 1 1 * g 1) = _
  rw [chN_11]
  grind
theorem clG_12 (g : Nat → Int64) : clG 1 2 g 0 = bnS (fun c => (if 2 ≤ c then 1 else 0) * g c) 1 := by
  rw [bnS_1]
  rw [if0 (c := 2 ≤ 0) (x := g 0) (by decide)]
  rw [if0 (c := 2 ≤ 1) (x := g 1) (by decide)]
  show (0 : Int64) = _
  grind
theorem clG_13 (g : Nat → Int64) : clG 1 3 g 0 = bnS (fun c => (if 3 ≤ c then 1 else 0) * g c) 1 := by
  rw [bnS_1]
  rw [if0 (c := 3 ≤ 0) (x := g 0) (by decide)]
  rw [if0 (c := 3 ≤ 1) (x := g 1) (by decide)]
  show (0 : Int64) = _
  grind
theorem clG_14 (g : Nat → Int64) : clG 1 4 g 0 = bnS (fun c => (if 4 ≤ c then 1 else 0) * g c) 1 := by
  rw [bnS_1]
  rw [if0 (c := 4 ≤ 0) (x := g 0) (by decide)]
  rw [if0 (c := 4 ≤ 1) (x := g 1) (by decide)]
  show (0 : Int64) = _
  grind
theorem clG_15 (g : Nat → Int64) : clG 1 5 g 0 = bnS (fun c => (if 5 ≤ c then 1 else 0) * g c) 1 := by
  rw [bnS_1]
  rw [if0 (c := 5 ≤ 0) (x := g 0) (by decide)]
  rw [if0 (c := 5 ≤ 1) (x := g 1) (by decide)]
  show (0 : Int64) = _
  grind
theorem clG_16 (g : Nat → Int64) : clG 1 6 g 0 = bnS (fun c => (if 6 ≤ c then 1 else 0) * g c) 1 := by
  rw [bnS_1]
  rw [if0 (c := 6 ≤ 0) (x := g 0) (by decide)]
  rw [if0 (c := 6 ≤ 1) (x := g 1) (by decide)]
  show (0 : Int64) = _
  grind
theorem clG_20 (g : Nat → Int64) : clG 2 0 g 3 = bnS (fun c => (if 0 ≤ c then 1 else 0) * g c) 2 := by
  rw [bnS_2]
  rw [if1 (c := 0 ≤ 0) (x := g 0) (by decide)]
  rw [if1 (c := 0 ≤ 1) (x := g 1) (by decide)]
  rw [if1 (c := 0 ≤ 2) (x := g 2) (by decide)]
  show (((0 + chN 2 0 * g 0) + chN 2 1 * g 1) + chN 2 2 * g 2) = _
  rw [chN_20, chN_21, chN_22]
  grind
theorem clG_21 (g : Nat → Int64) : clG 2 1 g 2 = bnS (fun c => (if 1 ≤ c then 1 else 0) * g c) 2 := by
  rw [bnS_2]
  rw [if0 (c := 1 ≤ 0) (x := g 0) (by decide)]
  rw [if1 (c := 1 ≤ 1) (x := g 1) (by decide)]
  rw [if1 (c := 1 ≤ 2) (x := g 2) (by decide)]
  show ((0 + chN 2 1 * g 1) + chN 2 2 * g 2) = _
  rw [chN_21, chN_22]
  grind
theorem clG_22 (g : Nat → Int64) : clG 2 2 g 1 = bnS (fun c => (if 2 ≤ c then 1 else 0) * g c) 2 := by
  rw [bnS_2]
  rw [if0 (c := 2 ≤ 0) (x := g 0) (by decide)]
  rw [if0 (c := 2 ≤ 1) (x := g 1) (by decide)]
  rw [if1 (c := 2 ≤ 2) (x := g 2) (by decide)]
  show (0 + chN 2 2 * g 2) = _
  rw [chN_22]
  grind
theorem clG_23 (g : Nat → Int64) : clG 2 3 g 0 = bnS (fun c => (if 3 ≤ c then 1 else 0) * g c) 2 := by
  rw [bnS_2]
  rw [if0 (c := 3 ≤ 0) (x := g 0) (by decide)]
  rw [if0 (c := 3 ≤ 1) (x := g 1) (by decide)]
  rw [if0 (c := 3 ≤ 2) (x := g 2) (by decide)]
  show (0 : Int64) = _
  grind
theorem clG_24 (g : Nat → Int64) : clG 2 4 g 0 = bnS (fun c => (if 4 ≤ c then 1 else 0) * g c) 2 := by
  rw [bnS_2]
  rw [if0 (c := 4 ≤ 0) (x := g 0) (by decide)]
  rw [if0 (c := 4 ≤ 1) (x := g 1) (by decide)]
  rw [if0 (c := 4 ≤ 2) (x := g 2) (by decide)]
  show (0 : Int64) = _
  grind
theorem clG_25 (g : Nat → Int64) : clG 2 5 g 0 = bnS (fun c => (if 5 ≤ c then 1 else 0) * g c) 2 := by
  rw [bnS_2]
  rw [if0 (c := 5 ≤ 0) (x := g 0) (by decide)]
  rw [if0 (c := 5 ≤ 1) (x := g 1) (by decide)]
  rw [if0 (c := 5 ≤ 2) (x := g 2) (by decide)]
  show (0 : Int64) = _
  grind
theorem clG_26 (g : Nat → Int64) : clG 2 6 g 0 = bnS (fun c => (if 6 ≤ c then 1 else 0) * g c) 2 := by
  rw [bnS_2]
  rw [if0 (c := 6 ≤ 0) (x := g 0) (by decide)]
  rw [if0 (c := 6 ≤ 1) (x := g 1) (by decide)]
  rw [if0 (c := 6 ≤ 2) (x := g 2) (by decide)]
  show (0 : Int64) = _
  grind
theorem clG_30 (g : Nat → Int64) : clG 3 0 g 4 = bnS (fun c => (if 0 ≤ c then 1 else 0) * g c) 3 := by
  rw [bnS_3]
  rw [if1 (c := 0 ≤ 0) (x := g 0) (by decide)]
  rw [if1 (c := 0 ≤ 1) (x := g 1) (by decide)]
  rw [if1 (c := 0 ≤ 2) (x := g 2) (by decide)]
  rw [if1 (c := 0 ≤ 3) (x := g 3) (by decide)]
  show ((((0 + chN 3 0 * g 0) + chN 3 1 * g 1) + chN 3 2 * g 2) + chN 3 3 * g 3) = _
  rw [chN_30, chN_31, chN_32, chN_33]
  grind
theorem clG_31 (g : Nat → Int64) : clG 3 1 g 3 = bnS (fun c => (if 1 ≤ c then 1 else 0) * g c) 3 := by
  rw [bnS_3]
  rw [if0 (c := 1 ≤ 0) (x := g 0) (by decide)]
  rw [if1 (c := 1 ≤ 1) (x := g 1) (by decide)]
  rw [if1 (c := 1 ≤ 2) (x := g 2) (by decide)]
  rw [if1 (c := 1 ≤ 3) (x := g 3) (by decide)]
  show (((0 + chN 3 1 * g 1) + chN 3 2 * g 2) + chN 3 3 * g 3) = _
  rw [chN_31, chN_32, chN_33]
  grind
theorem clG_32 (g : Nat → Int64) : clG 3 2 g 2 = bnS (fun c => (if 2 ≤ c then 1 else 0) * g c) 3 := by
  rw [bnS_3]
  rw [if0 (c := 2 ≤ 0) (x := g 0) (by decide)]
  rw [if0 (c := 2 ≤ 1) (x := g 1) (by decide)]
  rw [if1 (c := 2 ≤ 2) (x := g 2) (by decide)]
  rw [if1 (c := 2 ≤ 3) (x := g 3) (by decide)]
  show ((0 + chN 3 2 * g 2) + chN 3 3 * g 3) = _
  rw [chN_32, chN_33]
  grind
theorem clG_33 (g : Nat → Int64) : clG 3 3 g 1 = bnS (fun c => (if 3 ≤ c then 1 else 0) * g c) 3 := by
  rw [bnS_3]
  rw [if0 (c := 3 ≤ 0) (x := g 0) (by decide)]
  rw [if0 (c := 3 ≤ 1) (x := g 1) (by decide)]
  rw [if0 (c := 3 ≤ 2) (x := g 2) (by decide)]
  rw [if1 (c := 3 ≤ 3) (x := g 3) (by decide)]
  show (0 + chN 3 3 * g 3) = _
  rw [chN_33]
  grind
theorem clG_34 (g : Nat → Int64) : clG 3 4 g 0 = bnS (fun c => (if 4 ≤ c then 1 else 0) * g c) 3 := by
  rw [bnS_3]
  rw [if0 (c := 4 ≤ 0) (x := g 0) (by decide)]
  rw [if0 (c := 4 ≤ 1) (x := g 1) (by decide)]
  rw [if0 (c := 4 ≤ 2) (x := g 2) (by decide)]
  rw [if0 (c := 4 ≤ 3) (x := g 3) (by decide)]
  show (0 : Int64) = _
  grind
theorem clG_35 (g : Nat → Int64) : clG 3 5 g 0 = bnS (fun c => (if 5 ≤ c then 1 else 0) * g c) 3 := by
  rw [bnS_3]
  rw [if0 (c := 5 ≤ 0) (x := g 0) (by decide)]
  rw [if0 (c := 5 ≤ 1) (x := g 1) (by decide)]
  rw [if0 (c := 5 ≤ 2) (x := g 2) (by decide)]
  rw [if0 (c := 5 ≤ 3) (x := g 3) (by decide)]
  show (0 : Int64) = _
  grind
theorem clG_36 (g : Nat → Int64) : clG 3 6 g 0 = bnS (fun c => (if 6 ≤ c then 1 else 0) * g c) 3 := by
  rw [bnS_3]
  rw [if0 (c := 6 ≤ 0) (x := g 0) (by decide)]
  rw [if0 (c := 6 ≤ 1) (x := g 1) (by decide)]
  rw [if0 (c := 6 ≤ 2) (x := g 2) (by decide)]
  rw [if0 (c := 6 ≤ 3) (x := g 3) (by decide)]
  show (0 : Int64) = _
  grind
theorem clG_40 (g : Nat → Int64) : clG 4 0 g 5 = bnS (fun c => (if 0 ≤ c then 1 else 0) * g c) 4 := by
  rw [bnS_4]
  rw [if1 (c := 0 ≤ 0) (x := g 0) (by decide)]
  rw [if1 (c := 0 ≤ 1) (x := g 1) (by decide)]
  rw [if1 (c := 0 ≤ 2) (x := g 2) (by decide)]
  rw [if1 (c := 0 ≤ 3) (x := g 3) (by decide)]
  rw [if1 (c := 0 ≤ 4) (x := g 4) (by decide)]
  show (((((0 + chN 4 0 * g 0) + chN 4 1 * g 1) + chN 4 2 * g 2) + chN 4 3 * g 3) + chN 4 4 * g 4) = _
  rw [chN_40, chN_41, chN_42, chN_43, chN_44]
  grind
theorem clG_41 (g : Nat → Int64) : clG 4 1 g 4 = bnS (fun c => (if 1 ≤ c then 1 else 0) * g c) 4 := by
  rw [bnS_4]
  rw [if0 (c := 1 ≤ 0) (x := g 0) (by decide)]
  rw [if1 (c := 1 ≤ 1) (x := g 1) (by decide)]
  rw [if1 (c := 1 ≤ 2) (x := g 2) (by decide)]
  rw [if1 (c := 1 ≤ 3) (x := g 3) (by decide)]
  rw [if1 (c := 1 ≤ 4) (x := g 4) (by decide)]
  show ((((0 + chN 4 1 * g 1) + chN 4 2 * g 2) + chN 4 3 * g 3) + chN 4 4 * g 4) = _
  rw [chN_41, chN_42, chN_43, chN_44]
  grind
theorem clG_42 (g : Nat → Int64) : clG 4 2 g 3 = bnS (fun c => (if 2 ≤ c then 1 else 0) * g c) 4 := by
  rw [bnS_4]
  rw [if0 (c := 2 ≤ 0) (x := g 0) (by decide)]
  rw [if0 (c := 2 ≤ 1) (x := g 1) (by decide)]
  rw [if1 (c := 2 ≤ 2) (x := g 2) (by decide)]
  rw [if1 (c := 2 ≤ 3) (x := g 3) (by decide)]
  rw [if1 (c := 2 ≤ 4) (x := g 4) (by decide)]
  show (((0 + chN 4 2 * g 2) + chN 4 3 * g 3) + chN 4 4 * g 4) = _
  rw [chN_42, chN_43, chN_44]
  grind
theorem clG_43 (g : Nat → Int64) : clG 4 3 g 2 = bnS (fun c => (if 3 ≤ c then 1 else 0) * g c) 4 := by
  rw [bnS_4]
  rw [if0 (c := 3 ≤ 0) (x := g 0) (by decide)]
  rw [if0 (c := 3 ≤ 1) (x := g 1) (by decide)]
  rw [if0 (c := 3 ≤ 2) (x := g 2) (by decide)]
  rw [if1 (c := 3 ≤ 3) (x := g 3) (by decide)]
  rw [if1 (c := 3 ≤ 4) (x := g 4) (by decide)]
  show ((0 + chN 4 3 * g 3) + chN 4 4 * g 4) = _
  rw [chN_43, chN_44]
  grind
theorem clG_44 (g : Nat → Int64) : clG 4 4 g 1 = bnS (fun c => (if 4 ≤ c then 1 else 0) * g c) 4 := by
  rw [bnS_4]
  rw [if0 (c := 4 ≤ 0) (x := g 0) (by decide)]
  rw [if0 (c := 4 ≤ 1) (x := g 1) (by decide)]
  rw [if0 (c := 4 ≤ 2) (x := g 2) (by decide)]
  rw [if0 (c := 4 ≤ 3) (x := g 3) (by decide)]
  rw [if1 (c := 4 ≤ 4) (x := g 4) (by decide)]
  show (0 + chN 4 4 * g 4) = _
  rw [chN_44]
  grind
theorem clG_45 (g : Nat → Int64) : clG 4 5 g 0 = bnS (fun c => (if 5 ≤ c then 1 else 0) * g c) 4 := by
  rw [bnS_4]
  rw [if0 (c := 5 ≤ 0) (x := g 0) (by decide)]
  rw [if0 (c := 5 ≤ 1) (x := g 1) (by decide)]
  rw [if0 (c := 5 ≤ 2) (x := g 2) (by decide)]
  rw [if0 (c := 5 ≤ 3) (x := g 3) (by decide)]
  rw [if0 (c := 5 ≤ 4) (x := g 4) (by decide)]
  show (0 : Int64) = _
  grind
theorem clG_46 (g : Nat → Int64) : clG 4 6 g 0 = bnS (fun c => (if 6 ≤ c then 1 else 0) * g c) 4 := by
  rw [bnS_4]
  rw [if0 (c := 6 ≤ 0) (x := g 0) (by decide)]
  rw [if0 (c := 6 ≤ 1) (x := g 1) (by decide)]
  rw [if0 (c := 6 ≤ 2) (x := g 2) (by decide)]
  rw [if0 (c := 6 ≤ 3) (x := g 3) (by decide)]
  rw [if0 (c := 6 ≤ 4) (x := g 4) (by decide)]
  show (0 : Int64) = _
  grind
theorem clG_50 (g : Nat → Int64) : clG 5 0 g 6 = bnS (fun c => (if 0 ≤ c then 1 else 0) * g c) 5 := by
  rw [bnS_5]
  rw [if1 (c := 0 ≤ 0) (x := g 0) (by decide)]
  rw [if1 (c := 0 ≤ 1) (x := g 1) (by decide)]
  rw [if1 (c := 0 ≤ 2) (x := g 2) (by decide)]
  rw [if1 (c := 0 ≤ 3) (x := g 3) (by decide)]
  rw [if1 (c := 0 ≤ 4) (x := g 4) (by decide)]
  rw [if1 (c := 0 ≤ 5) (x := g 5) (by decide)]
  show ((((((0 + chN 5 0 * g 0) + chN 5 1 * g 1) + chN 5 2 * g 2) + chN 5 3 * g 3) + chN 5 4 * g 4) + chN 5 5 * g 5) = _
  rw [chN_50, chN_51, chN_52, chN_53, chN_54, chN_55]
  grind
theorem clG_51 (g : Nat → Int64) : clG 5 1 g 5 = bnS (fun c => (if 1 ≤ c then 1 else 0) * g c) 5 := by
  rw [bnS_5]
  rw [if0 (c := 1 ≤ 0) (x := g 0) (by decide)]
  rw [if1 (c := 1 ≤ 1) (x := g 1) (by decide)]
  rw [if1 (c := 1 ≤ 2) (x := g 2) (by decide)]
  rw [if1 (c := 1 ≤ 3) (x := g 3) (by decide)]
  rw [if1 (c := 1 ≤ 4) (x := g 4) (by decide)]
  rw [if1 (c := 1 ≤ 5) (x := g 5) (by decide)]
  show (((((0 + chN 5 1 * g 1) + chN 5 2 * g 2) + chN 5 3 * g 3) + chN 5 4 * g 4) + chN 5 5 * g 5) = _
  rw [chN_51, chN_52, chN_53, chN_54, chN_55]
  grind
theorem clG_52 (g : Nat → Int64) : clG 5 2 g 4 = bnS (fun c => (if 2 ≤ c then 1 else 0) * g c) 5 := by
  rw [bnS_5]
  rw [if0 (c := 2 ≤ 0) (x := g 0) (by decide)]
  rw [if0 (c := 2 ≤ 1) (x := g 1) (by decide)]
  rw [if1 (c := 2 ≤ 2) (x := g 2) (by decide)]
  rw [if1 (c := 2 ≤ 3) (x := g 3) (by decide)]
  rw [if1 (c := 2 ≤ 4) (x := g 4) (by decide)]
  rw [if1 (c := 2 ≤ 5) (x := g 5) (by decide)]
  show ((((0 + chN 5 2 * g 2) + chN 5 3 * g 3) + chN 5 4 * g 4) + chN 5 5 * g 5) = _
  rw [chN_52, chN_53, chN_54, chN_55]
  grind
theorem clG_53 (g : Nat → Int64) : clG 5 3 g 3 = bnS (fun c => (if 3 ≤ c then 1 else 0) * g c) 5 := by
  rw [bnS_5]
  rw [if0 (c := 3 ≤ 0) (x := g 0) (by decide)]
  rw [if0 (c := 3 ≤ 1) (x := g 1) (by decide)]
  rw [if0 (c := 3 ≤ 2) (x := g 2) (by decide)]
  rw [if1 (c := 3 ≤ 3) (x := g 3) (by decide)]
  rw [if1 (c := 3 ≤ 4) (x := g 4) (by decide)]
  rw [if1 (c := 3 ≤ 5) (x := g 5) (by decide)]
  show (((0 + chN 5 3 * g 3) + chN 5 4 * g 4) + chN 5 5 * g 5) = _
  rw [chN_53, chN_54, chN_55]
  grind
theorem clG_54 (g : Nat → Int64) : clG 5 4 g 2 = bnS (fun c => (if 4 ≤ c then 1 else 0) * g c) 5 := by
  rw [bnS_5]
  rw [if0 (c := 4 ≤ 0) (x := g 0) (by decide)]
  rw [if0 (c := 4 ≤ 1) (x := g 1) (by decide)]
  rw [if0 (c := 4 ≤ 2) (x := g 2) (by decide)]
  rw [if0 (c := 4 ≤ 3) (x := g 3) (by decide)]
  rw [if1 (c := 4 ≤ 4) (x := g 4) (by decide)]
  rw [if1 (c := 4 ≤ 5) (x := g 5) (by decide)]
  show ((0 + chN 5 4 * g 4) + chN 5 5 * g 5) = _
  rw [chN_54, chN_55]
  grind
theorem clG_55 (g : Nat → Int64) : clG 5 5 g 1 = bnS (fun c => (if 5 ≤ c then 1 else 0) * g c) 5 := by
  rw [bnS_5]
  rw [if0 (c := 5 ≤ 0) (x := g 0) (by decide)]
  rw [if0 (c := 5 ≤ 1) (x := g 1) (by decide)]
  rw [if0 (c := 5 ≤ 2) (x := g 2) (by decide)]
  rw [if0 (c := 5 ≤ 3) (x := g 3) (by decide)]
  rw [if0 (c := 5 ≤ 4) (x := g 4) (by decide)]
  rw [if1 (c := 5 ≤ 5) (x := g 5) (by decide)]
  show (0 + chN 5 5 * g 5) = _
  rw [chN_55]
  grind
theorem clG_56 (g : Nat → Int64) : clG 5 6 g 0 = bnS (fun c => (if 6 ≤ c then 1 else 0) * g c) 5 := by
  rw [bnS_5]
  rw [if0 (c := 6 ≤ 0) (x := g 0) (by decide)]
  rw [if0 (c := 6 ≤ 1) (x := g 1) (by decide)]
  rw [if0 (c := 6 ≤ 2) (x := g 2) (by decide)]
  rw [if0 (c := 6 ≤ 3) (x := g 3) (by decide)]
  rw [if0 (c := 6 ≤ 4) (x := g 4) (by decide)]
  rw [if0 (c := 6 ≤ 5) (x := g 5) (by decide)]
  show (0 : Int64) = _
  grind
theorem clG_60 (g : Nat → Int64) : clG 6 0 g 7 = bnS (fun c => (if 0 ≤ c then 1 else 0) * g c) 6 := by
  rw [bnS_6]
  rw [if1 (c := 0 ≤ 0) (x := g 0) (by decide)]
  rw [if1 (c := 0 ≤ 1) (x := g 1) (by decide)]
  rw [if1 (c := 0 ≤ 2) (x := g 2) (by decide)]
  rw [if1 (c := 0 ≤ 3) (x := g 3) (by decide)]
  rw [if1 (c := 0 ≤ 4) (x := g 4) (by decide)]
  rw [if1 (c := 0 ≤ 5) (x := g 5) (by decide)]
  rw [if1 (c := 0 ≤ 6) (x := g 6) (by decide)]
  show (((((((0 + chN 6 0 * g 0) + chN 6 1 * g 1) + chN 6 2 * g 2) + chN 6 3 * g 3) + chN 6 4 * g 4) + chN 6 5 * g 5) + chN 6 6 * g 6) = _
  rw [chN_60, chN_61, chN_62, chN_63, chN_64, chN_65, chN_66]
  grind
theorem clG_61 (g : Nat → Int64) : clG 6 1 g 6 = bnS (fun c => (if 1 ≤ c then 1 else 0) * g c) 6 := by
  rw [bnS_6]
  rw [if0 (c := 1 ≤ 0) (x := g 0) (by decide)]
  rw [if1 (c := 1 ≤ 1) (x := g 1) (by decide)]
  rw [if1 (c := 1 ≤ 2) (x := g 2) (by decide)]
  rw [if1 (c := 1 ≤ 3) (x := g 3) (by decide)]
  rw [if1 (c := 1 ≤ 4) (x := g 4) (by decide)]
  rw [if1 (c := 1 ≤ 5) (x := g 5) (by decide)]
  rw [if1 (c := 1 ≤ 6) (x := g 6) (by decide)]
  show ((((((0 + chN 6 1 * g 1) + chN 6 2 * g 2) + chN 6 3 * g 3) + chN 6 4 * g 4) + chN 6 5 * g 5) + chN 6 6 * g 6) = _
  rw [chN_61, chN_62, chN_63, chN_64, chN_65, chN_66]
  grind
theorem clG_62 (g : Nat → Int64) : clG 6 2 g 5 = bnS (fun c => (if 2 ≤ c then 1 else 0) * g c) 6 := by
  rw [bnS_6]
  rw [if0 (c := 2 ≤ 0) (x := g 0) (by decide)]
  rw [if0 (c := 2 ≤ 1) (x := g 1) (by decide)]
  rw [if1 (c := 2 ≤ 2) (x := g 2) (by decide)]
  rw [if1 (c := 2 ≤ 3) (x := g 3) (by decide)]
  rw [if1 (c := 2 ≤ 4) (x := g 4) (by decide)]
  rw [if1 (c := 2 ≤ 5) (x := g 5) (by decide)]
  rw [if1 (c := 2 ≤ 6) (x := g 6) (by decide)]
  show (((((0 + chN 6 2 * g 2) + chN 6 3 * g 3) + chN 6 4 * g 4) + chN 6 5 * g 5) + chN 6 6 * g 6) = _
  rw [chN_62, chN_63, chN_64, chN_65, chN_66]
  grind
theorem clG_63 (g : Nat → Int64) : clG 6 3 g 4 = bnS (fun c => (if 3 ≤ c then 1 else 0) * g c) 6 := by
  rw [bnS_6]
  rw [if0 (c := 3 ≤ 0) (x := g 0) (by decide)]
  rw [if0 (c := 3 ≤ 1) (x := g 1) (by decide)]
  rw [if0 (c := 3 ≤ 2) (x := g 2) (by decide)]
  rw [if1 (c := 3 ≤ 3) (x := g 3) (by decide)]
  rw [if1 (c := 3 ≤ 4) (x := g 4) (by decide)]
  rw [if1 (c := 3 ≤ 5) (x := g 5) (by decide)]
  rw [if1 (c := 3 ≤ 6) (x := g 6) (by decide)]
  show ((((0 + chN 6 3 * g 3) + chN 6 4 * g 4) + chN 6 5 * g 5) + chN 6 6 * g 6) = _
  rw [chN_63, chN_64, chN_65, chN_66]
  grind
theorem clG_64 (g : Nat → Int64) : clG 6 4 g 3 = bnS (fun c => (if 4 ≤ c then 1 else 0) * g c) 6 := by
  rw [bnS_6]
  rw [if0 (c := 4 ≤ 0) (x := g 0) (by decide)]
  rw [if0 (c := 4 ≤ 1) (x := g 1) (by decide)]
  rw [if0 (c := 4 ≤ 2) (x := g 2) (by decide)]
  rw [if0 (c := 4 ≤ 3) (x := g 3) (by decide)]
  rw [if1 (c := 4 ≤ 4) (x := g 4) (by decide)]
  rw [if1 (c := 4 ≤ 5) (x := g 5) (by decide)]
  rw [if1 (c := 4 ≤ 6) (x := g 6) (by decide)]
  show (((0 + chN 6 4 * g 4) + chN 6 5 * g 5) + chN 6 6 * g 6) = _
  rw [chN_64, chN_65, chN_66]
  grind
theorem clG_65 (g : Nat → Int64) : clG 6 5 g 2 = bnS (fun c => (if 5 ≤ c then 1 else 0) * g c) 6 := by
  rw [bnS_6]
  rw [if0 (c := 5 ≤ 0) (x := g 0) (by decide)]
  rw [if0 (c := 5 ≤ 1) (x := g 1) (by decide)]
  rw [if0 (c := 5 ≤ 2) (x := g 2) (by decide)]
  rw [if0 (c := 5 ≤ 3) (x := g 3) (by decide)]
  rw [if0 (c := 5 ≤ 4) (x := g 4) (by decide)]
  rw [if1 (c := 5 ≤ 5) (x := g 5) (by decide)]
  rw [if1 (c := 5 ≤ 6) (x := g 6) (by decide)]
  show ((0 + chN 6 5 * g 5) + chN 6 6 * g 6) = _
  rw [chN_65, chN_66]
  grind
theorem clG_66 (g : Nat → Int64) : clG 6 6 g 1 = bnS (fun c => (if 6 ≤ c then 1 else 0) * g c) 6 := by
  rw [bnS_6]
  rw [if0 (c := 6 ≤ 0) (x := g 0) (by decide)]
  rw [if0 (c := 6 ≤ 1) (x := g 1) (by decide)]
  rw [if0 (c := 6 ≤ 2) (x := g 2) (by decide)]
  rw [if0 (c := 6 ≤ 3) (x := g 3) (by decide)]
  rw [if0 (c := 6 ≤ 4) (x := g 4) (by decide)]
  rw [if0 (c := 6 ≤ 5) (x := g 5) (by decide)]
  rw [if1 (c := 6 ≤ 6) (x := g 6) (by decide)]
  show (0 + chN 6 6 * g 6) = _
  rw [chN_66]
  grind
theorem clG_e {v w : Nat} (hv : v < 7) (hw : w < 7) (g : Nat → Int64) : clG v w g (v + 1 - w) = bnS (fun c => (if w ≤ c then 1 else 0) * g c) v := by
  rcases (by omega : v = 0 ∨ v = 1 ∨ v = 2 ∨ v = 3 ∨ v = 4 ∨ v = 5 ∨ v = 6) with rfl | rfl | rfl | rfl | rfl | rfl | rfl <;> rcases (by omega : w = 0 ∨ w = 1 ∨ w = 2 ∨ w = 3 ∨ w = 4 ∨ w = 5 ∨ w = 6) with rfl | rfl | rfl | rfl | rfl | rfl | rfl
  · exact clG_00 g
  · exact clG_01 g
  · exact clG_02 g
  · exact clG_03 g
  · exact clG_04 g
  · exact clG_05 g
  · exact clG_06 g
  · exact clG_10 g
  · exact clG_11 g
  · exact clG_12 g
  · exact clG_13 g
  · exact clG_14 g
  · exact clG_15 g
  · exact clG_16 g
  · exact clG_20 g
  · exact clG_21 g
  · exact clG_22 g
  · exact clG_23 g
  · exact clG_24 g
  · exact clG_25 g
  · exact clG_26 g
  · exact clG_30 g
  · exact clG_31 g
  · exact clG_32 g
  · exact clG_33 g
  · exact clG_34 g
  · exact clG_35 g
  · exact clG_36 g
  · exact clG_40 g
  · exact clG_41 g
  · exact clG_42 g
  · exact clG_43 g
  · exact clG_44 g
  · exact clG_45 g
  · exact clG_46 g
  · exact clG_50 g
  · exact clG_51 g
  · exact clG_52 g
  · exact clG_53 g
  · exact clG_54 g
  · exact clG_55 g
  · exact clG_56 g
  · exact clG_60 g
  · exact clG_61 g
  · exact clG_62 g
  · exact clG_63 g
  · exact clG_64 g
  · exact clG_65 g
  · exact clG_66 g
theorem odds_eq {s t : Int64} {v w : Nat} (hv : v < 7) (hw : w < 7) : clG v w (fun c => pwL s c * pwL t (v - c)) (v + 1 - w) = orS s t v w (2 ^ v) := by
  rw [orS_e hv _ (Nat.le_refl _), smL_b, clG_e hv hw]
