/-! ODDS in both -/
def pwL (x : Int64) : Nat → Int64
  | 0 => 1
  | n + 1 => pwL x n * x
def pfS (s t i0 : Int64) (m : Nat) : Nat → Int64
  | 0 => i0
  | i + 1 => pfS s t i0 m i * (if m.testBit i = true then s else t)
def orS (s t : Int64) (v w : Nat) : Nat → Int64
  | 0 => 0
  | m + 1 => orS s t v w m + pfS s t (if w ≤ bcN m then 1 else 0) m v
def odV (P : Row) (v w : Int32) : Int32 := ((10000 * orS (P 8).toInt64 (nI 100 - P 8).toInt64 (cN v) (cN w) (2 ^ cN v)) / pwL 100 (cN v)).toInt32
def odK (v w : Int32) : Nat := if inR v 7 then (if inR w 7 then 0 else 1) else 1
def chR (v k : Nat) : Nat → Int64
  | 0 => 1
  | j + 1 => (chR v k j * ((nI v - nI k) + nI (j + 1)).toInt64) / (nI (j + 1)).toInt64
def chN (v k : Nat) : Int64 := chR v k k
def clG (v w : Nat) (g : Nat → Int64) : Nat → Int64
  | 0 => 0
  | n + 1 => clG v w g n + chN v (w + n) * g (w + n)
def smL (G : Nat → Int64) (v : Nat) : Nat → Int64
  | 0 => 0
  | m + 1 => smL G v m + G (cntN m v)
def bnS (G : Nat → Int64) : Nat → Int64
  | 0 => G 0
  | v + 1 => bnS G v + bnS (fun c => G (c + 1)) v
theorem pfS_e {s t i0 : Int64} {m : Nat} : ∀ i, pfS s t i0 m i = i0 * (pwL s (cntN m i) * pwL t (i - cntN m i))
  | 0 => by
    show i0 = i0 * (1 * 1)
    grind
  | i + 1 => by
    have l := cntN_n (s := m) i
    unfold pfS cntN
    rw [pfS_e i]
    by_cases c : m.testBit i = true
    · rw [if_pos c, if_pos c, show i + 1 - (cntN m i + 1) = i - cntN m i by omega]
      show _ = i0 * (pwL s (cntN m i) * s * _)
      grind
    · rw [if_neg c, if_neg c, Nat.add_zero, show i + 1 - cntN m i = (i - cntN m i) + 1 by omega]
      show _ = i0 * (_ * (pwL t (i - cntN m i) * t))
      grind
theorem bc_cnt : ∀ v, v < 7 → ∀ m, m < 2 ^ v → bcN m = cntN m v := by decide +kernel
theorem orS_e {s t : Int64} {v w : Nat} (hv : v < 7) : ∀ m, m ≤ 2 ^ v → orS s t v w m = smL (fun c => (if w ≤ c then 1 else 0) * (pwL s c * pwL t (v - c))) v m
  | 0, _ => rfl
  | m + 1, h => by
    unfold orS smL
    rw [orS_e hv m (by omega), pfS_e, bc_cnt v hv m (by omega)]
theorem cntN_hi {v m : Nat} (hm : m < 2 ^ v) : ∀ i, i ≤ v → cntN (2 ^ v + m) i = cntN m i
  | 0, _ => rfl
  | i + 1, hi => by
    unfold cntN
    rw [cntN_hi hm i (by omega), Nat.testBit_two_pow_add_gt (by omega)]
theorem smL_b {v : Nat} : ∀ (G : Nat → Int64), smL G v (2 ^ v) = bnS G v := by
  induction v with
  | zero =>
    intro G
    show 0 + G 0 = G 0
    grind
  | succ v ih =>
    intro G
    have e : 2 ^ (v + 1) = 2 ^ v + 2 ^ v := by rw [Nat.pow_succ]; omega
    have lo : ∀ m, m ≤ 2 ^ v → smL G (v + 1) m = smL G v m := by
      intro m
      induction m with
      | zero => exact fun _ => rfl
      | succ m im =>
        intro h
        unfold smL
        rw [im (by omega)]
        congr 2
        show cntN m v + _ = _
        rw [Nat.testBit_lt_two_pow (by omega)]
        rfl
    have hi : ∀ m, m ≤ 2 ^ v → smL G (v + 1) (2 ^ v + m) = smL G (v + 1) (2 ^ v) + smL (fun c => G (c + 1)) v m := by
      intro m
      induction m with
      | zero =>
        intro _
        show _ = smL G (v + 1) (2 ^ v) + 0
        grind
      | succ m im =>
        intro h
        show smL G (v + 1) (2 ^ v + m) + G (cntN (2 ^ v + m) (v + 1)) = smL G (v + 1) (2 ^ v) + (smL (fun c => G (c + 1)) v m + G (cntN m v + 1))
        have q : cntN (2 ^ v + m) (v + 1) = cntN m v + 1 := by
          show cntN (2 ^ v + m) v + _ = _
          rw [cntN_hi (by omega) v (Nat.le_refl _), Nat.testBit_two_pow_add_eq, Nat.testBit_lt_two_pow (by omega)]
          rfl
        rw [im (by omega), q]
        grind
    rw [e, hi _ (Nat.le_refl _), lo _ (Nat.le_refl _), ih, ih]
    rfl
theorem chN_00 : chN 0 0 = 1 := by decide +kernel
theorem chN_10 : chN 1 0 = 1 := by decide +kernel
theorem chN_11 : chN 1 1 = 1 := by decide +kernel
theorem chN_20 : chN 2 0 = 1 := by decide +kernel
theorem chN_21 : chN 2 1 = 2 := by decide +kernel
theorem chN_22 : chN 2 2 = 1 := by decide +kernel
theorem chN_30 : chN 3 0 = 1 := by decide +kernel
theorem chN_31 : chN 3 1 = 3 := by decide +kernel
theorem chN_32 : chN 3 2 = 3 := by decide +kernel
theorem chN_33 : chN 3 3 = 1 := by decide +kernel
theorem chN_40 : chN 4 0 = 1 := by decide +kernel
theorem chN_41 : chN 4 1 = 4 := by decide +kernel
theorem chN_42 : chN 4 2 = 6 := by decide +kernel
theorem chN_43 : chN 4 3 = 4 := by decide +kernel
theorem chN_44 : chN 4 4 = 1 := by decide +kernel
theorem chN_50 : chN 5 0 = 1 := by decide +kernel
theorem chN_51 : chN 5 1 = 5 := by decide +kernel
theorem chN_52 : chN 5 2 = 10 := by decide +kernel
theorem chN_53 : chN 5 3 = 10 := by decide +kernel
theorem chN_54 : chN 5 4 = 5 := by decide +kernel
theorem chN_55 : chN 5 5 = 1 := by decide +kernel
theorem chN_60 : chN 6 0 = 1 := by decide +kernel
theorem chN_61 : chN 6 1 = 6 := by decide +kernel
theorem chN_62 : chN 6 2 = 15 := by decide +kernel
theorem chN_63 : chN 6 3 = 20 := by decide +kernel
theorem chN_64 : chN 6 4 = 15 := by decide +kernel
theorem chN_65 : chN 6 5 = 6 := by decide +kernel
theorem chN_66 : chN 6 6 = 1 := by decide +kernel
theorem bnS_1 (G : Nat → Int64) : bnS G 1 = G 0 + G 1 := rfl
theorem bnS_2 (G : Nat → Int64) : bnS G 2 = G 0 + 2 * G 1 + G 2 := by
  show bnS G 1 + bnS (fun c => G (c + 1)) 1 = _
  rw [bnS_1, bnS_1]
  grind
theorem bnS_3 (G : Nat → Int64) : bnS G 3 = G 0 + 3 * G 1 + 3 * G 2 + G 3 := by
  show bnS G 2 + bnS (fun c => G (c + 1)) 2 = _
  rw [bnS_2, bnS_2]
  grind
theorem bnS_4 (G : Nat → Int64) : bnS G 4 = G 0 + 4 * G 1 + 6 * G 2 + 4 * G 3 + G 4 := by
  show bnS G 3 + bnS (fun c => G (c + 1)) 3 = _
  rw [bnS_3, bnS_3]
  grind
theorem bnS_5 (G : Nat → Int64) : bnS G 5 = G 0 + 5 * G 1 + 10 * G 2 + 10 * G 3 + 5 * G 4 + G 5 := by
  show bnS G 4 + bnS (fun c => G (c + 1)) 4 = _
  rw [bnS_4, bnS_4]
  grind
theorem bnS_6 (G : Nat → Int64) : bnS G 6 = G 0 + 6 * G 1 + 15 * G 2 + 20 * G 3 + 15 * G 4 + 6 * G 5 + G 6 := by
  show bnS G 5 + bnS (fun c => G (c + 1)) 5 = _
  rw [bnS_5, bnS_5]
  grind
