/-! THE REFERENCE'S SMALL METHODS -/
def isB (s k : Int32) : Bool := decide ((s >>> (k &&& 31)) &&& nI 1 = nI 1)
theorem isB_d {s k : Int32} : ((s >>> (k &&& 31)) &&& nI 1 = nI 1) = (isB s k = true) := by unfold isB; simp
theorem isB_r {s k : Int32} (h : isB s k) : (s >>> (k &&& 31)) &&& nI 1 = nI 1 := by rw [isB_d]; exact h
theorem isB_n {s k : Int32} (h : ¬ isB s k) : ¬ (s >>> (k &&& 31)) &&& nI 1 = nI 1 := by rw [isB_d]; exact h
abbrev inR (v : Int32) (n : Nat) : Prop := ¬ v < 0 ∧ v < nI n
theorem inR_iff {v : Int32} {n : Nat} (hn : n < 2 ^ 31) : inR v n ↔ ∃ k, k < n ∧ v = nI k := by
  constructor
  · intro ⟨h1, h2⟩
    obtain ⟨j, hj, rfl⟩ := nI_of h1
    exact ⟨j, (nI_ltI hj hn).mp h2, rfl⟩
  · rintro ⟨k, hk, rfl⟩
    exact ⟨nI_pos (by omega), nI_lt hk hn⟩
theorem inR_nI {k n : Nat} (hk : k < n) (hn : n < 2 ^ 31) : inR (nI k) n := (inR_iff hn).mpr ⟨k, hk, rfl⟩
theorem not_inR {v : Int32} {n : Nat} : ¬ inR v n ↔ v < 0 ∨ nI n ≤ v := by
  unfold inR
  rw [Int32.lt_iff_toInt_lt, Int32.lt_iff_toInt_lt, Int32.le_iff_toInt_le]
  omega
abbrev isin (v a b : Int32) : Prop := a ≤ v ∧ v ≤ b
section
variable {z : ZE} {d : Nat} {h : Hp} {R : Nat}
theorem T_M_isIn {v x y : Int32} : ev z d 174 0 [.int v, .int x, .int y] [] h = some (.inl (some (.int (bI (isin v x y)))), h) := by
  rw [S_M_isIn_0]
  by_cases h1 : v < x
  · rw [if_pos h1, bI_f (fun e => Int32.not_le.mpr h1 e.1)]
  · rw [if_neg h1]
    by_cases h2 : y < v
    · rw [if_pos h2, bI_f (fun e => Int32.not_le.mpr h2 e.2)]
    · rw [if_neg h2, bI_t ⟨Int32.not_lt.mp h1, Int32.not_lt.mp h2⟩]
theorem T_M_lesser {x y : Int32} : ev z d 175 0 [.int x, .int y] [] h = some (.inl (some (.int (if x < y then x else y))), h) := by
  rw [S_M_lesser_0]
  by_cases h1 : x < y
  · rw [if_neg (Int32.not_le.mpr h1), if_pos h1]
  · rw [if_pos (Int32.not_lt.mp h1), if_neg h1]
theorem T_M_greater {x y : Int32} : ev z d 176 0 [.int x, .int y] [] h = some (.inl (some (.int (if y < x then x else y))), h) := by
  rw [S_M_greater_0]
  by_cases h1 : y < x
  · rw [if_neg (Int32.not_le.mpr h1), if_pos h1]
  · rw [if_pos (Int32.not_lt.mp h1), if_neg h1]
theorem T_M_isOf {s k : Int32} : ev z d 177 0 [.int s, .int k] [] h = some (.inl (some (.int (bI (isB s k)))), h) := by
  rw [S_M_isOf_0]
  simp only [isB_d]
  unfold bI
  split <;> rfl
theorem T_M_of (hR : RSk h R) {k c : Nat} (hk : 45 + 12 * k + c < 781) : ev z d 179 0 [.ref R, .int (nI k), .int (nI c)] [] h = some (.inl (some (.int (zI h (R + 1) (45 + 12 * k + c)))), h) := by
  rw [S_M_of_0 hR, pk_mul, nI_add, nI_add, ix_n hk (by decide)]
theorem T_M_lays (hR : RSk h R) {k c : Nat} {v : Int32} (hk : 45 + 12 * k + c < 781) : ev z d 180 0 [.ref R, .int (nI k), .int (nI c), .int v] [] h = some (.inl none, zwI h (R + 1) (45 + 12 * k + c) v) := by
  rw [S_M_lays_0 hR, pk_mul, nI_add, nI_add, ix_n hk (by decide)]
theorem T_M_ofInk (hR : RSk h R) {k c : Nat} (hk : 27 + 3 * k + c < 781) : ev z d 181 0 [.ref R, .int (nI k), .int (nI c)] [] h = some (.inl (some (.int (zI h (R + 1) (27 + 3 * k + c)))), h) := by
  rw [S_M_ofInk_0 hR, pk_mul, nI_add, nI_add, ix_n hk (by decide)]
theorem T_M_coins (hR : RSk h R) {k : Nat} (hk : 15 + 2 * k < 781) : ev z d 182 0 [.ref R, .int (nI k)] [] h = some (.inl (some (.int (zI h (R + 1) (15 + 2 * k)))), h) := by
  rw [S_M_coins_0 hR, pk_mul, nI_add, ix_n hk (by decide)]
theorem isin_R {v : Int32} {n : Nat} (hn : n < 2 ^ 31) : isin v (nI 0) (nI n - nI 1) ↔ inR v n := by
  unfold isin inR
  rw [Int32.lt_iff_toInt_lt, Int32.lt_iff_toInt_lt, Int32.le_iff_toInt_le, Int32.le_iff_toInt_le, nI_toInt hn, Int32.toInt_sub, nI_toInt hn, nI_toInt (show 1 < 2 ^ 31 by decide), nI_toInt (show 0 < 2 ^ 31 by decide), Int32.toInt_zero]
  rw [Int.bmod_eq_of_le (by omega) (by omega)]
  omega
theorem bI_cg {p q : Prop} [Decidable p] [Decidable q] (e : p ↔ q) : bI p = bI q := by
  unfold bI
  by_cases hp : p
  · rw [if_pos hp, if_pos (e.mp hp)]
  · rw [if_neg hp, if_neg (fun hq => hp (e.mpr hq))]
theorem T_M_isParty (hR : RSk h R) {v : Int32} {n : Nat} (hn : n < 2 ^ 31) (hP : zI h (R + 1) 3 = nI n) : ev z d 183 0 [.ref R, .int v] [] h = some (.inl (some (.int (bI (inR v n)))), h) := by
  simp only [S_M_isParty_0 hR, hP, T_M_isIn, zbd_i, tl_s, S_M_isParty_13 bI_01, bI_cg (isin_R hn)]
theorem T_M_isInk (hR : RSk h R) {v : Int32} {n : Nat} (hn : n < 2 ^ 31) (hP : zI h (R + 1) 4 = nI n) : ev z d 184 0 [.ref R, .int v] [] h = some (.inl (some (.int (bI (inR v n)))), h) := by
  simp only [S_M_isInk_0 hR, hP, T_M_isIn, zbd_i, tl_s, S_M_isInk_13 bI_01, bI_cg (isin_R hn)]
theorem T_M_isDeed (hR : RSk h R) {v : Int32} {n : Nat} (hn : n < 2 ^ 31) (hP : zI h (R + 1) 5 = nI n) : ev z d 185 0 [.ref R, .int v] [] h = some (.inl (some (.int (bI (inR v n)))), h) := by
  simp only [S_M_isDeed_0 hR, hP, T_M_isIn, zbd_i, tl_s, S_M_isDeed_13 bI_01, bI_cg (isin_R hn)]
end
/-- deeds of a state, as bits -/
def inS (P : Nat → Int32) (s : Int32) : Nat → Int32
  | 0 => nI 0
  | k + 1 => inS P s k ||| (if P (45 + 12 * k + 10) = s then nI 1 <<< (nI k &&& 31) else nI 0)
def vld (P : Nat → Int32) (k : Nat) (r : Int32) : Bool := decide (isB r (nI k) ∧ (P (45 + 12 * k + 5) = -1 ∨ isB r (P (45 + 12 * k + 5))) ∧ (P (45 + 12 * k + 6) = -1 ∨ ¬ isB r (P (45 + 12 * k + 6))))
section
variable {z : ZE} {d : Nat} {h : Hp} {R : Nat}
theorem T_M_inState (hR : RSk h R) {s : Int32} {n : Nat} (hD : zI h (R + 1) 5 = nI n) (hn : n ≤ 8) : ev z d 186 0 [.ref R, .int s, zu, zu] [] h = some (.inl (some (.int (inS (zI h (R + 1)) s n))), h) := by
  rw [S_M_inState_0]
  refine (lp (E := fun k => ev z d 186 4 [.ref R, .int s, .int (inS (zI h (R + 1)) s k), .int (nI k)] [] h) n ?_).trans ?_
  · intro k hk
    rw [S_M_inState_4 hR, hD, if_neg (nI_ge hk (by omega)), T_M_of hR (by omega)]
    simp only [zbd_i, tl_s, S_M_inState_22, nI_add, inS]
    split <;> rfl
  · rw [S_M_inState_4 hR, hD, if_pos (nI_le (Nat.le_refl n) (by omega))]
theorem T_M_isValid (hR : RSk h R) {k : Nat} {r : Int32} (hk : k < 8) : ev z d 187 0 [.ref R, .int (nI k), .int r, zu] [] h = some (.inl (some (.int (bI (vld (zI h (R + 1)) k r)))), h) := by
  have h5 := T_M_of (z := z) (d := d) hR (k := k) (c := 5) (by omega)
  have h6 := T_M_of (z := z) (d := d) hR (k := k) (c := 6) (by omega)
  simp only [S_M_isValid_0, T_M_isOf, zbd_i, tl_s, S_M_isValid_5 hR, h5, S_M_isValid_16 hR, S_M_isValid_27, S_M_isValid_30 hR, h6, S_M_isValid_50 hR, S_M_isValid_62, S_M_isValid_65, bI_0]
  unfold vld bI
  by_cases h1 : isB r (nI k) <;> by_cases h2 : zI h (R + 1) (45 + 12 * k + 5) = -1 <;> by_cases h3 : isB r (zI h (R + 1) (45 + 12 * k + 5)) <;> by_cases h4 : zI h (R + 1) (45 + 12 * k + 6) = -1 <;> by_cases h7 : isB r (zI h (R + 1) (45 + 12 * k + 6)) <;> simp only [decide_eq_true_eq, Bool.false_eq_true, h1, h2, h3, h4, h7, ite_self, n1_0, n0_0, if_true, if_false, not_true, not_false_eq_true, true_and, and_true, and_false, false_and, true_or, or_true, false_or, or_false]
theorem T_M_isValidNow (hR : RSk h R) {k n : Nat} (hk : k < 8) (hD : zI h (R + 1) 5 = nI n) (hn : n ≤ 8) : ev z d 188 0 [.ref R, .int (nI k)] [] h = some (.inl (some (.int (bI (vld (zI h (R + 1)) k (inS (zI h (R + 1)) (nI 1) n))))), h) := by
  simp only [S_M_isValidNow_0 hR, T_M_inState hR hD hn, zbd_i, tl_s, S_M_isValidNow_7 hR, T_M_isValid hR hk, S_M_isValidNow_10 bI_01]
theorem T_M_soaked (hR : RSk h R) {k s : Nat} (hk : 27 + 3 * k + 2 < 781) (hs : 11 + s < 781) : ev z d 189 0 [.ref R, .int (nI k), .int (nI s)] [] h = some (.inl (some (.int (zI h (R + 1) (27 + 3 * k + 2) * zI h (R + 1) (11 + s) / nI 10))), h) := by
  simp only [S_M_soaked_0 hR, T_M_ofInk hR hk, zbd_i, tl_s, S_M_soaked_6 hR, nI_add, ix_n hs (by decide)]
end
