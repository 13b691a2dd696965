/-! READINGS, SHARES -/
/-- what a party has by a reading -/
def NV (P : Nat → Int32) (nd : Nat) (q v : Int32) : Int32 := netS P q (rdS P nd v) nd
/-- the reading by which a party has the most (m not 0), or the least, among those below k -/
def fnd (P : Nat → Int32) (nd : Nat) (q m : Int32) : Nat → Int32
  | 0 => -1
  | k + 1 => if nI k &&& (inS P (nI 0) nd ^^^ (-1)) = 0 then (if fnd P nd q m k = -1 then nI k else if m = 0 then (if NV P nd q (fnd P nd q m k) ≤ NV P nd q (nI k) then fnd P nd q m k else nI k) else (if NV P nd q (nI k) ≤ NV P nd q (fnd P nd q m k) then fnd P nd q m k else nI k)) else fnd P nd q m k
/-- the sum over readings and how many they are -/
def fo1 (P : Nat → Int32) (nd : Nat) (q : Int32) : Nat → Int32
  | 0 => nI 0
  | k + 1 => if nI k &&& (inS P (nI 0) nd ^^^ (-1)) = 0 then fo1 P nd q k + NV P nd q (nI k) else fo1 P nd q k
def fo2 (P : Nat → Int32) (nd : Nat) : Nat → Int32
  | 0 => nI 0
  | k + 1 => if nI k &&& (inS P (nI 0) nd ^^^ (-1)) = 0 then fo2 P nd k + nI 1 else fo2 P nd k
theorem nI_ne1 {k : Nat} (hk : k < 2 ^ 31) : ¬ nI k = -1 := by
  intro e
  have := congrArg Int32.toInt e
  rw [nI_toInt hk] at this
  have h1 : (-1 : Int32).toInt = -1 := by decide
  rw [h1] at this
  omega
theorem fnd_nI {P : Nat → Int32} {nd : Nat} {q m : Int32} : ∀ k, ∃ j, j ≤ k ∧ fnd P nd q m (k + 1) = nI j
  | 0 => ⟨0, Nat.le_refl 0, by
    unfold fnd
    rw [if_pos (by rw [show nI 0 = 0 from rfl]; exact Int32.zero_and)]
    unfold fnd
    exact if_pos rfl⟩
  | k + 1 => by
    obtain ⟨j, hj, e⟩ := fnd_nI (P := P) (nd := nd) (q := q) (m := m) k
    unfold fnd
    split
    · split
      · exact ⟨k + 1, Nat.le_refl _, rfl⟩
      · split
        · split
          · exact ⟨j, by omega, e⟩
          · exact ⟨k + 1, Nat.le_refl _, rfl⟩
        · split
          · exact ⟨j, by omega, e⟩
          · exact ⟨k + 1, Nat.le_refl _, rfl⟩
    · exact ⟨j, by omega, e⟩
theorem fnd_ne {P : Nat → Int32} {nd : Nat} {q m : Int32} {k : Nat} (h0 : 0 < k) (hk : k < 2 ^ 30) : ¬ fnd P nd q m k = -1 := by
  obtain ⟨j, hj, e⟩ := fnd_nI (P := P) (nd := nd) (q := q) (m := m) (k - 1)
  rw [show k - 1 + 1 = k by omega] at e
  rw [e]
  exact nI_ne1 (by omega)
theorem blank_N {P : Nat → Int32} {nd : Nat} (hn : nd ≤ 8) : ∃ b, b < 256 ∧ inS P (nI 0) nd = nI b := by
  refine ⟨_, ?_, inS_N nd (by omega)⟩
  have := bsN_lt (fun k => P (45 + 12 * k + 10) = nI 0) nd
  have e : 2 ^ nd ≤ 2 ^ 8 := Nat.pow_le_pow_right (by decide) hn
  omega
theorem sub_nI {k b : Nat} (hk : k < 2 ^ 31) (hb : b < 2 ^ 31) : (nI k &&& (nI b ^^^ (-1)) = 0) ↔ k &&& b = k := by
  rw [sub_iff, nI_and, nI_eq (Nat.lt_of_le_of_lt Nat.and_le_left hk) hk]
theorem sub_le {k b : Nat} (hk : k < 2 ^ 31) (hb : b < 2 ^ 31) (h : b < k) : ¬ (nI k &&& (nI b ^^^ (-1)) = 0) := by
  rw [sub_nI hk hb]
  intro e
  have := Nat.and_le_right (n := k) (m := b)
  omega
theorem fnd_end {P : Nat → Int32} {nd : Nat} {q m : Int32} {b : Nat} (hb : b < 256) (e : inS P (nI 0) nd = nI b) : ∀ j, b + 1 + j ≤ 256 → fnd P nd q m (b + 1 + j) = fnd P nd q m (b + 1)
  | 0, _ => rfl
  | j + 1, hj => by
    have ih := fnd_end (q := q) (m := m) hb e j (by omega)
    show fnd P nd q m (b + 1 + j + 1) = _
    conv => lhs; unfold fnd
    rw [e, if_neg (sub_le (by omega) (by omega) (by omega))]
    exact ih
theorem fo1_end {P : Nat → Int32} {nd : Nat} {q : Int32} {b : Nat} (hb : b < 256) (e : inS P (nI 0) nd = nI b) : ∀ j, b + 1 + j ≤ 256 → fo1 P nd q (b + 1 + j) = fo1 P nd q (b + 1)
  | 0, _ => rfl
  | j + 1, hj => by
    have ih := fo1_end (q := q) hb e j (by omega)
    show fo1 P nd q (b + 1 + j + 1) = _
    conv => lhs; unfold fo1
    rw [e, if_neg (sub_le (by omega) (by omega) (by omega))]
    exact ih
theorem fo2_end {P : Nat → Int32} {nd : Nat} {b : Nat} (hb : b < 256) (e : inS P (nI 0) nd = nI b) : ∀ j, b + 1 + j ≤ 256 → fo2 P nd (b + 1 + j) = fo2 P nd (b + 1)
  | 0, _ => rfl
  | j + 1, hj => by
    have ih := fo2_end hb e j (by omega)
    show fo2 P nd (b + 1 + j + 1) = _
    conv => lhs; unfold fo2
    rw [e, if_neg (sub_le (by omega) (by omega) (by omega))]
    exact ih
theorem fo2_nI {P : Nat → Int32} {nd : Nat} : ∀ k, ∃ j, j ≤ k ∧ fo2 P nd (k + 1) = nI (j + 1)
  | 0 => ⟨0, Nat.le_refl 0, by
    unfold fo2
    rw [if_pos (by rw [show nI 0 = 0 from rfl]; exact Int32.zero_and)]
    rfl⟩
  | k + 1 => by
    obtain ⟨j, hj, e⟩ := fo2_nI (P := P) (nd := nd) k
    unfold fo2
    split
    · exact ⟨j + 1, by omega, by rw [e, nI_add]⟩
    · exact ⟨j, by omega, e⟩
theorem fo2_ne {P : Nat → Int32} {nd k : Nat} (hk : k < 2 ^ 30) : ¬ fo2 P nd (k + 1) = 0 := by
  obtain ⟨j, hj, e⟩ := fo2_nI (P := P) (nd := nd) k
  rw [e]
  exact nI_ne0 (by omega) (by omega)
def coinS (P : Nat → Int32) : Nat → Int32
  | 0 => nI 0
  | k + 1 => coinS P k + P (15 + 2 * k)
def shrS (P : Nat → Int32) (np k : Nat) : Int32 := if coinS P np = 0 then nI 0 else nI 100 * P (15 + 2 * k) / coinS P np
section
variable {z : ZE} {d : Nat} {h : Hp} {R p : Nat} {P : Nat → Int32} {np ni nd : Nat}
theorem T_M_readingOf (hR : RSk h R) {q m : Int32} {n : Nat} (hD : zI h (R + 1) 5 = nI n) (hn : n ≤ 8) : ev z d 232 0 [.ref R, .int q, .int m, zu, zu] [] h = some (.inl (some (.int (fnd (zI h (R + 1)) n q m 256))), h) := by
  rw [S_M_readingOf_0]
  refine (lp (E := fun k => ev z d 232 5 [.ref R, .int q, .int m, .int (fnd (zI h (R + 1)) n q m k), .int (nI k)] [] h) 256 ?_).trans ?_
  · intro k hk
    rw [S_M_readingOf_5 hR, if_neg (nI_ge hk (by omega))]
    simp only [T_M_inState hR hD hn, zbd_i, tl_s, S_M_readingOf_20 hR, T_M_netOf hR hD hn, S_M_readingOf_64 hR, S_M_readingOf_70, S_M_readingOf_45 hR, S_M_readingOf_51, nI_add]
    conv => rhs; unfold fnd
    unfold NV
    split
    · split
      · rfl
      · split
        · split <;> rfl
        · split <;> rfl
    · rfl
  · rw [S_M_readingOf_5 hR, if_pos (nI_le (Nat.le_refl _) (by omega))]
theorem T_M_fortuneOf (hR : RSk h R) {q : Int32} {n : Nat} (hD : zI h (R + 1) 5 = nI n) (hn : n ≤ 8) : ev z d 233 0 [.ref R, .int q, zu, zu, zu] [] h = some (.inl (some (.int (fo1 (zI h (R + 1)) n q 256 / fo2 (zI h (R + 1)) n 256))), h) := by
  rw [S_M_fortuneOf_0]
  refine (lp (E := fun k => ev z d 233 7 [.ref R, .int q, .int (fo1 (zI h (R + 1)) n q k), .int (fo2 (zI h (R + 1)) n k), .int (nI k)] [] h) 256 ?_).trans ?_
  · intro k hk
    rw [S_M_fortuneOf_7 hR, if_neg (nI_ge hk (by omega))]
    simp only [T_M_inState hR hD hn, zbd_i, tl_s, S_M_fortuneOf_22 hR, T_M_netOf hR hD hn, S_M_fortuneOf_39, nI_add]
    conv => rhs; unfold fo1 fo2
    unfold NV
    split <;> rfl
  · rw [S_M_fortuneOf_7 hR, if_pos (nI_le (Nat.le_refl _) (by omega)), if_neg (fo2_ne (k := 255) (by omega))]
theorem rd_sub {v : Int32} (hv : v &&& (inS P (nI 0) nd ^^^ (-1)) = 0) : rdS P nd v = inS P (nI 1) nd ||| v := by
  unfold rdS
  rw [sub_iff.mp hv]
theorem NV_0 {q : Int32} : netS P q (inS P (nI 1) nd) nd = NV P nd q (nI 0) := by
  unfold NV
  rw [rd_sub (by rw [show nI 0 = 0 from rfl]; exact Int32.zero_and), or_n0]
theorem T_Port_leastNet (hP : PSk h p) (H : PRp h p P np ni nd) (hO : OkD P np ni nd) {q : Int32} : ev z d 68 0 [.ref p, .int q, zu, zu, zu, zu] [] h = some (.inl (some (.int (NV P nd q (fnd P nd q (nI 0) 256)))), h) := by
  have h8 := H.ld
  obtain ⟨b, hb, e⟩ := blank_N (P := P) h8
  simp only [S_Port_leastNet_0 hP, T_Port_inState hP H, zbd_i, tl_s, S_Port_leastNet_5 hP, S_Port_leastNet_11 hP, T_Port_netOf hP H hO, S_Port_leastNet_18]
  rw [NV_0, show NV P nd q (nI 0) = NV P nd q (fnd P nd q (nI 0) (0 + 1)) by
    obtain ⟨j, hj, ej⟩ := fnd_nI (P := P) (nd := nd) (q := q) (m := nI 0) 0
    rw [ej, show j = 0 by omega]]
  refine (lp (E := fun k => ev z d 68 23 [.ref p, .int q, .int (inS P (nI 1) nd), .int (inS P (nI 0) nd), .int (NV P nd q (fnd P nd q (nI 0) (k + 1))), .int (nI (k + 1))] [] h) b ?_).trans ?_
  · intro k hk
    rw [S_Port_leastNet_23 hP, if_neg (by rw [e]; exact nI_nlt (by omega) (by omega))]
    have hf := fnd_ne (P := P) (nd := nd) (q := q) (m := nI 0) (k := k + 1) (by omega) (by omega)
    conv => rhs; unfold fnd
    by_cases hs : nI (k + 1) &&& (inS P (nI 0) nd ^^^ (-1)) = 0
    · rw [if_pos hs, if_pos hs, if_neg hf, if_pos (show nI 0 = 0 from rfl), ← rd_sub hs]
      simp only [T_Port_netOf hP H hO, zbd_i, tl_s, S_Port_leastNet_49, nI_add]
      show ev z d 68 23 [_, _, _, _, .int (if NV P nd q (nI (k + 1)) < NV P nd q (fnd P nd q (nI 0) (k + 1)) then NV P nd q (nI (k + 1)) else NV P nd q (fnd P nd q (nI 0) (k + 1))), _] [] h = _
      by_cases hl : NV P nd q (nI (k + 1)) < NV P nd q (fnd P nd q (nI 0) (k + 1))
      · rw [if_pos hl, if_neg (Int32.not_le.mpr hl)]
      · rw [if_neg hl, if_pos (Int32.not_lt.mp hl)]
    · rw [if_neg hs, if_neg hs, nI_add]
  · rw [S_Port_leastNet_23 hP, e, if_pos (nI_lt (by omega) (by omega))]
    have := fnd_end (q := q) (m := nI 0) hb e (255 - b) (by omega)
    rw [show b + 1 + (255 - b) = 256 by omega] at this
    rw [this]
theorem T_Port_bestReading (hP : PSk h p) (H : PRp h p P np ni nd) (hO : OkD P np ni nd) {q : Int32} : ev z d 69 0 [.ref p, .int q, zu, zu, zu, zu, zu, zu] [] h = some (.inl (some (.int (fnd P nd q (nI 1) 256))), h) := by
  have h8 := H.ld
  obtain ⟨b, hb, e⟩ := blank_N (P := P) h8
  have e0 : fnd P nd q (nI 1) (0 + 1) = nI 0 := by
    obtain ⟨j, hj, ej⟩ := fnd_nI (P := P) (nd := nd) (q := q) (m := nI 1) 0
    rw [ej, show j = 0 by omega]
  simp only [S_Port_bestReading_0 hP, T_Port_inState hP H, zbd_i, tl_s, S_Port_bestReading_5 hP, S_Port_bestReading_11 hP, T_Port_netOf hP H hO, S_Port_bestReading_21]
  rw [NV_0]
  refine Eq.trans ?_ (lpw (E := fun k (w : Value) => ev z d 69 26 [.ref p, .int q, .int (inS P (nI 1) nd), .int (inS P (nI 0) nd), .int (fnd P nd q (nI 1) (k + 1)), .int (NV P nd q (fnd P nd q (nI 1) (k + 1))), .int (nI (k + 1)), w] [] h) b ?_ ?_ zu)
  · rw [e0]
  · intro k w hk
    rw [S_Port_bestReading_26 hP, if_neg (by rw [e]; exact nI_nlt (by omega) (by omega))]
    have hf := fnd_ne (P := P) (nd := nd) (q := q) (m := nI 1) (k := k + 1) (by omega) (by omega)
    have hu : fnd P nd q (nI 1) (k + 1 + 1) = if nI (k + 1) &&& (inS P (nI 0) nd ^^^ (-1)) = 0 then (if NV P nd q (nI (k + 1)) ≤ NV P nd q (fnd P nd q (nI 1) (k + 1)) then fnd P nd q (nI 1) (k + 1) else nI (k + 1)) else fnd P nd q (nI 1) (k + 1) := by
      conv => lhs; unfold fnd
      rw [if_neg hf, if_neg (show ¬ nI 1 = 0 by decide)]
    by_cases hs : nI (k + 1) &&& (inS P (nI 0) nd ^^^ (-1)) = 0
    · rw [if_pos hs] at hu
      refine ⟨.int (NV P nd q (nI (k + 1))), ?_⟩
      rw [hu, if_pos hs, ← rd_sub hs]
      simp only [T_Port_netOf hP H hO, zbd_i, tl_s, S_Port_bestReading_50, nI_add]
      show (if NV P nd q (nI (k + 1)) ≤ NV P nd q (fnd P nd q (nI 1) (k + 1)) then _ else _) = _
      split <;> rfl
    · rw [if_neg hs] at hu
      refine ⟨w, ?_⟩
      rw [hu, if_neg hs, nI_add]
  · intro w
    rw [S_Port_bestReading_26 hP, e, if_pos (nI_lt (by omega) (by omega))]
    have := fnd_end (q := q) (m := nI 1) hb e (255 - b) (by omega)
    rw [show b + 1 + (255 - b) = 256 by omega] at this
    rw [this]
theorem T_Port_meanNet (hP : PSk h p) (H : PRp h p P np ni nd) (hO : OkD P np ni nd) {q : Int32} : ev z d 70 0 [.ref p, .int q, zu, zu, zu, zu, zu] [] h = some (.inl (some (.int (fo1 P nd q 256 / fo2 P nd 256))), h) := by
  have h8 := H.ld
  obtain ⟨b, hb, e⟩ := blank_N (P := P) h8
  simp only [S_Port_meanNet_0 hP, T_Port_inState hP H, zbd_i, tl_s, S_Port_meanNet_5 hP, S_Port_meanNet_11]
  refine (lp (E := fun k => ev z d 70 21 [.ref p, .int q, .int (inS P (nI 1) nd), .int (inS P (nI 0) nd), .int (fo1 P nd q k), .int (fo2 P nd k), .int (nI k)] [] h) (b + 1) ?_).trans ?_
  · intro k hk
    rw [S_Port_meanNet_21 hP, if_neg (by rw [e]; exact nI_nlt (by omega) (by omega))]
    conv => rhs; unfold fo1 fo2
    by_cases hs : nI k &&& (inS P (nI 0) nd ^^^ (-1)) = 0
    · rw [if_pos hs, if_pos hs, if_pos hs, ← rd_sub hs]
      simp only [T_Port_netOf hP H hO, zbd_i, tl_s, S_Port_meanNet_47, nI_add]
      rfl
    · rw [if_neg hs, if_neg hs, if_neg hs, nI_add]
  · have h1 := fo1_end (q := q) hb e (255 - b) (by omega)
    have h2 := fo2_end hb e (255 - b) (by omega)
    rw [show b + 1 + (255 - b) = 256 by omega] at h1 h2
    rw [S_Port_meanNet_21 hP, if_pos (by rw [e]; exact nI_lt (by omega) (by omega)), if_neg (fo2_ne (by omega)), if_neg (fo2_ne (by omega)), h1, h2]
theorem T_Port_allCoins (hP : PSk h p) (H : PRp h p P np ni nd) : ev z d 74 0 [.ref p, zu, zu] [] h = some (.inl (some (.int (coinS P np))), h) := by
  have h8 := H.lp
  rw [S_Port_allCoins_0]
  refine (lp (E := fun k => ev z d 74 4 [.ref p, .int (coinS P k), .int (nI k)] [] h) np ?_).trans ?_
  · intro k hk
    rw [S_Port_allCoins_4 hP, H.cp, if_neg (nI_ge hk (by omega)), ix_n (by omega) (by decide), H.party hk (by decide), nI_add]
    rfl
  · rw [S_Port_allCoins_4 hP, H.cp, if_pos (nI_le (Nat.le_refl _) (by omega))]
theorem T_Port_shareOf (hP : PSk h p) (H : PRp h p P np ni nd) {k : Nat} (hk : k < np) : ev z d 75 0 [.ref p, .int (nI k), zu] [] h = some (.inl (some (.int (shrS P np k))), h) := by
  have h8 := H.lp
  simp only [S_Port_shareOf_0 hP, T_Port_allCoins hP H, zbd_i, tl_s, S_Port_shareOf_4 hP, shrS]
  split
  · rfl
  · rename_i hz
    rw [ix_n (by omega) (by decide), show zI h (p + 8 + k) 0 = P (15 + 2 * k) from H.party hk (by decide), Int32.mul_comm]
theorem T_M_shareOf (hR : RSk h R) {n k : Nat} (hk : k < n) (hN : zI h (R + 1) 3 = nI n) (hn : n ≤ 6) : ev z d 234 0 [.ref R, .int (nI k), zu, zu] [] h = some (.inl (some (.int (shrS (zI h (R + 1)) n k))), h) := by
  rw [S_M_shareOf_0]
  refine (lp (E := fun j => ev z d 234 4 [.ref R, .int (nI k), .int (coinS (zI h (R + 1)) j), .int (nI j)] [] h) n ?_).trans ?_
  · intro j hj
    rw [S_M_shareOf_4 hR, hN, if_neg (nI_ge hj (by omega)), T_M_coins hR (by omega)]
    simp only [zbd_i, tl_s, S_M_shareOf_20, nI_add]
    rfl
  · rw [S_M_shareOf_4 hR, hN, if_pos (nI_le (Nat.le_refl _) (by omega)), T_M_coins hR (by omega)]
    simp only [zbd_i, tl_s, S_M_shareOf_43, shrS]
    split
    · rfl
    · rename_i hz
      rfl
end
