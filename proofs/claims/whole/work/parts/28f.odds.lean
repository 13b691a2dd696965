/-! ODDS: both -/
theorem n64_ne : ∀ j, j < 7 → ¬ (nI (j + 1)).toInt64 = 0 := by decide +kernel
theorem pw_ne : ∀ v, v < 7 → ¬ pwL 100 v = 0 ∧ ¬ pwL 100 v < 1 := by decide +kernel
section
variable {z : ZE} {d : Nat} {h h' g : Hp} {X R p : Nat} {S S1 : PSt} {K : Option Img} {A : List PSt} {tl : Nat} {T : Row} {ft : Int32} {ls : List LN} {Lo : Option Nat} {P : Row} {np ni nd m k r i s q n : Nat} {u v w sp x : Int32}
theorem C_power (hn : n < 2 ^ 31) : ev z d 170 0 [.int x, .int (nI n), zu, zu, zu] [] h = some (.inl (some (.long (pwL x.toInt64 n))), h) := by
  rw [S_LI_power_0]
  refine (lp (E := fun k => ev z d 170 5 [.int x, .int (nI n), .long (pwL x.toInt64 k), zu, .int (nI k)] [] h) n ?_).trans ?_
  · intro k hk
    rw [S_LI_power_5, if_neg (nI_ge hk (by omega)), nI_add]
    rfl
  · rw [S_LI_power_5, if_pos (nI_le (Nat.le_refl _) (by omega))]
theorem C_choose (hk : k < 7) : ev z d 171 0 [.int (nI n), .int (nI k), zu, zu, zu] [] h = some (.inl (some (.long (chN n k))), h) := by
  rw [S_LI_choose_0]
  refine (lp (E := fun j => ev z d 171 5 [.int (nI n), .int (nI k), .long (chR n k j), zu, .int (nI (j + 1))] [] h) k ?_).trans ?_
  · intro j hj
    rw [S_LI_choose_5, if_neg (nI_nlt (by omega) (by omega)), if_neg (n64_ne j (by omega)), show nI (j + 1) + nI 1 = nI (j + 1 + 1) from nI_add _ _]
    rfl
  · rw [S_LI_choose_5, if_pos (nI_lt (by omega) (by omega))]
    rfl
theorem C_odds_l (H : CI z h X S ls Lo K A tl T ft) {v w : Nat} (hv : v < 7) (hw : w < 7) : ∀ m n, n + m = v + 1 - w → ev z d 139 33 [.ref X, .int (nI v), .int (nI w), .long (clG v w (fun c => pwL (S.1 8).toInt64 c * pwL (nI 100 - S.1 8).toInt64 (v - c)) n), zu, .int (nI (w + n))] [] h = ev z d 139 33 [.ref X, .int (nI v), .int (nI w), .long (clG v w (fun c => pwL (S.1 8).toInt64 c * pwL (nI 100 - S.1 8).toInt64 (v - c)) (v + 1 - w)), zu, .int (nI (w + (v + 1 - w)))] [] h
  | 0, n, hn => by
    obtain rfl : n = v + 1 - w := by omega
    rfl
  | m + 1, n, hn => by
    rw [← C_odds_l H hv hw m (n + 1) (by omega)]
    rw [S_LI_odds_33, if_neg (nI_nlt (by omega) (by omega)), C_choose (by omega)]
    simp only [zbd_i, tl_s]
    rw [S_LI_odds_46 H.1.1, C_power (by omega)]
    simp only [zbd_i, tl_s]
    rw [S_LI_odds_58 H.1.1, pk_sub (by omega), C_power (by omega), H.rp.spray]
    simp only [zbd_i, tl_s, S_LI_odds_76, nI_add]
    have e : clG v w (fun c => pwL (S.1 8).toInt64 c * pwL (nI 100 - S.1 8).toInt64 (v - c)) n + chN v (w + n) * pwL (S.1 8).toInt64 (w + n) * pwL (nI 100 - S.1 8).toInt64 (v - (w + n)) = clG v w (fun c => pwL (S.1 8).toInt64 c * pwL (nI 100 - S.1 8).toInt64 (v - c)) (n + 1) := by
      rw [Int64.mul_assoc]
      rfl
    rw [e]
    rfl
theorem C_odds (t : Tp h) (H : CI z h X S ls Lo K A tl T ft) : CA z d h X Lo 139 [.ref X, .int v, .int w, zu, zu, zu] [0] (odK v w) (odV S.1 v w) ((S, ls, Lo), K, A, tl, T, ft) := by
  have gt : ∀ {A B : Option (zO × Hp)}, (if v < 0 then A else if nI 6 < v then A else B) = if inR v 7 then B else A := by
    intro A B
    rw [← lt_le (v := v) (n := 6) (by decide)]
    by_cases c : v < 0
    · rw [if_pos c, if_pos c]
    · rw [if_neg c, if_neg c]
      by_cases c2 : nI 6 < v
      · rw [if_pos c2, if_neg (fun q => Int32.not_le.mpr c2 q)]
      · rw [if_neg c2, if_pos (Int32.not_lt.mp c2)]
  have q1 : ev z d 139 0 [.ref X, .int v, .int w, zu, zu, zu] [] h = if inR v 7 then (if inR w 7 then ev z d 139 33 [.ref X, .int v, .int w, .long 0, zu, .int w] [] h else some (.inr 0, znw h 0 6)) else some (.inr 0, znw h 0 6) := by
    rw [S_LI_odds_0, gt, lt_le (by decide)]
  unfold odK
  by_cases c : inR v 7
  · rw [if_pos c]
    rw [if_pos c] at q1
    by_cases c2 : inR w 7
    · rw [if_pos c2]
      rw [if_pos c2] at q1
      obtain ⟨a, ha, rfl⟩ := (inR_iff (by decide)).mp c
      obtain ⟨b, hb, rfl⟩ := (inR_iff (by decide)).mp c2
      refine CA.rf H ?_
      rw [q1]
      refine (C_odds_l (z := z) (d := d) H ha hb (a + 1 - b) 0 (by omega)).trans ?_
      rw [odds_eq ha hb, S_LI_odds_33, if_pos (nI_lt (by omega) (by omega)), C_power (by omega)]
      simp only [zbd_i, tl_s]
      rw [S_LI_odds_97, show (nI 100).toInt64 = 100 by decide, if_neg (pw_ne a ha).2, if_neg (pw_ne a ha).1]
      unfold odV
      rw [cN_nI (by omega), cN_nI (by omega), Int64.mul_comm]
    · rw [if_neg c2]
      rw [if_neg c2] at q1
      exact CA.x t H rfl q1
  · rw [if_neg c]
    rw [if_neg c] at q1
    exact CA.x t H rfl q1
/-! the reference -/
theorem R_odds_i (hR : RSk h R) (hi1 : zI h (R + 1) = P) {v w : Nat} (hv : v < 7) (hm : m < 64) {a D i0 : Int64} : ev z d 286 96 [.ref R, .int (nI v), .int (nI w), .long a, zu, .long D, zu, .int (nI m), .long i0, zu, .int (nI 0)] [] h = ev z d 286 69 [.ref R, .int (nI v), .int (nI w), .long (a + pfS (P 8).toInt64 (nI 100 - P 8).toInt64 i0 m v), zu, .long D, zu, .int (nI (m + 1)), .long (pfS (P 8).toInt64 (nI 100 - P 8).toInt64 i0 m v), zu, .int (nI v)] [] h := by
  refine (lp (E := fun k => ev z d 286 96 [.ref R, .int (nI v), .int (nI w), .long a, zu, .long D, zu, .int (nI m), .long (pfS (P 8).toInt64 (nI 100 - P 8).toInt64 i0 m k), zu, .int (nI k)] [] h) v ?_).trans ?_
  · intro k hk
    rw [S_M_odds_96, if_neg (nI_ge hk (by omega)), T_M_isOf]
    simp only [zbd_i, tl_s]
    rw [S_M_odds_111 hR, hi1, bI_cg (isB_nI (show k < 32 by omega)), chk0, nI_add]
    show _ = ev z d 286 96 [.ref R, .int (nI v), .int (nI w), .long a, zu, .long D, zu, .int (nI m), .long (pfS (P 8).toInt64 (nI 100 - P 8).toInt64 i0 m k * (if m.testBit k = true then (P 8).toInt64 else (nI 100 - P 8).toInt64)), zu, .int (nI (k + 1))] [] h
    split <;> rfl
  · rw [S_M_odds_96, if_pos (nI_le (Nat.le_refl _) (by omega)), nI_add]
theorem R_odds_m (hR : RSk h R) (hi1 : zI h (R + 1) = P) {v w : Nat} (hv : v < 7) (hw : w < 7) (hm : m < 2 ^ v) {D : Int64} : ev z d 286 82 [.ref R, .int (nI v), .int (nI w), .long (orS (P 8).toInt64 (nI 100 - P 8).toInt64 v w m), zu, .long D, zu, .int (nI m), zu, zu, zu] [.int (nI (bcN m))] h = ev z d 286 69 [.ref R, .int (nI v), .int (nI w), .long (orS (P 8).toInt64 (nI 100 - P 8).toInt64 v w (m + 1)), zu, .long D, zu, .int (nI (m + 1)), .long (pfS (P 8).toInt64 (nI 100 - P 8).toInt64 (if w ≤ bcN m then 1 else 0) m v), zu, .int (nI v)] [] h := by
  have p6 : 2 ^ v ≤ 2 ^ 6 := Nat.pow_le_pow_right (by decide) (by omega)
  have b8 : bcN m ≤ v := by rw [bc_cnt v hv m hm]; exact cntN_n v
  rw [S_M_odds_82]
  show _ = ev z d 286 69 [.ref R, .int (nI v), .int (nI w), .long (orS (P 8).toInt64 (nI 100 - P 8).toInt64 v w m + pfS (P 8).toInt64 (nI 100 - P 8).toInt64 (if w ≤ bcN m then 1 else 0) m v), zu, .long D, zu, .int (nI (m + 1)), .long (pfS (P 8).toInt64 (nI 100 - P 8).toInt64 (if w ≤ bcN m then 1 else 0) m v), zu, .int (nI v)] [] h
  by_cases c : w ≤ bcN m
  · rw [if_pos (nI_le c (by omega)), if_pos c]
    exact R_odds_i hR hi1 hv (by omega)
  · rw [if_neg (nI_ge (by omega) (by omega)), if_neg c]
    exact R_odds_i hR hi1 hv (by omega)
theorem R_odds_m1 (hR : RSk h R) (hi1 : zI h (R + 1) = P) {v w : Nat} (hv : v < 7) (hw : w < 7) (hm : m < 2 ^ v) {D a8 : Int64} {a10 : Int32} : ev z d 286 82 [.ref R, .int (nI v), .int (nI w), .long (orS (P 8).toInt64 (nI 100 - P 8).toInt64 v w m), zu, .long D, zu, .int (nI m), .long a8, zu, .int a10] [.int (nI (bcN m))] h = ev z d 286 69 [.ref R, .int (nI v), .int (nI w), .long (orS (P 8).toInt64 (nI 100 - P 8).toInt64 v w (m + 1)), zu, .long D, zu, .int (nI (m + 1)), .long (pfS (P 8).toInt64 (nI 100 - P 8).toInt64 (if w ≤ bcN m then 1 else 0) m v), zu, .int (nI v)] [] h := by
  have e := R_odds_m (z := z) (d := d) (D := D) hR hi1 hv hw hm
  rw [S_M_odds_82] at e
  rw [S_M_odds_82_1]
  exact e
theorem R_odds_l (hR : RSk h R) (hi1 : zI h (R + 1) = P) {v w : Nat} (hv : v < 7) (hw : w < 7) {D : Int64} (hD : ¬ D = 0) : ∀ n m a8 a10, m + n = 2 ^ v → ev z d 286 69 [.ref R, .int (nI v), .int (nI w), .long (orS (P 8).toInt64 (nI 100 - P 8).toInt64 v w m), zu, .long D, zu, .int (nI m), .long a8, zu, .int a10] [] h = some (.inl (some (.int ((10000 * orS (P 8).toInt64 (nI 100 - P 8).toInt64 v w (2 ^ v)) / D).toInt32)), h)
  | 0, m, a8, a10, hm => by
    have p6 : 2 ^ v ≤ 2 ^ 6 := Nat.pow_le_pow_right (by decide) (by omega)
    obtain rfl : m = 2 ^ v := by omega
    rw [S_M_odds_69_1, nI_shl v (by omega), if_pos (nI_le (Nat.le_refl _) (by omega)), if_neg hD]
  | n + 1, m, a8, a10, hm => by
    have p6 : 2 ^ v ≤ 2 ^ 6 := Nat.pow_le_pow_right (by decide) (by omega)
    rw [S_M_odds_69_1, nI_shl v (by omega), if_neg (nI_ge (by omega) (by omega)), T_M_bitsN (by omega)]
    simp only [zbd_i, tl_s]
    rw [R_odds_m1 hR hi1 hv hw (by omega)]
    exact R_odds_l hR hi1 hv hw hD n (m + 1) _ _ (by omega)
theorem R_odds (H : RI h R S K A tl T ft) : RB z d h R 286 [.ref R, .int v, .int w, zu, zu, zu, zu, zu, zu, zu, zu] (odK v w) (odV S.1 v w) ((S, ls, Lo), K, A, tl, T, ft) := by
  have e6 : ∀ v : Int32, bI (isin v (nI 0) (nI 6)) = bI (inR v 7) := fun v => bI_cg (isin_n (by decide))
  have q1 : ev z d 286 0 [.ref R, .int v, .int w, zu, zu, zu, zu, zu, zu, zu, zu] [] h = ev z d 286 8 [.ref R, .int v, .int w, zu, zu, zu, zu, zu, zu, zu, zu] [.int (bI (inR v 7)), .ref R] h := by
    rw [S_M_odds_0, T_M_isIn, e6]
    simp only [zbd_i, tl_s]
  rw [S_M_odds_8 H.1.1, chk3, T_M_isIn, e6] at q1
  simp only [zbd_i, tl_s] at q1
  rw [S_M_odds_18 H.1.1, chk] at q1
  unfold odK
  by_cases c : inR v 7
  · rw [if_pos c]
    rw [if_pos c] at q1
    by_cases c2 : inR w 7
    · rw [if_pos c2]
      rw [if_pos c2] at q1
      obtain ⟨a, ha, rfl⟩ := (inR_iff (by decide)).mp c
      obtain ⟨b, hb, rfl⟩ := (inR_iff (by decide)).mp c2
      have p6 : 2 ^ a ≤ 2 ^ 6 := Nat.pow_le_pow_right (by decide) (by omega)
      have p0 : 0 < 2 ^ a := Nat.two_pow_pos a
      have G := H.w0 (v := nI 0)
      refine RB.g H ?_
      rw [q1]
      generalize zwI h R 0 (nI 0) = g at *
      refine (lp (E := fun k => ev z d 286 46 [.ref R, .int (nI a), .int (nI b), .long 0, zu, .long (pwL 100 k), zu, .int (nI k), zu, zu, zu] [] g) a ?_).trans ?_
      · intro k hk
        rw [S_M_odds_46, if_neg (nI_ge hk (by omega)), nI_add]
        rfl
      · rw [S_M_odds_46, if_pos (nI_le (Nat.le_refl _) (by omega)), S_M_odds_69, nI_shl a (by omega), if_neg (nI_ge p0 (by omega)), T_M_bitsN (by decide)]
        simp only [zbd_i, tl_s]
        unfold odV
        rw [cN_nI (by omega), cN_nI (by omega)]
        refine (R_odds_m (z := z) (d := d) (P := S.1) (m := 0) G.1.1 G.i ha hb p0).trans ?_
        exact R_odds_l G.1.1 G.i ha hb (pw_ne a ha).1 (2 ^ a - 1) 1 _ _ (by omega)
    · rw [if_neg c2]
      rw [if_neg c2] at q1
      exact RB.t H (by decide) q1
  · rw [if_neg c]
    rw [if_neg c] at q1
    exact RB.t H (by decide) q1
end
