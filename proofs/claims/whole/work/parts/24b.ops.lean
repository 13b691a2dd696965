/-! LOG, LED, RICHEST, ALIKE, INK, PARTY, COUNT in both -/
def riS (P : Row) : Nat → Int32
  | 0 => -1
  | k + 1 => if riS P k = -1 then nI k else if P (15 + 2 * k + 0) ≤ P (15 + 2 * cN (riS P k) + 0) then riS P k else nI k
theorem riS_n {P : Row} : ∀ k, ∃ j, j ≤ k ∧ riS P (k + 1) = nI j
  | 0 => ⟨0, Nat.le_refl 0, if_pos rfl⟩
  | k + 1 => by
    obtain ⟨j, hj, e⟩ := riS_n (P := P) k
    unfold riS
    split
    · exact ⟨k + 1, by omega, rfl⟩
    · split
      · exact ⟨j, by omega, e⟩
      · exact ⟨k + 1, by omega, rfl⟩
def lik (P : Row) (a b : Nat) : Bool := decide (P (45 + 12 * a + 0) = P (45 + 12 * b + 0) ∧ P (45 + 12 * a + 1) = P (45 + 12 * b + 1) ∧ P (45 + 12 * a + 2) = P (45 + 12 * b + 2) ∧ P (45 + 12 * a + 3) = P (45 + 12 * b + 3))
def al2 (P : Row) (a : Nat) (s : Int32) : Nat → Int32
  | 0 => s
  | j + 1 => if lik P a (a + 1 + j) = true then al2 P a s j + nI 1 else al2 P a s j
def al1 (P : Row) (n : Nat) : Nat → Int32
  | 0 => nI 0
  | a + 1 => al2 P a (al1 P n a) (n - (a + 1))
def paV (P : Row) (np nd : Nat) (v : Int32) (w : Nat) : Int32 := match w with
  | 0 => P (15 + 2 * cN v + 0)
  | 1 => P (15 + 2 * cN v + 1)
  | 2 => shrS P np (cN v)
  | 3 => NV P nd v (fnd P nd v (nI 0) 256)
  | 4 => NV P nd v (fnd P nd v (nI 1) 256)
  | 5 => fnd P nd v (nI 1) 256
  | _ => fo1 P nd v 256 / fo2 P nd 256
def inV (P : Row) (nd : Nat) (v : Int32) (w : Nat) : Int32 := match w with
  | 3 => jarS P v nd
  | w => P (27 + 3 * cN v + w)
def coV (P : Row) (np nd al w : Nat) : Int32 := match w with
  | 0 => P 3
  | 1 => P 4
  | 2 => P 5
  | 3 => P 0
  | 4 => P 1
  | 5 => P 6
  | 6 => P 7
  | 7 => P 8
  | 8 => coinS P np
  | 9 => padS P nd
  | 10 => P 9
  | _ => nI al
theorem m1_sub (x : Int32) : x + (-1) = x - nI 1 := by rw [Int32.sub_eq_add_neg, show -nI 1 = -1 by decide]
theorem swd {v : Int32} {n : Nat} (hn : n + 1 < 2 ^ 31) (h : ¬ inR v (n + 1)) : v.toInt < 0 ∨ (n : Int) < v.toInt := by
  rcases not_inR.mp h with q | q
  · left
    rw [Int32.lt_iff_toInt_lt] at q
    exact q
  · right
    rw [Int32.le_iff_toInt_le] at q
    rw [nI_toInt hn] at q
    omega
section
variable {z : ZE} {d : Nat} {h h' : Hp} {X R : Nat} {S S1 : PSt} {K : Option Img} {A : List PSt} {tl : Nat} {T : Row} {ft : Int32} {ls : List LN} {Lo : Option Nat} {v w : Int32}
theorem C_log (t : Tp h) (H : CI z h X S ls Lo K A tl T ft) : CA z d h X Lo 148 [.ref X, .int v, .int w] [4] (if inR w 4 then 0 else 1) (lgS S.1 v (cN w)) ((S, ls, Lo), K, A, tl, T, ft) := by
  by_cases c : inR w 4
  · rw [if_pos c]
    refine CA.rf H ?_
    obtain ⟨j, hj, rfl⟩ := (inR_iff (by decide)).mp c
    rw [S_LI_log_0 H.1.1, inR_d, if_pos c, T_Book_tell H.sk H.bk hj, cN_nI (by omega)]
    simp only [zbd_i, tl_s, S_LI_log_29]
  · rw [if_neg c]
    refine CA.x t H rfl ?_
    rw [S_LI_log_0 H.1.1, inR_d, if_neg c]
    rfl
theorem R_log (H : RI h R S K A tl T ft) (ok : Ok S) : RB z d h R 298 [.ref R, .int v, .int w] (if inR w 4 then 0 else 1) (lgS S.1 v (cN w)) ((S, ls, Lo), K, A, tl, T, ft) := by
  have e : bI (isin w (nI 0) (nI 3)) = bI (inR w 4) := bI_cg (isin_n (by decide))
  by_cases c : inR w 4
  · rw [if_pos c]
    refine RB.g H ?_
    obtain ⟨j, hj, rfl⟩ := (inR_iff (by decide)).mp c
    have G := H.w0 (v := nI 0)
    obtain ⟨n, hn, e9⟩ := ok.2.2.2.2.2.2.2.2.1
    rw [S_M_log_0, T_M_isIn, e]
    simp only [zbd_i, tl_s]
    rw [S_M_log_7 H.1.1, chk, if_pos c, G.i, e9, T_M_isIn, bI_cg (isin_R (show n < 2 ^ 31 by omega)), cN_nI (by omega)]
    simp only [zbd_i, tl_s]
    generalize zwI h R 0 (nI 0) = g at *
    rw [S_M_log_41 G.1.1]
    unfold lgS
    rw [e9]
    by_cases c2 : inR v n
    · rw [if_neg (by rw [bI_0]; exact fun q => q c2), if_pos c2]
      obtain ⟨a, ha, rfl⟩ := (inR_iff (by omega)).mp c2
      rw [S_M_logged_0 G.1.1, pk_mul, nI_add, nI_add, ix_n (by omega) (by decide), G.i, cN_nI (by omega)]
      simp only [zbd_i, tl_s, S_M_log_50]
    · rw [if_pos (by rw [bI_0]; exact c2), if_neg c2]
  · rw [if_neg c]
    refine RB.t H (by decide) (w := nI 0) ?_
    rw [S_M_log_0, T_M_isIn, e]
    simp only [zbd_i, tl_s]
    rw [S_M_log_7 H.1.1, chk, if_neg c]
def ldV (P : Row) (v w : Int32) : Int32 := if w = 0 then ledN P v (cN (P 9)) else ledT P v (cN (P 9)) 0
theorem C_led (t : Tp h) (H : CI z h X S ls Lo K A tl T ft) (ok : Ok S) : CA z d h X Lo 147 [.ref X, .int v, .int w] [2] (if inR v S.2.2.2 then 0 else 1) (ldV S.1 v w) ((S, ls, Lo), K, A, tl, T, ft) := by
  by_cases c : inR v S.2.2.2
  · rw [if_pos c]
    refine CA.rf H ?_
    obtain ⟨n, hn, e9⟩ := ok.2.2.2.2.2.2.2.2.1
    unfold ldV
    rw [S_LI_led_0 H.1.1, C_needDeed H, if_pos c, e9, cN_nI (by omega)]
    simp only [zbd_i, tl_n]
    rw [S_LI_led_5 H.1.1]
    by_cases c2 : w = 0
    · rw [if_pos c2, if_pos c2, T_Book_rowsOf H.sk H.bk e9 hn]
      simp only [zbd_i, tl_s, S_LI_led_34]
    · rw [if_neg c2, if_neg c2, T_Book_latest H.sk H.bk e9 hn]
      simp only [zbd_i, tl_s, S_LI_led_20]
  · rw [if_neg c]
    refine CA.x t H rfl ?_
    rw [S_LI_led_0 H.1.1, C_needDeed H, if_neg c]
    simp only [zbd_e]
    exact evx_nil rfl
theorem R_led_l (hR : RSk h R) {P : Row} (hi : zI h (R + 1) = P) {n : Nat} (hn : n ≤ 60) {r : Int32} : ∀ k a, k + a = n → ∀ s, s + ledN P v k = r → ev z d 297 42 [.ref R, .int v, .int w, .int s, .int (ledT P v a k), .int (nI k - nI 1)] [] h = some (.inl (some (.int (if w = 0 then r else ledT P v n 0))), h) := by
  intro k
  induction k with
  | zero =>
    intro a ha s hs
    rw [S_M_led_42 hR, if_pos (by decide), ← hs, show a = n by omega]
    have : s + ledN P v 0 = s := Int32.add_zero s
    rw [this]
    split <;> rfl
  | succ k ih =>
    intro a ha s hs
    have e1 : ledT P v (a + 1) k = if P (141 + 4 * k + 1) = v then P (141 + 4 * k + 0) else ledT P v a (k + 1) := rfl
    have e2 : ledN P v (k + 1) = ledN P v k + (if P (141 + 4 * k + 1) = v then nI 1 else nI 0) := rfl
    rw [pk_sub (by omega), Nat.add_sub_cancel, S_M_led_42 hR, if_neg (nI_pos (by omega)), S_M_logged_0 hR, pk_mul, nI_add, nI_add, ix_n (by omega) (by decide), hi]
    simp only [zbd_i, tl_s]
    rw [S_M_led_54 hR]
    by_cases c : P (141 + 4 * k + 1) = v
    · rw [if_pos c, S_M_logged_0 hR, pk_mul, nI_add, nI_add, ix_n (by omega) (by decide), hi]
      simp only [zbd_i, tl_s, S_M_led_71]
      rw [if_pos c] at e1 e2
      have := ih (a + 1) (by omega) (s + nI 1) (by rw [← hs, e2, Int32.add_assoc, Int32.add_comm (nI 1)])
      rw [e1] at this
      rw [m1_sub]
      exact this
    · rw [if_neg c]
      rw [if_neg c] at e1 e2
      have := ih (a + 1) (by omega) s (by rw [← hs, e2, add_n0])
      rw [e1] at this
      rw [m1_sub]
      exact this
theorem R_led (H : RI h R S K A tl T ft) (ok : Ok S) : RB z d h R 297 [.ref R, .int v, .int w, zu, zu, zu] (if inR v S.2.2.2 then 0 else 1) (ldV S.1 v w) ((S, ls, Lo), K, A, tl, T, ft) := by
  by_cases c : inR v S.2.2.2
  · rw [if_pos c]
    refine RB.g H ?_
    have G := H.w0 (v := nI 0)
    obtain ⟨n, hn, e9⟩ := ok.2.2.2.2.2.2.2.2.1
    unfold ldV
    rw [S_M_led_0 H.1.1, R_isDeed H ok]
    simp only [zbd_i, tl_s]
    rw [S_M_led_6 H.1.1, chk, if_pos c, G.i, e9, cN_nI (by omega)]
    exact R_led_l G.1.1 G.i hn n 0 (by omega) (nI 0) (Int32.zero_add _)
  · rw [if_neg c]
    refine RB.t H (by decide) (w := nI 0) ?_
    rw [S_M_led_0 H.1.1, R_isDeed H ok]
    simp only [zbd_i, tl_s]
    rw [S_M_led_6 H.1.1, chk, if_neg c]
theorem C_richest (H : CI z h X S ls Lo K A tl T ft) (ok : Ok S) : CA z d h X Lo 141 [.ref X, zu, zu, zu] [] 0 (riS S.1 S.2.1) ((S, ls, Lo), K, A, tl, T, ft) := by
  refine CA.rf H ?_
  have h6 := ok.1.2.2.2.1
  have e0 : ∃ mo : Nat → Int32, mo 0 = -1 ∧ ∀ k, k < S.2.1 → mo (k + 1) = S.1 (15 + 2 * cN (riS S.1 (k + 1)) + 0) := ⟨fun k => match k with
    | 0 => -1
    | k + 1 => S.1 (15 + 2 * cN (riS S.1 (k + 1)) + 0), rfl, fun k _ => rfl⟩
  obtain ⟨mo, m0, m1⟩ := e0
  rw [S_LI_richest_0]
  have b0 : ev z d 141 6 [.ref X, .int (-1), .int (-1), .int (nI 0)] [] h = ev z d 141 6 [.ref X, .int (riS S.1 0), .int (mo 0), .int (nI 0)] [] h := by rw [m0]; rfl
  rw [b0]
  refine (lp (E := fun k => ev z d 141 6 [.ref X, .int (riS S.1 k), .int (mo k), .int (nI k)] [] h) S.2.1 ?_).trans ?_
  · intro k hk
    rw [S_LI_richest_6 H.1.1, H.rp.cp, if_neg (nI_ge hk (by omega)), ix_n (by omega) (by decide), ix_n (by omega) (by decide), nI_add, H.rp.party hk (by decide), m1 k hk]
    obtain ⟨c, hc, ec⟩ := (ok.2.2.2.1 k hk).2
    cases k with
    | zero =>
      have : riS S.1 (0 + 1) = nI 0 := if_pos rfl
      rw [this, m0, if_neg, cN_nI (by decide)]
      rw [ec]
      intro q
      rw [Int32.le_iff_toInt_le, nI_toInt (by omega)] at q
      have h1 : (-1 : Int32).toInt = -1 := by decide
      omega
    | succ k =>
      obtain ⟨j, hj, e⟩ := riS_n (P := S.1) k
      have u : riS S.1 (k + 1 + 1) = if S.1 (15 + 2 * (k + 1) + 0) ≤ S.1 (15 + 2 * cN (riS S.1 (k + 1)) + 0) then riS S.1 (k + 1) else nI (k + 1) := by
        conv => lhs; unfold riS
        rw [if_neg (by rw [e]; exact nI_ne1 (by omega))]
      rw [m1 k (by omega), u]
      by_cases c2 : S.1 (15 + 2 * (k + 1) + 0) ≤ S.1 (15 + 2 * cN (riS S.1 (k + 1)) + 0)
      · rw [if_pos c2, if_pos c2]
      · rw [if_neg c2, if_neg c2, cN_nI (by omega)]
  · rw [S_LI_richest_6 H.1.1, H.rp.cp, if_pos (nI_le (Nat.le_refl _) (by omega))]
theorem R_richest (H : RI h R S K A tl T ft) (ok : Ok S) : RB z d h R 288 [.ref R, zu, zu] 0 (riS S.1 S.2.1) ((S, ls, Lo), K, A, tl, T, ft) := by
  refine RB.g H ?_
  have G := H.w0 (v := nI 0)
  have h6 := ok.1.2.2.2.1
  have h3 : zI (zwI h R 0 (nI 0)) (R + 1) 3 = nI S.2.1 := by rw [G.i]; exact ok.1.1
  rw [S_M_richest_0 H.1.1]
  generalize zwI h R 0 (nI 0) = g at *
  refine (lp (E := fun k => ev z d 288 9 [.ref R, .int (riS S.1 k), .int (nI k)] [] g) S.2.1 ?_).trans ?_
  · intro k hk
    rw [S_M_richest_9 G.1.1, h3, if_neg (nI_ge hk (by omega)), nI_add]
    conv => rhs; unfold riS
    by_cases c1 : riS S.1 k = -1
    · rw [if_pos c1, if_pos c1]
    · rw [if_neg c1, if_neg c1]
      cases k with
      | zero => exact absurd rfl c1
      | succ k =>
        obtain ⟨j, hj, e⟩ := riS_n (P := S.1) k
        rw [T_M_coins G.1.1 (by omega)]
        simp only [zbd_i, tl_s]
        rw [S_M_richest_29 G.1.1, e, T_M_coins G.1.1 (by omega), cN_nI (by omega), G.i]
        simp only [zbd_i, tl_s, S_M_richest_34, nI_add]
        show (if S.1 (15 + 2 * (k + 1) + 0) ≤ S.1 (15 + 2 * j + 0) then _ else _) = _
        split <;> rfl
  · rw [S_M_richest_9 G.1.1, h3, if_pos (nI_le (Nat.le_refl _) (by omega))]
theorem C_alike (H : CI z h X S ls Lo K A tl T ft) (ok : Ok S) : CA z d h X Lo 142 [.ref X, zu, zu, zu] [] 0 (al1 S.1 S.2.2.2 S.2.2.2) ((S, ls, Lo), K, A, tl, T, ft) := by
  refine CA.rf H ?_
  have h8 := ok.1.2.2.2.2.2
  rw [S_LI_alike_0]
  refine lpw (E := fun a (u : Value) => ev z d 142 4 [.ref X, .int (al1 S.1 S.2.2.2 a), .int (nI a), u] [] h) S.2.2.2 ?_ ?_ zu
  · intro a u ha
    refine ⟨.int (nI S.2.2.2), ?_⟩
    obtain ⟨n, hn⟩ : ∃ n, a + 1 + n = S.2.2.2 := ⟨S.2.2.2 - (a + 1), by omega⟩
    have e1 : al1 S.1 S.2.2.2 (a + 1) = al2 S.1 a (al1 S.1 S.2.2.2 a) n := by
      show al2 S.1 a (al1 S.1 S.2.2.2 a) (S.2.2.2 - (a + 1)) = _
      rw [show S.2.2.2 - (a + 1) = n by omega]
    rw [S_LI_alike_4 H.1.1, H.rp.cd, if_neg (nI_ge ha (by omega)), nI_add, e1]
    generalize al1 S.1 S.2.2.2 a = s
    refine (lp (E := fun j => ev z d 142 19 [.ref X, .int (al2 S.1 a s j), .int (nI a), .int (nI (a + 1 + j))] [] h) n ?_).trans ?_
    · intro j hj
      rw [S_LI_alike_19 H.1.1, H.rp.cd, if_neg (nI_ge (by omega) (by omega)), ix_n (by omega) (by decide), ix_n (by omega) (by decide), S_Deed_isLike_0 (PSk_o4 H.sk (by omega)) (PSk_o4 H.sk (by omega))]
      have o := fun c (hc : c < 12) => H.rp.deed ha hc
      have o' := fun c (hc : c < 12) => H.rp.deed (show a + 1 + j < S.2.2.2 by omega) hc
      have e : (if zI h (X + 4 + 20 + a) 0 = zI h (X + 4 + 20 + (a + 1 + j)) 0 then if zI h (X + 4 + 20 + a) 1 = zI h (X + 4 + 20 + (a + 1 + j)) 1 then if zI h (X + 4 + 20 + a) 2 = zI h (X + 4 + 20 + (a + 1 + j)) 2 then if zI h (X + 4 + 20 + a) 3 = zI h (X + 4 + 20 + (a + 1 + j)) 3 then some ((.inl (some (.int (nI 1))), h) : zO × Hp) else some (.inl (some (.int (nI 0))), h) else some (.inl (some (.int (nI 0))), h) else some (.inl (some (.int (nI 0))), h) else some (.inl (some (.int (nI 0))), h)) = some (.inl (some (.int (bI (lik S.1 a (a + 1 + j) = true)))), h) := by
        rw [o 0 (by decide), o 1 (by decide), o 2 (by decide), o 3 (by decide), o' 0 (by decide), o' 1 (by decide), o' 2 (by decide), o' 3 (by decide)]
        unfold bI lik
        simp only [decide_eq_true_eq]
        split
        · split
          · split
            · split
              · rw [if_pos ⟨by assumption, by assumption, by assumption, by assumption⟩]
              · rw [if_neg (fun q => by simp_all)]
            · rw [if_neg (fun q => by simp_all)]
          · rw [if_neg (fun q => by simp_all)]
        · rw [if_neg (fun q => by simp_all)]
      rw [e]
      simp only [zbd_i, tl_s, S_LI_alike_51, bI_0, nI_add]
      rw [show a + 1 + (j + 1) = a + 1 + j + 1 by omega]
      conv => rhs; unfold al2
      by_cases c : lik S.1 a (a + 1 + j) = true
      · rw [if_neg (fun q => q c), if_pos c]
      · rw [if_pos c, if_neg c]
    · rw [S_LI_alike_19 H.1.1, H.rp.cd, hn, if_pos (nI_le (Nat.le_refl _) (by omega)), nI_add]
  · intro u
    rw [S_LI_alike_4 H.1.1, H.rp.cd, if_pos (nI_le (Nat.le_refl _) (by omega))]
theorem T_M_areAlike (hR : RSk h R) {a b : Nat} (ha : a < 8) (hb : b < 8) : ev z d 289 0 [.ref R, .int (nI a), .int (nI b), zu, zu] [] h = some (.inl (some (.int (bI (lik (zI h (R + 1)) a b = true)))), h) := by
  have st : ∀ c, c < 4 → ev z d 289 5 [.ref R, .int (nI a), .int (nI b), .int (nI 1), .int (nI c)] [] h = if zI h (R + 1) (45 + 12 * a + c) = zI h (R + 1) (45 + 12 * b + c) then ev z d 289 5 [.ref R, .int (nI a), .int (nI b), .int (nI 1), .int (nI (c + 1))] [] h else ev z d 289 5 [.ref R, .int (nI a), .int (nI b), .int (nI 0), .int (nI (c + 1))] [] h := by
    intro c hc
    rw [S_M_areAlike_5 (v3 := nI 1) hR (Or.inr rfl), if_neg (nI_nlt (by omega) (by omega)), if_neg (by decide), T_M_of hR (by omega)]
    simp only [zbd_i, tl_s]
    rw [S_M_areAlike_22 hR, T_M_of hR (by omega)]
    simp only [zbd_i, tl_s, S_M_areAlike_29, nI_add]
  have s0 : ∀ f c, c + f = 4 → ev z d 289 5 [.ref R, .int (nI a), .int (nI b), .int (nI 0), .int (nI c)] [] h = some (.inl (some (.int (nI 0))), h) := by
    intro f
    induction f with
    | zero =>
      intro c hc
      rw [S_M_areAlike_5 (v3 := nI 0) hR (Or.inl rfl), if_pos (nI_lt (by omega) (by omega))]
    | succ f ih =>
      intro c hc
      rw [S_M_areAlike_5 (v3 := nI 0) hR (Or.inl rfl), if_neg (nI_nlt (by omega) (by omega)), if_pos (by decide), nI_add]
      exact ih (c + 1) (by omega)
  have s4 : ev z d 289 5 [.ref R, .int (nI a), .int (nI b), .int (nI 1), .int (nI (3 + 1))] [] h = some (.inl (some (.int (nI 1))), h) := by
    rw [S_M_areAlike_5 (v3 := nI 1) hR (Or.inr rfl), if_pos (by decide)]
  rw [S_M_areAlike_0, st 0 (by decide), st 1 (by decide), st 2 (by decide), st 3 (by decide), s0 3 1 (by decide), s0 2 2 (by decide), s0 1 3 (by decide), s0 0 4 (by decide), s4]
  unfold bI lik
  simp only [decide_eq_true_eq]
  split
  · split
    · split
      · split
        · rw [if_pos ⟨by assumption, by assumption, by assumption, by assumption⟩]
        · rw [if_neg (fun q => by simp_all)]
      · rw [if_neg (fun q => by simp_all)]
    · rw [if_neg (fun q => by simp_all)]
  · rw [if_neg (fun q => by simp_all)]
theorem R_alike (H : RI h R S K A tl T ft) (ok : Ok S) : RB z d h R 290 [.ref R, zu, zu, zu] 0 (al1 S.1 S.2.2.2 S.2.2.2) ((S, ls, Lo), K, A, tl, T, ft) := by
  refine RB.g H ?_
  have G := H.w0 (v := nI 0)
  have h8 := ok.1.2.2.2.2.2
  have h5 : zI (zwI h R 0 (nI 0)) (R + 1) 5 = nI S.2.2.2 := by rw [G.i]; exact ok.1.2.2.1
  rw [S_M_alike_0 H.1.1]
  generalize zwI h R 0 (nI 0) = g at *
  refine lpw (E := fun a (u : Value) => ev z d 290 9 [.ref R, .int (al1 S.1 S.2.2.2 a), .int (nI a), u] [] g) S.2.2.2 ?_ ?_ zu
  · intro a u ha
    refine ⟨.int (nI S.2.2.2), ?_⟩
    obtain ⟨n, hn⟩ : ∃ n, a + 1 + n = S.2.2.2 := ⟨S.2.2.2 - (a + 1), by omega⟩
    have e1 : al1 S.1 S.2.2.2 (a + 1) = al2 S.1 a (al1 S.1 S.2.2.2 a) n := by
      show al2 S.1 a (al1 S.1 S.2.2.2 a) (S.2.2.2 - (a + 1)) = _
      rw [show S.2.2.2 - (a + 1) = n by omega]
    rw [S_M_alike_9 G.1.1, h5, if_neg (nI_ge ha (by omega)), nI_add, e1]
    generalize al1 S.1 S.2.2.2 a = s
    refine (lp (E := fun j => ev z d 290 23 [.ref R, .int (al2 S.1 a s j), .int (nI a), .int (nI (a + 1 + j))] [] g) n ?_).trans ?_
    · intro j hj
      rw [S_M_alike_23 G.1.1, h5, if_neg (nI_ge (by omega) (by omega)), T_M_areAlike G.1.1 (by omega) (by omega), G.i]
      simp only [zbd_i, tl_s, S_M_alike_40, bI_0, nI_add]
      rw [show a + 1 + (j + 1) = a + 1 + j + 1 by omega]
      conv => rhs; unfold al2
      by_cases c : lik S.1 a (a + 1 + j) = true
      · rw [if_neg (fun q => q c), if_pos c]
      · rw [if_pos c, if_neg c, add_n0]
    · rw [S_M_alike_23 G.1.1, h5, hn, if_pos (nI_le (Nat.le_refl _) (by omega)), nI_add]
  · intro u
    rw [S_M_alike_9 G.1.1, h5, if_pos (nI_le (Nat.le_refl _) (by omega))]
end
section
variable {z : ZE} {d : Nat} {h h' : Hp} {X R : Nat} {S S1 : PSt} {K : Option Img} {A : List PSt} {tl : Nat} {T : Row} {ft : Int32} {ls : List LN} {Lo : Option Nat} {v w : Int32}
theorem C_ink (t : Tp h) (H : CI z h X S ls Lo K A tl T ft) (ok : Ok S) : CA z d h X Lo 107 [.ref X, .int v, .int w] [2, 4] (if inR v S.2.2.1 then (if inR w 4 then 0 else 2) else 1) (inV S.1 S.2.2.2 v (cN w)) ((S, ls, Lo), K, A, tl, T, ft) := by
  have h6 := ok.1.2.2.2.2.1
  by_cases c : inR v S.2.2.1
  · rw [if_pos c]
    by_cases c2 : inR w 4
    · rw [if_pos c2]
      refine CA.rf H ?_
      obtain ⟨i, hi, rfl⟩ := (inR_iff (by omega)).mp c
      obtain ⟨j, hj, rfl⟩ := (inR_iff (by decide)).mp c2
      rw [S_LI_ink_0 H.1.1, C_needInk H, if_pos c, cN_nI (by omega)]
      simp only [zbd_i, tl_n, S_LI_ink_5]
      unfold inV
      rcases (by omega : j = 0 ∨ j = 1 ∨ j = 2 ∨ j = 3) with r | r | r | r <;> subst r
      · rw [T_LI_ink_6_0, S_LI_ink_36 H.1.1, ix_n (by omega) (by decide), H.rp.ink hi (by decide), cN_nI (by omega)]
        rfl
      · rw [T_LI_ink_6_1, S_LI_ink_49 H.1.1, ix_n (by omega) (by decide), H.rp.ink hi (by decide), cN_nI (by omega)]
        rfl
      · rw [T_LI_ink_6_2, S_LI_ink_62 H.1.1, ix_n (by omega) (by decide), H.rp.ink hi (by decide), cN_nI (by omega)]
        rfl
      · rw [T_LI_ink_6_3, S_LI_ink_75 H.1.1, T_Port_deedsOfInk H.sk H.rp]
        simp only [zbd_i, tl_s, S_LI_ink_83]
    · rw [if_neg c2]
      refine CA.x t H rfl ?_
      rw [S_LI_ink_0 H.1.1, C_needInk H, if_pos c]
      simp only [zbd_i, tl_n, S_LI_ink_5]
      rw [T_LI_ink_6_d (swd (by decide) c2), S_LI_ink_84]
      rfl
  · rw [if_neg c]
    refine CA.x t H rfl ?_
    rw [S_LI_ink_0 H.1.1, C_needInk H, if_neg c]
    simp only [zbd_e]
    exact evx_nil rfl
theorem chk2 {c : Prop} [Decidable c] {A B C D : Option (zO × Hp)} : (if bI c = 0 then (if nI 2 ≤ 0 then A else C) else (if nI 0 ≤ 0 then B else D)) = if c then B else C := by
  by_cases hc : c
  · rw [if_neg (by rw [bI_0]; exact fun q => q hc), if_pos (by decide), if_pos hc]
  · rw [if_pos (by rw [bI_0]; exact hc), if_neg (by decide), if_neg hc]
theorem chk3 {c : Prop} [Decidable c] {A B C : Option (zO × Hp)} : (if bI c = 0 then (if nI 1 ≤ 0 then A else C) else B) = if c then B else C := by
  by_cases hc : c
  · rw [if_neg (by rw [bI_0]; exact fun q => q hc), if_pos hc]
  · rw [if_pos (by rw [bI_0]; exact hc), if_neg (by decide), if_neg hc]
theorem chk0 {c : Prop} [Decidable c] {A B : Option (zO × Hp)} : (if bI c = 0 then A else B) = if c then B else A := by
  by_cases hc : c
  · rw [if_neg (by rw [bI_0]; exact fun q => q hc), if_pos hc]
  · rw [if_pos (by rw [bI_0]; exact hc), if_neg hc]
theorem R_ink (H : RI h R S K A tl T ft) (ok : Ok S) : RB z d h R 237 [.ref R, .int v, .int w] (if inR v S.2.2.1 then (if inR w 4 then 0 else 2) else 1) (inV S.1 S.2.2.2 v (cN w)) ((S, ls, Lo), K, A, tl, T, ft) := by
  have h6 := ok.1.2.2.2.2.1
  have h8 := ok.1.2.2.2.2.2
  have e : bI (isin w (nI 0) (nI 3)) = bI (inR w 4) := bI_cg (isin_n (by decide))
  by_cases c : inR v S.2.2.1
  · rw [if_pos c]
    by_cases c2 : inR w 4
    · rw [if_pos c2]
      refine RB.g H ?_
      have G := H.w0 (v := nI 0)
      obtain ⟨i, hi, rfl⟩ := (inR_iff (by omega)).mp c
      obtain ⟨j, hj, rfl⟩ := (inR_iff (by decide)).mp c2
      rw [S_M_ink_0 H.1.1, R_isInk H ok]
      simp only [zbd_i, tl_s]
      rw [S_M_ink_6 H.1.1, chk3, if_pos c, T_M_isIn, e]
      simp only [zbd_i, tl_s]
      rw [S_M_ink_19 H.1.1, chk2, if_pos c2, cN_nI (by omega)]
      generalize zwI h R 0 (nI 0) = g at *
      unfold inV
      rcases (by omega : j = 0 ∨ j = 1 ∨ j = 2 ∨ j = 3) with r | r | r | r <;> subst r
      · rw [if_neg (by decide), T_M_ofInk G.1.1 (by omega), G.i, cN_nI (by omega)]
        simp only [zbd_i, tl_s, S_M_ink_50]
      · rw [if_neg (by decide), T_M_ofInk G.1.1 (by omega), G.i, cN_nI (by omega)]
        simp only [zbd_i, tl_s, S_M_ink_50]
      · rw [if_neg (by decide), T_M_ofInk G.1.1 (by omega), G.i, cN_nI (by omega)]
        simp only [zbd_i, tl_s, S_M_ink_50]
      · rw [if_pos (by decide), T_M_jarOf G.1.1 (by rw [G.i]; exact ok.1.2.2.1) h8, G.i]
        simp only [zbd_i, tl_s, S_M_ink_58]
    · rw [if_neg c2]
      refine RB.t H (by decide) (w := nI 0) ?_
      rw [S_M_ink_0 H.1.1, R_isInk H ok]
      simp only [zbd_i, tl_s]
      rw [S_M_ink_6 H.1.1, chk3, if_pos c, T_M_isIn, e]
      simp only [zbd_i, tl_s]
      rw [S_M_ink_19 H.1.1, chk2, if_neg c2]
  · rw [if_neg c]
    refine RB.t H (by decide) (w := nI 0) ?_
    rw [S_M_ink_0 H.1.1, R_isInk H ok]
    simp only [zbd_i, tl_s]
    rw [S_M_ink_6 H.1.1, chk3, if_neg c]
theorem C_party (t : Tp h) (H : CI z h X S ls Lo K A tl T ft) (ok : Ok S) : CA z d h X Lo 106 [.ref X, .int v, .int w] [2, 4] (if inR v S.2.1 then (if inR w 7 then 0 else 2) else 1) (paV S.1 S.2.1 S.2.2.2 v (cN w)) ((S, ls, Lo), K, A, tl, T, ft) := by
  have h6 := ok.1.2.2.2.1
  by_cases c : inR v S.2.1
  · rw [if_pos c]
    by_cases c2 : inR w 7
    · rw [if_pos c2]
      refine CA.rf H ?_
      obtain ⟨i, hi, rfl⟩ := (inR_iff (by omega)).mp c
      obtain ⟨j, hj, rfl⟩ := (inR_iff (by decide)).mp c2
      rw [S_LI_party_0 H.1.1, C_needParty H, if_pos c, cN_nI (by omega)]
      simp only [zbd_i, tl_n, S_LI_party_5]
      unfold paV
      rcases (by omega : j = 0 ∨ j = 1 ∨ j = 2 ∨ j = 3 ∨ j = 4 ∨ j = 5 ∨ j = 6) with r | r | r | r | r | r | r <;> subst r
      · rw [T_LI_party_6_0, S_LI_party_48 H.1.1, ix_n (by omega) (by decide), H.rp.party hi (by decide), cN_nI (by omega)]
        rfl
      · rw [T_LI_party_6_1, S_LI_party_61 H.1.1, ix_n (by omega) (by decide), H.rp.party hi (by decide), cN_nI (by omega)]
        rcases (ok.2.2.2.1 i hi).1 with e | e
        · rw [if_pos (show S.1 (15 + 2 * i + 1) = 0 by rw [e]; rfl)]
          exact congrArg (fun x => some (Sum.inl (some (Value.int x)), h)) e.symm
        · rw [if_neg (show ¬ S.1 (15 + 2 * i + 1) = 0 by rw [e]; decide)]
          exact congrArg (fun x => some (Sum.inl (some (Value.int x)), h)) e.symm
      · rw [T_LI_party_6_2, S_LI_party_82 H.1.1, T_Port_shareOf H.sk H.rp hi, cN_nI (by omega)]
        simp only [zbd_i, tl_s, S_LI_party_90]
      · rw [T_LI_party_6_3, S_LI_party_91 H.1.1, T_Port_leastNet H.sk H.rp ok.2.1]
        simp only [zbd_i, tl_s, S_LI_party_99]
      · rw [T_LI_party_6_4, S_LI_party_100 H.1.1, T_Port_bestReading H.sk H.rp ok.2.1]
        simp only [zbd_i, tl_s]
        rw [S_LI_party_117 H.1.1, T_Port_readingOf H.sk H.rp]
        simp only [zbd_i, tl_s]
        rw [S_LI_party_120 H.1.1, T_Port_netOf H.sk H.rp ok.2.1]
        simp only [zbd_i, tl_s, S_LI_party_123]
        rfl
      · rw [T_LI_party_6_5, S_LI_party_124 H.1.1, T_Port_bestReading H.sk H.rp ok.2.1]
        simp only [zbd_i, tl_s, S_LI_party_132]
      · rw [T_LI_party_6_6, S_LI_party_133 H.1.1, T_Port_meanNet H.sk H.rp ok.2.1]
        simp only [zbd_i, tl_s, S_LI_party_141]
    · rw [if_neg c2]
      refine CA.x t H rfl ?_
      rw [S_LI_party_0 H.1.1, C_needParty H, if_pos c]
      simp only [zbd_i, tl_n, S_LI_party_5]
      rw [T_LI_party_6_d (swd (by decide) c2), S_LI_party_142]
      rfl
  · rw [if_neg c]
    refine CA.x t H rfl ?_
    rw [S_LI_party_0 H.1.1, C_needParty H, if_neg c]
    simp only [zbd_e]
    exact evx_nil rfl
theorem R_party (H : RI h R S K A tl T ft) (ok : Ok S) : RB z d h R 235 [.ref R, .int v, .int w] (if inR v S.2.1 then (if inR w 7 then 0 else 2) else 1) (paV S.1 S.2.1 S.2.2.2 v (cN w)) ((S, ls, Lo), K, A, tl, T, ft) := by
  have h6 := ok.1.2.2.2.1
  have h8 := ok.1.2.2.2.2.2
  have e : bI (isin w (nI 0) (nI 6)) = bI (inR w 7) := bI_cg (isin_n (by decide))
  by_cases c : inR v S.2.1
  · rw [if_pos c]
    by_cases c2 : inR w 7
    · rw [if_pos c2]
      refine RB.g H ?_
      have G := H.w0 (v := nI 0)
      have g5 : zI (zwI h R 0 (nI 0)) (R + 1) 5 = nI S.2.2.2 := by rw [G.i]; exact ok.1.2.2.1
      have g3 : zI (zwI h R 0 (nI 0)) (R + 1) 3 = nI S.2.1 := by rw [G.i]; exact ok.1.1
      obtain ⟨i, hi, rfl⟩ := (inR_iff (by omega)).mp c
      obtain ⟨j, hj, rfl⟩ := (inR_iff (by decide)).mp c2
      rw [S_M_party_0 H.1.1, R_isParty H ok]
      simp only [zbd_i, tl_s]
      rw [S_M_party_6, chk0, if_pos c, T_M_isIn, e]
      simp only [zbd_i, tl_s]
      rw [S_M_party_20, chk0, if_pos c2, S_M_party_28 H.1.1, if_pos (by decide), cN_nI (by omega)]
      generalize zwI h R 0 (nI 0) = g at *
      unfold paV
      rcases (by omega : j = 0 ∨ j = 1 ∨ j = 2 ∨ j = 3 ∨ j = 4 ∨ j = 5 ∨ j = 6) with r | r | r | r | r | r | r <;> subst r
      · rw [if_neg (by decide), pk_mul, nI_add, nI_add, ix_n (by omega) (by decide), G.i, cN_nI (by omega)]
        rfl
      · rw [if_neg (by decide), pk_mul, nI_add, nI_add, ix_n (by omega) (by decide), G.i, cN_nI (by omega)]
        rfl
      · rw [if_pos (by decide), if_pos (by decide), T_M_shareOf G.1.1 hi g3 h6, G.i, cN_nI (by omega)]
        simp only [zbd_i, tl_s, S_M_party_69]
      · rw [if_pos (by decide), if_neg (by decide), if_pos (by decide), T_M_readingOf G.1.1 g5 h8, G.i]
        simp only [zbd_i, tl_s]
        rw [S_M_party_83 G.1.1, T_M_netOf G.1.1 g5 h8, G.i]
        simp only [zbd_i, tl_s, S_M_party_86]
        rfl
      · rw [if_pos (by decide), if_neg (by decide), if_neg (by decide), if_pos (by decide), T_M_readingOf G.1.1 g5 h8, G.i]
        simp only [zbd_i, tl_s]
        rw [S_M_party_100 G.1.1, T_M_netOf G.1.1 g5 h8, G.i]
        simp only [zbd_i, tl_s, S_M_party_103]
        rfl
      · rw [if_pos (by decide), if_neg (by decide), if_neg (by decide), if_neg (by decide), if_pos (by decide), T_M_readingOf G.1.1 g5 h8, G.i]
        simp only [zbd_i, tl_s, S_M_party_115, S_M_party_123]
      · rw [if_pos (by decide), if_neg (by decide), if_neg (by decide), if_neg (by decide), if_neg (by decide), T_M_fortuneOf G.1.1 g5 h8, G.i]
        simp only [zbd_i, tl_s, S_M_party_123]
    · rw [if_neg c2]
      refine RB.t H (by decide) (w := nI 0) ?_
      rw [S_M_party_0 H.1.1, R_isParty H ok]
      simp only [zbd_i, tl_s]
      rw [S_M_party_6, chk0, if_pos c, T_M_isIn, e]
      simp only [zbd_i, tl_s]
      rw [S_M_party_20, chk0, if_neg c2, S_M_party_28 H.1.1, if_neg (by decide)]
  · rw [if_neg c]
    refine RB.t H (by decide) (w := nI 0) ?_
    rw [S_M_party_0 H.1.1, R_isParty H ok]
    simp only [zbd_i, tl_s]
    rw [S_M_party_6, chk0, if_neg c, S_M_party_28 H.1.1, if_neg (by decide)]
end
