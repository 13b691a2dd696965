/-! OWES, CLEARED, PIVOT: the calls -/
def owK (np : Nat) (v w : Int32) : Nat := if inR v np then (if inR w np then (if v = w then 2 else 0) else 1) else 1
def pvS (P : Row) (np nd : Nat) : Nat → Int32 × Int32
  | 0 => (-1, nI 0)
  | k + 1 => if (pvS P np nd k).1 = -1 then (nI k, dcV P np nd (nI k)) else if (pvS P np nd k).2 ≤ dcV P np nd (nI k) then pvS P np nd k else (nI k, dcV P np nd (nI k))
section
variable {z : ZE} {d : Nat} {h h' g : Hp} {X R p : Nat} {S S1 : PSt} {K : Option Img} {A : List PSt} {tl : Nat} {T : Row} {ft : Int32} {ls : List LN} {Lo : Option Nat} {P : Row} {np ni nd m k : Nat} {as : List Value} {es : List Nat} {sp u v w b c : Int32}
theorem pvS_u : pvS P np nd (k + 1) = if (pvS P np nd k).1 = -1 then (nI k, dcV P np nd (nI k)) else if (pvS P np nd k).2 ≤ dcV P np nd (nI k) then pvS P np nd k else (nI k, dcV P np nd (nI k)) := rfl
theorem pvS_i : ∀ k, (pvS P np nd k).1 = -1 ∨ (pvS P np nd k).2 = dcV P np nd (pvS P np nd k).1
  | 0 => Or.inl rfl
  | k + 1 => by
    rw [pvS_u]
    split
    · exact Or.inr rfl
    · split
      · exact pvS_i k
      · exact Or.inr rfl
theorem C_owes (t : Tp h) (H : CI z h X S ls Lo K A tl T ft) (ok : Ok S) : CA z d h X Lo 133 [.ref X, .int v, .int w] [2, 0] (owK S.2.1 v w) (dvV S.1 S.2.2.2 v w (-1)) ((S, ls, Lo), K, A, tl, T, ft) := by
  unfold owK
  by_cases c : inR v S.2.1
  · rw [if_pos c]
    have q1 : ev z d 133 0 [.ref X, .int v, .int w] [] h = ev z d 133 5 [.ref X, .int v, .int w] [] h := by
      rw [S_LI_owes_0 H.1.1, C_needParty H, if_pos c]
      simp only [zbd_i, tl_n]
    rw [S_LI_owes_5 H.1.1, C_needParty H] at q1
    by_cases c2 : inR w S.2.1
    · rw [if_pos c2]
      rw [if_pos c2] at q1
      simp only [zbd_i, tl_n] at q1
      rw [S_LI_owes_10, S_LI_needTwo_0] at q1
      by_cases c3 : v = w
      · rw [if_pos c3]
        rw [if_pos c3] at q1
        refine CA.x t H rfl ?_
        rw [q1]
        simp only [zbd_e]
        exact evx_nil rfl
      · rw [if_neg c3]
        rw [if_neg c3] at q1
        simp only [zbd_i, tl_n] at q1
        refine CA.rf H ?_
        rw [q1, S_LI_owes_15 H.1.1, T_Port_debtOf (ni := S.2.2.1) H.sk H.rp ok c3]
        simp only [zbd_i, tl_s, S_LI_owes_24]
    · rw [if_neg c2]
      rw [if_neg c2] at q1
      refine CA.x t H rfl ?_
      rw [q1]
      simp only [zbd_e]
      exact evx_nil rfl
  · rw [if_neg c]
    refine CA.x t H rfl ?_
    rw [S_LI_owes_0 H.1.1, C_needParty H, if_neg c]
    simp only [zbd_e]
    exact evx_nil rfl
theorem R_owes (H : RI h R S K A tl T ft) (ok : Ok S) : RB z d h R 275 [.ref R, .int v, .int w] (owK S.2.1 v w) (dvV S.1 S.2.2.2 v w (-1)) ((S, ls, Lo), K, A, tl, T, ft) := by
  have q1 : ev z d 275 0 [.ref R, .int v, .int w] [] h = ev z d 275 6 [.ref R, .int v, .int w] [.int (bI (inR v S.2.1)), .ref R] h := by
    rw [S_M_owes_0 H.1.1, R_isParty H ok]
    simp only [zbd_i, tl_s]
  rw [S_M_owes_6 H.1.1, chk3, R_isParty H ok] at q1
  simp only [zbd_i, tl_s] at q1
  rw [S_M_owes_14 H.1.1, chk3] at q1
  unfold owK
  by_cases c : inR v S.2.1
  · rw [if_pos c]
    rw [if_pos c] at q1
    by_cases c2 : inR w S.2.1
    · rw [if_pos c2]
      rw [if_pos c2] at q1
      by_cases c3 : v = w
      · rw [if_pos c3]
        rw [if_pos c3, if_neg (by decide)] at q1
        exact RB.t H (by decide) q1
      · rw [if_neg c3]
        rw [if_neg c3, if_pos (by decide)] at q1
        have G := H.w0 (v := nI 0)
        refine RB.g H ?_
        rw [q1, T_M_owesBy (P := S.1) (np := S.2.1) (ni := S.2.2.1) (nd := S.2.2.2) G.1.1 G.i ok]
        simp only [zbd_i, tl_s, S_M_owes_52]
    · rw [if_neg c2]
      rw [if_neg c2] at q1
      exact RB.t H (by decide) q1
  · rw [if_neg c]
    rw [if_neg c] at q1
    exact RB.t H (by decide) q1
/-! CLEARED -/
theorem C_cleared (H : CI z h X S ls Lo K A tl T ft) (ok : Ok S) : CA z d h X Lo 134 [.ref X] [] 0 (dcV S.1 S.2.1 S.2.2.2 (-1)) ((S, ls, Lo), K, A, tl, T, ft) := by
  refine CA.rf H ?_
  rw [S_LI_cleared_0 H.1.1, T_Port_clearedWithout (ni := S.2.2.1) H.sk H.rp ok]
  simp only [zbd_i, tl_s, S_LI_cleared_8]
theorem T_cb_l (hR : RSk h R) (hi1 : zI h (R + 1) = P) (ok : Ok (P, np, ni, nd)) {x : Nat} (hx : x < np) : ∀ n k, k + n = np → ev z d 276 20 [.ref R, .int c, .int u, .int (nI x), .int (smS (fun o => if o = x then nI 0 else dvV P nd (nI x) (nI o) c - dvV P nd (nI o) (nI x) c) k), .int (nI k)] [] h = ev z d 276 20 [.ref R, .int c, .int u, .int (nI x), .int (smS (fun o => if o = x then nI 0 else dvV P nd (nI x) (nI o) c - dvV P nd (nI o) (nI x) c) np), .int (nI np)] [] h
  | 0, k, hk => by
    obtain rfl : k = np := by omega
    rfl
  | n + 1, k, hk => by
    have h6 : np ≤ 6 := ok.1.2.2.2.1
    rw [← T_cb_l hR hi1 ok hx n (k + 1) (by omega), smS_u]
    rw [S_M_clearedBy_20 hR, hi1, show P 3 = nI np from ok.1.1, if_neg (nI_ge (by omega) (by omega)), nI_add]
    by_cases q : k = x
    · rw [if_pos (by rw [q]), if_pos q]
    · rw [if_neg (fun e => q ((nI_eq (by omega) (by omega)).mp e)), if_neg q, T_M_owesBy (ni := ni) hR hi1 ok]
      simp only [zbd_i, tl_s]
      rw [S_M_clearedBy_51 hR, T_M_owesBy (ni := ni) hR hi1 ok]
      simp only [zbd_i, tl_s, S_M_clearedBy_59, nI_add]
theorem T_cb_m (hR : RSk h R) (hi1 : zI h (R + 1) = P) (ok : Ok (P, np, ni, nd)) : ∀ n k w4 w5, k + n = np → ev z d 276 4 [.ref R, .int c, .int (smS (fun x => mx0 (smS (dcT P nd (nI x) c) nd)) k), .int (nI k), w4, w5] [] h = some (.inl (some (.int (dcV P np nd c))), h)
  | 0, k, w4, w5, hk => by
    have h6 : np ≤ 6 := ok.1.2.2.2.1
    obtain rfl : k = np := by omega
    rw [S_M_clearedBy_4 hR, hi1, show P 3 = nI k from ok.1.1, if_pos (nI_le (Nat.le_refl _) (by omega))]
    rfl
  | n + 1, k, w4, w5, hk => by
    have h6 : np ≤ 6 := ok.1.2.2.2.1
    have e' := T_cb_l (z := z) (d := d) (c := c) (u := smS (fun x => mx0 (smS (dcT P nd (nI x) c) nd)) k) hR hi1 ok (show k < np by omega) np 0 (by omega)
    rw [S_M_clearedBy_4 hR, hi1, show P 3 = nI np from ok.1.1, if_neg (nI_ge (by omega) (by omega))]
    refine e'.trans ?_
    rw [S_M_clearedBy_20 hR, hi1, show P 3 = nI np from ok.1.1, if_pos (nI_le (Nat.le_refl _) (by omega)), T_M_greater, dc_x ok (by omega)]
    simp only [zbd_i, tl_s, S_M_clearedBy_76, nI_add]
    exact T_cb_m hR hi1 ok n (k + 1) _ _ (by omega)
theorem T_M_clearedBy (hR : RSk h R) (hi1 : zI h (R + 1) = P) (ok : Ok (P, np, ni, nd)) : ev z d 276 0 [.ref R, .int c, zu, zu, zu, zu] [] h = some (.inl (some (.int (dcV P np nd c))), h) := by
  rw [S_M_clearedBy_0]
  exact T_cb_m hR hi1 ok np 0 _ _ (by omega)
theorem R_cleared (H : RI h R S K A tl T ft) (ok : Ok S) : RB z d h R 277 [.ref R] 0 (dcV S.1 S.2.1 S.2.2.2 (-1)) ((S, ls, Lo), K, A, tl, T, ft) := by
  refine RB.g H ?_
  have G := H.w0 (v := nI 0)
  rw [S_M_cleared_0 H.1.1, T_M_clearedBy (P := S.1) (np := S.2.1) (ni := S.2.2.1) (nd := S.2.2.2) G.1.1 G.i ok]
  simp only [zbd_i, tl_s, S_M_cleared_10]
/-! PIVOT -/
theorem C_pivot_l (H : CI z h X S ls Lo K A tl T ft) (ok : Ok S) : ∀ n k w4, k + n = S.2.1 → ev z d 136 6 [.ref X, .int (pvS S.1 S.2.1 S.2.2.2 k).1, .int (pvS S.1 S.2.1 S.2.2.2 k).2, .int (nI k), w4] [] h = some (.inl (some (.int (pvS S.1 S.2.1 S.2.2.2 S.2.1).1)), h)
  | 0, k, w4, hk => by
    have h6 := ok.1.2.2.2.1
    obtain rfl : k = S.2.1 := by omega
    rw [S_LI_pivot_6 H.1.1, H.rp.cp, if_pos (nI_le (Nat.le_refl _) (by omega))]
  | n + 1, k, w4, hk => by
    have h6 := ok.1.2.2.2.1
    rw [← C_pivot_l H ok n (k + 1) (.int (dcV S.1 S.2.1 S.2.2.2 (nI k))) (by omega), pvS_u]
    rw [S_LI_pivot_6 H.1.1, H.rp.cp, if_neg (nI_ge (by omega) (by omega)), T_Port_clearedWithout (ni := S.2.2.1) H.sk H.rp ok]
    simp only [zbd_i, tl_s, S_LI_pivot_25, nI_add]
    split
    · rfl
    · split <;> rfl
theorem C_pivot (H : CI z h X S ls Lo K A tl T ft) (ok : Ok S) : CA z d h X Lo 136 [.ref X, zu, zu, zu, zu] [] 0 (pvS S.1 S.2.1 S.2.2.2 S.2.1).1 ((S, ls, Lo), K, A, tl, T, ft) := by
  refine CA.rf H ?_
  rw [S_LI_pivot_0]
  exact C_pivot_l H ok S.2.1 0 zu (by omega)
theorem R_pivot (H : RI h R S K A tl T ft) (ok : Ok S) : RB z d h R 279 [.ref R, zu, zu] 0 (pvS S.1 S.2.1 S.2.2.2 S.2.1).1 ((S, ls, Lo), K, A, tl, T, ft) := by
  refine RB.g H ?_
  have h6 := ok.1.2.2.2.1
  have G := H.w0 (v := nI 0)
  have i3 : zI (zwI h R 0 (nI 0)) (R + 1) 3 = nI S.2.1 := by rw [G.i]; exact ok.1.1
  have cb : ∀ c, ev z d 276 0 [.ref R, .int c, zu, zu, zu, zu] [] (zwI h R 0 (nI 0)) = some (.inl (some (.int (dcV S.1 S.2.1 S.2.2.2 c))), zwI h R 0 (nI 0)) := fun c => T_M_clearedBy (P := S.1) (np := S.2.1) (ni := S.2.2.1) (nd := S.2.2.2) G.1.1 G.i ok
  rw [S_M_pivot_0 H.1.1]
  generalize zwI h R 0 (nI 0) = g at *
  refine (lp (E := fun k => ev z d 279 9 [.ref R, .int (pvS S.1 S.2.1 S.2.2.2 k).1, .int (nI k)] [] g) S.2.1 ?_).trans ?_
  · intro k hk
    rw [S_M_pivot_9 G.1.1, i3, if_neg (nI_ge hk (by omega)), cb, pvS_u, nI_add]
    by_cases q : (pvS S.1 S.2.1 S.2.2.2 k).1 = -1
    · rw [if_pos q, if_pos q]
    · rw [if_neg q, if_neg q]
      simp only [zbd_i, tl_s]
      rw [S_M_pivot_29 G.1.1, cb]
      simp only [zbd_i, tl_s, S_M_pivot_34, nI_add]
      rw [((pvS_i k).resolve_left q)]
      split <;> rfl
  · rw [S_M_pivot_9 G.1.1, i3, if_pos (nI_le (Nat.le_refl _) (by omega))]
end
