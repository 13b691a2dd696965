/-! the methods of OWES, CLEARED, PIVOT -/
theorem dv_c {α : Type} {F : Int32 → α} {a b c e f : Prop} [Decidable a] [Decidable b] [Decidable c] [Decidable e] [Decidable f] {s x y : Int32} : (if bI a = 0 then F s else if bI b = 0 then F s else if c then (if bI e = 0 then F s else if f then F (s + x) else F (s + y)) else F s) = F (s + if a then (if b then (if c then (if e then (if f then x else y) else nI 0) else nI 0) else nI 0) else nI 0) := by
  simp only [bI_0]
  by_cases a <;> by_cases b <;> by_cases c <;> by_cases e <;> by_cases f <;> simp only [*, if_true, if_false, not_true_eq_false, not_false_eq_true, add_n0]
theorem dv_d {α : Type} {F : Int32 → α} {a b c e f : Prop} [Decidable a] [Decidable b] [Decidable c] [Decidable e] [Decidable f] {s x y : Int32} : (if bI a = 0 then F s else if bI b = 0 then (if c then (if bI e = 0 then F s else if f then F (s + x) else F (s + y)) else F s) else F s) = F (s + if a then (if ¬ b then (if c then (if e then (if f then x else y) else nI 0) else nI 0) else nI 0) else nI 0) := by
  simp only [bI_0]
  by_cases a <;> by_cases b <;> by_cases c <;> by_cases e <;> by_cases f <;> simp only [*, if_true, if_false, not_true_eq_false, not_false_eq_true, add_n0]
theorem dv_m {α : Type} {F : Int32 → α} {a b c e f i j k : Prop} [Decidable a] [Decidable b] [Decidable c] [Decidable e] [Decidable f] [Decidable i] [Decidable j] [Decidable k] {s x : Int32} : (if bI a = 0 then F s else if b then F s else if c then F s else if e then F s else if f then (if i then F (s + x) else (if j then (if k then F (s + (-x)) else F (s + nI 0)) else F (s + nI 0))) else (if j then (if k then F (s + (-x)) else F (s + nI 0)) else F (s + nI 0))) = F (s + if (a ∧ ¬ b) ∧ ¬ c ∧ ¬ e then (if f ∧ i then x else if j ∧ k then -x else nI 0) else nI 0) := by
  simp only [bI_0]
  by_cases a <;> by_cases b <;> by_cases c <;> by_cases e <;> by_cases f <;> by_cases i <;> by_cases j <;> by_cases k <;> simp only [*, if_true, if_false, not_true_eq_false, not_false_eq_true, add_n0, and_true, and_false, true_and, false_and]
section
variable {z : ZE} {d : Nat} {h h' g : Hp} {X R p : Nat} {S S1 : PSt} {K : Option Img} {A : List PSt} {tl : Nat} {T : Row} {ft : Int32} {ls : List LN} {Lo : Option Nat} {P : Row} {np ni nd m k : Nat} {as : List Value} {es : List Nat} {sp u v w b c : Int32}
theorem dvT_c (ok : Ok (P, np, ni, nd)) (huv : u ≠ v) {i : Nat} (hi : i < nd) : dvT P nd u v (-1) i = if P (45 + 12 * i + 1) = u ∨ P (45 + 12 * i + 2) = u then (if P (45 + 12 * i + 1) = v ∨ P (45 + 12 * i + 2) = v then (if P (45 + 12 * i + 11) = 0 then (if vld P i (inS P (nI 1) nd) = true then (if P (45 + 12 * i + 1) = u then P (45 + 12 * i + 3) else -P (45 + 12 * i + 3)) else nI 0) else nI 0) else nI 0) else nI 0 := by
  have h6 : np ≤ 6 := ok.1.2.2.2.1
  obtain ⟨a, b, ha, hb, hab, e1, e2, -⟩ := ok_i ok hi
  have n1 : P (45 + 12 * i + 1) ≠ -1 := by rw [e1]; exact nI_ne1 (by omega)
  have n2 : P (45 + 12 * i + 2) ≠ -1 := by rw [e2]; exact nI_ne1 (by omega)
  have n3 : P (45 + 12 * i + 1) ≠ P (45 + 12 * i + 2) := by rw [e1, e2]; exact fun q => hab ((nI_eq (by omega) (by omega)).mp q)
  have z0 : nI 0 = 0 := rfl
  unfold dvT dvA
  simp only [Bool.and_eq_true, decide_eq_true_eq, z0]
  generalize vld P i (inS P (nI 1) nd) = V at *
  generalize P (45 + 12 * i + 1) = D1 at *
  generalize P (45 + 12 * i + 2) = D2 at *
  generalize P (45 + 12 * i + 11) = D11 at *
  clear ok e1 e2 ha hb h6
  grind
theorem dcT_c (ok : Ok (P, np, ni, nd)) {i : Nat} (hi : i < nd) : dcT P nd u c i = if P (45 + 12 * i + 1) = u ∨ P (45 + 12 * i + 2) = u then (if ¬ (P (45 + 12 * i + 1) = c ∨ P (45 + 12 * i + 2) = c) then (if P (45 + 12 * i + 11) = 0 then (if vld P i (inS P (nI 1) nd) = true then (if P (45 + 12 * i + 1) = u then P (45 + 12 * i + 3) else -P (45 + 12 * i + 3)) else nI 0) else nI 0) else nI 0) else nI 0 := by
  have z0 : nI 0 = 0 := rfl
  unfold dcT dvA
  simp only [Bool.and_eq_true, decide_eq_true_eq, z0]
  generalize vld P i (inS P (nI 1) nd) = V at *
  generalize P (45 + 12 * i + 1) = D1 at *
  generalize P (45 + 12 * i + 2) = D2 at *
  generalize P (45 + 12 * i + 11) = D11 at *
  clear ok
  grind
theorem T_debt_l (hP : PSk h p) (H : PRp h p P np ni nd) (ok : Ok (P, np, ni, nd)) (huv : u ≠ v) : ∀ n k w, k + n = nd → ev z d 77 12 [.ref p, .int u, .int v, .int (inS P (nI 1) nd), .int (smS (dvT P nd u v (-1)) k), .int (nI k), w] [] h = some (.inl (some (.int (dvV P nd u v (-1)))), h)
  | 0, k, w, hk => by
    have h8 := H.ld
    obtain rfl : k = nd := by omega
    rw [S_Port_debtOf_12 hP, H.cd, if_pos (nI_le (Nat.le_refl _) (by omega))]
    rfl
  | n + 1, k, w, hk => by
    have h8 := H.ld
    have hk1 : k < nd := by omega
    have ko : zK h (p + 20 + k) = 1 := PSk_o4 hP (by omega)
    rw [← T_debt_l hP H ok huv n (k + 1) (.ref (p + 20 + k)) (by omega), smS_u, dvT_c ok huv hk1]
    rw [S_Port_debtOf_12 hP, H.cd, if_neg (nI_ge (by omega) (by omega)), ix_n (by omega) (by decide), T_Deed_isOf ko]
    simp only [zbd_i, tl_s]
    rw [S_Port_debtOf_36 hP (by omega), T_Deed_isOf ko]
    simp only [zbd_i, tl_s]
    rw [S_Port_debtOf_45 hP (by omega), T_Port_isValid hP H hk1]
    simp only [zbd_i, tl_s]
    rw [S_Port_debtOf_63 hP (by omega), nI_add, H.deed hk1 (by decide), H.deed hk1 (by decide), H.deed hk1 (by decide), H.deed hk1 (by decide)]
    exact dv_c (F := fun x => ev z d 77 12 [.ref p, .int u, .int v, .int (inS P (nI 1) nd), .int x, .int (nI (k + 1)), .ref (p + 20 + k)] [] h)
theorem T_Port_debtOf (hP : PSk h p) (H : PRp h p P np ni nd) (ok : Ok (P, np, ni, nd)) (huv : u ≠ v) : ev z d 77 0 [.ref p, .int u, .int v, zu, zu, zu, zu] [] h = some (.inl (some (.int (dvV P nd u v (-1)))), h) := by
  rw [S_Port_debtOf_0 hP, T_Port_inState hP H]
  simp only [zbd_i, tl_s, S_Port_debtOf_5]
  exact T_debt_l hP H ok huv nd 0 zu (by omega)
theorem T_cl_l (hP : PSk h p) (H : PRp h p P np ni nd) (ok : Ok (P, np, ni, nd)) {j : Nat} : ∀ n k w, k + n = nd → ∃ w', ev z d 79 26 [.ref p, .int c, .int (inS P (nI 1) nd), .int u, .int (nI j), .int (smS (dcT P nd (nI j) c) k), .int (nI k), w] [] h = ev z d 79 26 [.ref p, .int c, .int (inS P (nI 1) nd), .int u, .int (nI j), .int (smS (dcT P nd (nI j) c) nd), .int (nI nd), w'] [] h
  | 0, k, w, hk => by
    obtain rfl : k = nd := by omega
    exact ⟨w, rfl⟩
  | n + 1, k, w, hk => by
    have h8 := H.ld
    have hk1 : k < nd := by omega
    have ko : zK h (p + 20 + k) = 1 := PSk_o4 hP (by omega)
    obtain ⟨w', e'⟩ := T_cl_l hP H ok (j := j) n (k + 1) (.ref (p + 20 + k)) (by omega)
    refine ⟨w', ?_⟩
    rw [← e', smS_u, dcT_c ok hk1]
    rw [S_Port_clearedWithout_26 hP, H.cd, if_neg (nI_ge (by omega) (by omega)), ix_n (by omega) (by decide), T_Deed_isOf ko]
    simp only [zbd_i, tl_s]
    rw [S_Port_clearedWithout_51 hP (by omega), T_Deed_isOf ko]
    simp only [zbd_i, tl_s]
    rw [S_Port_clearedWithout_60 hP (by omega), T_Port_isValid hP H hk1]
    simp only [zbd_i, tl_s]
    rw [S_Port_clearedWithout_78 hP (by omega), nI_add, H.deed hk1 (by decide), H.deed hk1 (by decide), H.deed hk1 (by decide), H.deed hk1 (by decide)]
    exact dv_d (F := fun x => ev z d 79 26 [.ref p, .int c, .int (inS P (nI 1) nd), .int u, .int (nI j), .int x, .int (nI (k + 1)), .ref (p + 20 + k)] [] h)
theorem T_cl_m (hP : PSk h p) (H : PRp h p P np ni nd) (ok : Ok (P, np, ni, nd)) : ∀ n k w5 w6 w7, k + n = np → ev z d 79 11 [.ref p, .int c, .int (inS P (nI 1) nd), .int (smS (fun x => mx0 (smS (dcT P nd (nI x) c) nd)) k), .int (nI k), w5, w6, w7] [] h = some (.inl (some (.int (dcV P np nd c))), h)
  | 0, k, w5, w6, w7, hk => by
    have h6 : np ≤ 6 := ok.1.2.2.2.1
    obtain rfl : k = np := by omega
    rw [S_Port_clearedWithout_11 hP, H.cp, if_pos (nI_le (Nat.le_refl _) (by omega))]
    rfl
  | n + 1, k, w5, w6, w7, hk => by
    have h6 : np ≤ 6 := ok.1.2.2.2.1
    have h8 := H.ld
    obtain ⟨w', e'⟩ := T_cl_l (z := z) (d := d) (c := c) (u := smS (fun x => mx0 (smS (dcT P nd (nI x) c) nd)) k) hP H ok (j := k) nd 0 w7 (by omega)
    rw [S_Port_clearedWithout_11 hP, H.cp, if_neg (nI_ge (by omega) (by omega))]
    refine e'.trans ?_
    rw [S_Port_clearedWithout_26 hP, H.cd, if_pos (nI_le (Nat.le_refl _) (by omega)), nI_add]
    exact T_cl_m hP H ok n (k + 1) _ _ _ (by omega)
theorem T_Port_clearedWithout (hP : PSk h p) (H : PRp h p P np ni nd) (ok : Ok (P, np, ni, nd)) : ev z d 79 0 [.ref p, .int c, zu, zu, zu, zu, zu, zu] [] h = some (.inl (some (.int (dcV P np nd c))), h) := by
  rw [S_Port_clearedWithout_0 hP, T_Port_inState hP H]
  simp only [zbd_i, tl_s, S_Port_clearedWithout_5]
  exact T_cl_m hP H ok np 0 _ _ _ (by omega)
/-! the reference -/
theorem T_owes_l (hR : RSk h R) (hi1 : zI h (R + 1) = P) (ok : Ok (P, np, ni, nd)) : ∀ n k, k + n = nd → ev z d 274 6 [.ref R, .int u, .int v, .int c, .int (smS (dvT P nd u v c) k), .int (nI k)] [] h = some (.inl (some (.int (dvV P nd u v c))), h)
  | 0, k, hk => by
    have h8 : nd ≤ 8 := ok.1.2.2.2.2.2
    obtain rfl : k = nd := by omega
    rw [S_M_owesBy_6 hR, hi1, show P 5 = nI k from ok.1.2.2.1, if_pos (nI_le (Nat.le_refl _) (by omega)), T_M_greater]
    simp only [zbd_i, tl_s, S_M_owesBy_146]
    rfl
  | n + 1, k, hk => by
    have h8 : nd ≤ 8 := ok.1.2.2.2.2.2
    have hk1 : k < nd := by omega
    have vn := T_M_isValidNow (z := z) (d := d) hR (show k < 8 by omega) (by rw [hi1]; exact ok.1.2.2.1) h8
    rw [hi1] at vn
    have of : ∀ c, c < 12 → ev z d 179 0 [.ref R, .int (nI k), .int (nI c)] [] h = some (.inl (some (.int (P (45 + 12 * k + c)))), h) := by
      intro c hc
      rw [T_M_of hR (by omega), hi1]
    rw [← T_owes_l hR hi1 ok n (k + 1) (by omega), smS_u]
    rw [S_M_owesBy_6 hR, hi1, show P 5 = nI nd from ok.1.2.2.1, if_neg (nI_ge (by omega) (by omega)), vn]
    simp only [zbd_i, tl_s]
    rw [S_M_owesBy_23 hR]
    simp only [of 11 (by decide), of 1 (by decide), of 2 (by decide), of 3 (by decide), zbd_i, tl_s, S_M_owesBy_34 hR, S_M_owesBy_45 hR, S_M_owesBy_56 hR, S_M_owesBy_72 hR, S_M_owesBy_83 hR, S_M_owesBy_104 hR, S_M_owesBy_94, S_M_owesBy_115 hR, S_M_owesBy_126, nI_add]
    refine (dv_m (F := fun x => ev z d 274 6 [.ref R, .int u, .int v, .int c, .int x, .int (nI (k + 1))] [] h)).trans ?_
    unfold dvT dvA
    simp only [Bool.and_eq_true, decide_eq_true_eq, ok_11 ok hk1, Classical.not_not, ne_eq]
theorem T_M_owesBy (hR : RSk h R) (hi1 : zI h (R + 1) = P) (ok : Ok (P, np, ni, nd)) : ev z d 274 0 [.ref R, .int u, .int v, .int c, zu, zu] [] h = some (.inl (some (.int (dvV P nd u v c))), h) := by
  rw [S_M_owesBy_0]
  exact T_owes_l hR hi1 ok nd 0 (by omega)
end
