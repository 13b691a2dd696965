/-! RING: the calls -/
theorem gN_or {s a k : Nat} (hk : k < 31) : nI s ||| nI 1 <<< (nI k &&& 31) = nI (s ||| 2 ^ k) := by rw [nI_shl k hk, nI_or]
theorem bsN_u {f : Nat → Prop} [∀ k, Decidable (f k)] {k : Nat} : bsN f (k + 1) = if f k then bsN f k ||| 2 ^ k else bsN f k := by
  rw [or_pow (bsN_lt f k)]
  rfl
def rgV (P : Row) (np nd : Nat) (v : Int32) : Int32 := bI ((jaR (crN P np nd) np (cN v) 6).2.testBit (cN v) = true)
section
variable {z : ZE} {d : Nat} {h h' g : Hp} {X R p : Nat} {S S1 : PSt} {K : Option Img} {A : List PSt} {tl : Nat} {T : Row} {ft : Int32} {ls : List LN} {Lo : Option Nat} {P : Row} {np ni nd m k r : Nat} {as : List Value} {es : List Nat} {sp u v w b c : Int32} {come s q : Nat}
theorem crN_h {k j : Nat} (hj : (crN P np nd k).testBit j = true) : j < np := by
  apply Classical.byContradiction
  intro q
  have l := bsN_lt (fun o => crF P nd k o) np
  have : 2 ^ np ≤ 2 ^ j := Nat.pow_le_pow_right (by decide) (by omega)
  unfold crN at hj
  rw [Nat.testBit_lt_two_pow (by omega)] at hj
  cases hj
theorem T_cr_l (hP : PSk h p) (H : PRp h p P np ni nd) (ok : Ok (P, np, ni, nd)) {a : Nat} (ha : a < np) : ∀ n k, k + n = np → ev z d 78 4 [.ref p, .int (nI a), .int (nI (bsN (fun o => crF P nd a o) k)), .int (nI k)] [] h = some (.inl (some (.int (nI (crN P np nd a)))), h)
  | 0, k, hk => by
    have h6 : np ≤ 6 := ok.1.2.2.2.1
    obtain rfl : k = np := by omega
    rw [S_Port_creditorsOf_4 hP, H.cp, if_pos (nI_le (Nat.le_refl _) (by omega))]
    rfl
  | n + 1, k, hk => by
    have h6 : np ≤ 6 := ok.1.2.2.2.1
    rw [← T_cr_l hP H ok ha n (k + 1) (by omega), bsN_u]
    rw [S_Port_creditorsOf_4 hP, H.cp, if_neg (nI_ge (by omega) (by omega)), nI_add]
    by_cases e : k = a
    · rw [if_pos (by rw [e]), if_neg (fun q => q.1 e)]
    · have ne : ¬ nI k = nI a := fun q => e ((nI_eq (by omega) (by omega)).mp q)
      rw [if_neg ne, T_Port_debtOf hP H ok (fun q => ne q.symm)]
      simp only [zbd_i, tl_s, S_Port_creditorsOf_23, nI_add]
      by_cases c : dvV P nd (nI a) (nI k) (-1) ≤ 0
      · rw [if_pos c, if_neg (fun q => q.2 c)]
      · rw [if_neg c, if_pos ⟨e, c⟩, gN_or (a := 0) (by omega)]
theorem T_Port_creditorsOf (hP : PSk h p) (H : PRp h p P np ni nd) (ok : Ok (P, np, ni, nd)) {a : Nat} (ha : a < np) : ev z d 78 0 [.ref p, .int (nI a), zu, zu] [] h = some (.inl (some (.int (nI (crN P np nd a)))), h) := by
  rw [S_Port_creditorsOf_0]
  exact T_cr_l hP H ok ha np 0 (by omega)
theorem C_ring_p (H : CI z h X S ls Lo K A tl T ft) (ok : Ok S) : ∀ n k, k + n = S.2.1 → ev z d 135 25 [.ref X, .int v, .int (nI (gsP (crN S.1 S.2.1 S.2.2.2) k s)), .int w, .int (nI k)] [] h = ev z d 135 16 [.ref X, .int v, .int (nI (gsP (crN S.1 S.2.1 S.2.2.2) S.2.1 s)), .int (w + nI 1), .int (nI S.2.1)] [] h
  | 0, k, hk => by
    have h6 := ok.1.2.2.2.1
    obtain rfl : k = S.2.1 := by omega
    rw [S_LI_ring_25 H.1.1, H.rp.cp, if_pos (nI_le (Nat.le_refl _) (by omega))]
  | n + 1, k, hk => by
    have h6 := ok.1.2.2.2.1
    rw [← C_ring_p H ok n (k + 1) (by omega), gsP_u]
    rw [S_LI_ring_25 H.1.1, H.rp.cp, if_neg (nI_ge (by omega) (by omega))]
    simp only [isB_d, isB_nI (show k < 32 by omega), nI_add]
    by_cases c : (gsP (crN S.1 S.2.1 S.2.2.2) k s).testBit k = true
    · rw [if_pos c, if_pos c, T_Port_creditorsOf (ni := S.2.2.1) H.sk H.rp ok (show k < S.2.1 by omega)]
      simp only [zbd_i, tl_s, S_LI_ring_57, nI_add, nI_or]
    · rw [if_neg c, if_neg c]
theorem C_ring_r (H : CI z h X S ls Lo K A tl T ft) (ok : Ok S) {j : Nat} (hj : j < S.2.1) : ∀ n r w4, r + n = 6 → ev z d 135 16 [.ref X, .int (nI j), .int (nI (gsR (crN S.1 S.2.1 S.2.2.2) S.2.1 j r)), .int (nI r), w4] [] h = some (.inl (some (.int (bI ((gsR (crN S.1 S.2.1 S.2.2.2) S.2.1 j 6).testBit j = true)))), h)
  | 0, r, w4, hr => by
    have h6 := ok.1.2.2.2.1
    obtain rfl : r = 6 := by omega
    rw [S_LI_ring_16, if_pos (by decide)]
    simp only [isB_d, isB_nI (show j < 32 by omega)]
    unfold bI
    split <;> rfl
  | n + 1, r, w4, hr => by
    rw [← C_ring_r H ok hj n (r + 1) (.int (nI S.2.1)) (by omega)]
    rw [S_LI_ring_16, if_neg (nI_ge (by omega) (by decide))]
    have e := C_ring_p (z := z) (d := d) (v := nI j) (w := nI r) (s := gsR (crN S.1 S.2.1 S.2.2.2) S.2.1 j r) H ok S.2.1 0 (by omega)
    rw [nI_add] at e
    exact e
theorem C_ring (t : Tp h) (H : CI z h X S ls Lo K A tl T ft) (ok : Ok S) : CA z d h X Lo 135 [.ref X, .int v, zu, zu, zu] [2] (if inR v S.2.1 then 0 else 1) (rgV S.1 S.2.1 S.2.2.2 v) ((S, ls, Lo), K, A, tl, T, ft) := by
  have h6 := ok.1.2.2.2.1
  by_cases c : inR v S.2.1
  · rw [if_pos c]
    refine CA.rf H ?_
    obtain ⟨j, hj, rfl⟩ := (inR_iff (by omega)).mp c
    unfold rgV
    rw [S_LI_ring_0 H.1.1, C_needParty H, if_pos c, cN_nI (by omega)]
    simp only [zbd_i, tl_n]
    rw [S_LI_ring_5 H.1.1, T_Port_creditorsOf (ni := S.2.2.1) H.sk H.rp ok hj]
    simp only [zbd_i, tl_s, S_LI_ring_13]
    rw [← bI_cg (ring_eq (cr := crN S.1 S.2.1 S.2.2.2) (fun k j q => crN_h q) h6 hj (j := j))]
    exact C_ring_r H ok hj 6 0 zu (by omega)
  · rw [if_neg c]
    refine CA.x t H rfl ?_
    rw [S_LI_ring_0 H.1.1, C_needParty H, if_neg c]
    simp only [zbd_e]
    exact evx_nil rfl
/-! the reference -/
theorem M_ring_i (hR : RSk h R) (hi1 : zI h (R + 1) = P) (ok : Ok (P, np, ni, nd)) (hq : q < np) (hc : come.testBit q = true) : ∀ n k, k + n = np → ev z d 278 59 [.ref R, .int v, .int (nI come), .int (nI (s ||| bsN (fun o => crF P nd q o) k)), .int w, .int (nI q), .int (nI k)] [] h = ev z d 278 45 [.ref R, .int v, .int (nI come), .int (nI (s ||| crN P np nd q)), .int w, .int (nI (q + 1)), .int (nI np)] [] h
  | 0, k, hk => by
    have h6 : np ≤ 6 := ok.1.2.2.2.1
    obtain rfl : k = np := by omega
    rw [S_M_ring_59 hR, hi1, show P 3 = nI k from ok.1.1, if_pos (nI_le (Nat.le_refl _) (by omega)), nI_add]
    rfl
  | n + 1, k, hk => by
    have h6 : np ≤ 6 := ok.1.2.2.2.1
    rw [← M_ring_i hR hi1 ok hq hc n (k + 1) (by omega), bsN_u]
    rw [S_M_ring_59 hR, hi1, show P 3 = nI np from ok.1.1, if_neg (nI_ge (by omega) (by omega)), T_M_isOf]
    simp only [zbd_i, tl_s]
    rw [S_M_ring_76 hR, bI_cg (isB_nI (show q < 32 by omega)), chk0, if_pos hc, nI_add]
    by_cases e : k = q
    · rw [if_pos (by rw [e]), if_neg (fun q => q.1 e)]
    · have ne : ¬ nI k = nI q := fun x => e ((nI_eq (by omega) (by omega)).mp x)
      rw [if_neg ne, T_M_owesBy (ni := ni) hR hi1 ok]
      simp only [zbd_i, tl_s, S_M_ring_95, nI_add]
      by_cases c : dvV P nd (nI q) (nI k) (-1) ≤ 0
      · rw [if_pos c, if_neg (fun q => q.2 c)]
      · rw [if_neg c, if_pos ⟨e, c⟩, gN_or (a := 0) (by omega), Nat.or_assoc]
theorem M_ring_j (hR : RSk h R) (hi1 : zI h (R + 1) = P) (ok : Ok (P, np, ni, nd)) (hq : q < np) (hc : ¬ come.testBit q = true) : ∀ n k, k + n = np → ev z d 278 59 [.ref R, .int v, .int (nI come), .int u, .int w, .int (nI q), .int (nI k)] [] h = ev z d 278 45 [.ref R, .int v, .int (nI come), .int u, .int w, .int (nI (q + 1)), .int (nI np)] [] h
  | 0, k, hk => by
    have h6 : np ≤ 6 := ok.1.2.2.2.1
    obtain rfl : k = np := by omega
    rw [S_M_ring_59 hR, hi1, show P 3 = nI k from ok.1.1, if_pos (nI_le (Nat.le_refl _) (by omega)), nI_add]
  | n + 1, k, hk => by
    have h6 : np ≤ 6 := ok.1.2.2.2.1
    rw [← M_ring_j hR hi1 ok hq hc n (k + 1) (by omega)]
    rw [S_M_ring_59 hR, hi1, show P 3 = nI np from ok.1.1, if_neg (nI_ge (by omega) (by omega)), T_M_isOf]
    simp only [zbd_i, tl_s]
    rw [S_M_ring_76 hR, bI_cg (isB_nI (show q < 32 by omega)), chk0, if_neg hc, nI_add]
theorem M_ring_p (hR : RSk h R) (hi1 : zI h (R + 1) = P) (ok : Ok (P, np, ni, nd)) : ∀ n q w6, q + n = np → ∃ w', ev z d 278 45 [.ref R, .int v, .int (nI come), .int (nI (jaP (crN P np nd) come q s)), .int w, .int (nI q), w6] [] h = ev z d 278 35 [.ref R, .int v, .int (nI (come ||| jaP (crN P np nd) come np s)), .int (nI (jaP (crN P np nd) come np s)), .int (w + nI 1), .int (nI np), w'] [] h
  | 0, q, w6, hq => by
    have h6 : np ≤ 6 := ok.1.2.2.2.1
    obtain rfl : q = np := by omega
    refine ⟨w6, ?_⟩
    rw [S_M_ring_45 hR, hi1, show P 3 = nI q from ok.1.1, if_pos (nI_le (Nat.le_refl _) (by omega)), nI_or]
  | n + 1, q, w6, hq => by
    have h6 : np ≤ 6 := ok.1.2.2.2.1
    obtain ⟨w', e'⟩ := M_ring_p hR hi1 ok n (q + 1) (.int (nI np)) (by omega)
    refine ⟨w', ?_⟩
    rw [← e', jaP_u]
    rw [S_M_ring_45 hR, hi1, show P 3 = nI np from ok.1.1, if_neg (nI_ge (by omega) (by omega))]
    by_cases c : come.testBit q = true
    · rw [if_pos c]
      have e := M_ring_i (z := z) (d := d) (v := v) (w := w) (s := jaP (crN P np nd) come q s) hR hi1 ok (show q < np by omega) c np 0 (by omega)
      rw [show bsN (fun o => crF P nd q o) 0 = 0 from rfl, Nat.or_zero] at e
      exact e
    · rw [if_neg c]
      exact M_ring_j hR hi1 ok (by omega) c np 0 (by omega)
theorem M_ring_r (hR : RSk h R) (hi1 : zI h (R + 1) = P) (ok : Ok (P, np, ni, nd)) {j : Nat} (hj : j < np) : ∀ n r w5 w6, r + n = 6 → ev z d 278 35 [.ref R, .int (nI j), .int (nI (jaR (crN P np nd) np j r).1), .int (nI (jaR (crN P np nd) np j r).2), .int (nI r), w5, w6] [] h = some (.inl (some (.int (bI ((jaR (crN P np nd) np j 6).2.testBit j = true)))), h)
  | 0, r, w5, w6, hr => by
    have h6 : np ≤ 6 := ok.1.2.2.2.1
    obtain rfl : r = 6 := by omega
    rw [S_M_ring_35, if_pos (by decide), T_M_isOf]
    simp only [zbd_i, tl_s, S_M_ring_132 bI_01]
    rw [bI_cg (isB_nI (show j < 32 by omega))]
  | n + 1, r, w5, w6, hr => by
    obtain ⟨w', e⟩ := M_ring_p (z := z) (d := d) (v := nI j) (w := nI r) (come := (jaR (crN P np nd) np j r).1) (s := (jaR (crN P np nd) np j r).2) hR hi1 ok np 0 w6 (by omega)
    rw [S_M_ring_35, if_neg (nI_ge (by omega) (by decide))]
    refine Eq.trans e ?_
    rw [nI_add]
    exact M_ring_r hR hi1 ok hj n (r + 1) _ w' (by omega)
theorem R_ring (H : RI h R S K A tl T ft) (ok : Ok S) : RB z d h R 278 [.ref R, .int v, zu, zu, zu, zu, zu] (if inR v S.2.1 then 0 else 1) (rgV S.1 S.2.1 S.2.2.2 v) ((S, ls, Lo), K, A, tl, T, ft) := by
  have h6 := ok.1.2.2.2.1
  have q1 : ev z d 278 0 [.ref R, .int v, zu, zu, zu, zu, zu] [] h = ev z d 278 6 [.ref R, .int v, zu, zu, zu, zu, zu] [.int (bI (inR v S.2.1)), .ref R] h := by
    rw [S_M_ring_0 H.1.1, R_isParty H ok]
    simp only [zbd_i, tl_s]
  rw [S_M_ring_6 H.1.1, chk] at q1
  by_cases c : inR v S.2.1
  · rw [if_pos c] at q1
    rw [if_pos c]
    refine RB.g H ?_
    have G := H.w0 (v := nI 0)
    obtain ⟨j, hj, rfl⟩ := (inR_iff (by omega)).mp c
    rw [nI_shl j (by omega)] at q1
    unfold rgV
    rw [q1, cN_nI (by omega)]
    exact M_ring_r (P := S.1) (np := S.2.1) (ni := S.2.2.1) (nd := S.2.2.2) G.1.1 G.i ok hj 6 0 _ _ (by omega)
  · rw [if_neg c] at q1
    rw [if_neg c]
    exact RB.t H (by decide) q1
end
