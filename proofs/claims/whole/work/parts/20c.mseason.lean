/-! A SEASON by the reference -/
theorem bsN_bit (f : Nat → Prop) [∀ k, Decidable (f k)] {k : Nat} : ∀ n, k < n → ((bsN f n).testBit k = true ↔ f k)
  | 0, h => by omega
  | n + 1, h => by
    have lt := bsN_lt f n
    unfold bsN
    by_cases e : k = n
    · subst e
      split
      · rename_i c
        rw [← or_pow lt, Nat.testBit_or, Nat.testBit_two_pow]
        simp [c]
      · rename_i c
        rw [Nat.testBit_lt_two_pow lt]
        simp [c]
    · have ih := bsN_bit f (k := k) n (by omega)
      split
      · rw [← or_pow lt, Nat.testBit_or, Nat.testBit_two_pow, ← ih]
        simp [Ne.symm e]
      · exact ih
theorem isB_inS {P : Row} {s : Int32} {n k : Nat} (hk : k < n) (hn : n ≤ 8) : isB (inS P s n) (nI k) = true ↔ P (45 + 12 * k + 10) = s := by
  rw [inS_N n (by omega), isB_nI (by omega)]
  exact bsN_bit (fun k => P (45 + 12 * k + 10) = s) n hk
section
variable {z : ZE} {d : Nat} {h g : Hp} {R k : Nat} {P : Row} {np ni nd : Nat} {ls : List LN} {sp : Int32} {w1 w5 : Value}
theorem T_M_coins2 (hR : RSk h R) {k : Nat} (hk : 15 + 2 * k < 781) : ev z d 182 0 [.ref R, .int (nI k)] [] (mH h R P) = some (.inl (some (.int (P (15 + 2 * k + 0)))), mH h R P) := by
  rw [T_M_coins (mr hR) hk, m1]
  rfl
theorem T_M_ofInk2 (hR : RSk h R) {k c : Nat} (hk : 27 + 3 * k + c < 781) : ev z d 181 0 [.ref R, .int (nI k), .int (nI c)] [] (mH h R P) = some (.inl (some (.int (P (27 + 3 * k + c)))), mH h R P) := by
  rw [T_M_ofInk (mr hR) hk, m1]
theorem T_M_inState2 (hR : RSk h R) {s : Int32} (h5 : P 5 = nI nd) (h8 : nd ≤ 8) : ev z d 186 0 [.ref R, .int s, zu, zu] [] (mH h R P) = some (.inl (some (.int (inS P s nd))), mH h R P) := by
  have := T_M_inState (z := z) (d := d) (s := s) (h := mH h R P) (mr hR) (m1.trans h5) h8
  rw [m_1] at this
  exact this
theorem T_M_vnow2 (hR : RSk h R) (h5 : P 5 = nI nd) (h8 : nd ≤ 8) (hk : k < 8) : ev z d 188 0 [.ref R, .int (nI k)] [] (mH h R P) = some (.inl (some (.int (bI (vld P k (inS P (nI 1) nd))))), mH h R P) := by
  have := T_M_isValidNow (z := z) (d := d) (h := mH h R P) (mr hR) hk (m1.trans h5) h8
  rw [m_1] at this
  exact this
theorem les_v {x y : Int32} : (if x < y then x else y) = if x ≤ y then x else y := by
  by_cases c : x < y
  · rw [if_pos c, if_pos (Int32.le_of_lt c)]
  · rw [if_neg c]
    by_cases e : x ≤ y
    · rw [if_pos e]
      exact Int32.le_antisymm (Int32.not_lt.mp c) e
    · rw [if_neg e]
theorem T_M_pays (hR : RSk h R) (H : Ok (P, np, ni, nd)) (hk : k < nd) : ev z d 228 0 [.ref R, .int (nI k), zu, zu, zu] [] (mH h R P) = some (.inl none, mH h R (payD P k)) := by
  have l8 : nd ≤ 8 := H.1.2.2.2.2.2
  have l6 : np ≤ 6 := H.1.2.2.2.1
  obtain ⟨d1, d2⟩ := dN_e H.2.1 hk l6
  obtain ⟨g1, g2⟩ := eN_e H.2.1 hk l6
  dsimp only at d1 d2 g1 g2
  have ev1 : (if P (45 + 12 * k + 3) < P (15 + 2 * dN P k + 0) then P (45 + 12 * k + 3) else P (15 + 2 * dN P k + 0)) = payV P k := by
    rw [les_v]
    unfold payV payI
    simp only [decide_eq_true_eq]
  have c1 : P (45 + 12 * k + 3) ≤ payV P k ↔ payI P k = true := by
    unfold payV
    by_cases c : payI P k = true
    · rw [if_pos c]; exact ⟨fun _ => c, fun _ => Int32.le_refl _⟩
    · rw [if_neg c]; exact ⟨fun q => decide_eq_true q, fun q => absurd q c⟩
  rw [S_M_pays_0 (mr hR), T_M_of2 hR (by omega)]
  simp only [zbd_i, tl_s]
  rw [S_M_pays_6 (mr hR), T_M_of2 hR (by omega), d1]
  simp only [zbd_i, tl_s]
  rw [S_M_pays_13 (mr hR), T_M_coins2 hR (by omega)]
  simp only [zbd_i, tl_s, S_M_pays_16, T_M_lesser]
  rw [ev1, S_M_pays_19 (mr hR), T_M_of2 hR (by omega)]
  simp only [zbd_i, tl_s]
  rw [S_M_pays_27 (mr hR), T_M_of2 hR (by omega), d1]
  simp only [zbd_i, tl_s]
  have m2 : zwI (mH h R P) (R + 1) (15 + 2 * dN P k) (P (15 + 2 * dN P k) - payV P k) = mH h R (pay1 P k) := mw
  have q2 : pay1 P k (45 + 12 * k + 2) = nI (eN P k) := (up_n (by omega)).trans g1
  have m3 : zwI (mH h R (pay1 P k)) (R + 1) (15 + 2 * eN P k) (if nI 9999 < pay1 P k (15 + 2 * eN P k) + payV P k then nI 9999 else pay1 P k (15 + 2 * eN P k) + payV P k) = mH h R (pay2 P k) := mw
  have q1 : pay2 P k (45 + 12 * k + 1) = nI (dN P k) := (up_n (by omega)).trans ((up_n (by omega)).trans d1)
  /- behind the question whether it is broke -/
  have go : ∀ b : Int32, (b = nI 0 ∧ payI P k = true) ∨ (b = nI 1 ∧ ¬ payI P k = true) → ev z d 228 49 [.ref R, .int (nI k), .int (payV P k), .int b, zu] [.int (nI (dN P k)), .int (nI 2), .int (nI 15), .ref (R + 1)] (mH h R P) = some (.inl none, mH h R (payD P k)) := by
    intro b hb
    rw [S_M_pays_49 (mr hR), pk_mul, nI_add, ix_n (by omega) (by decide), ix_n (by omega) (by decide), m1, m2, T_M_of2 hR (by omega), q2]
    simp only [zbd_i, tl_s]
    rw [S_M_pays_65 (mr hR), pk_mul, nI_add, ix_n (by omega) (by decide), m1]
    simp only [T_M_lesser, zbd_i, tl_s]
    rw [S_M_pays_90 (mr hR), ix_n (by omega) (by decide), m3]
    rcases hb with ⟨rfl, hp⟩ | ⟨rfl, hp⟩
    · have e3 : pay3 P k = pay2 P k := if_pos hp
      rw [if_pos (by decide), T_M_lays2 hR (by omega)]
      simp only [zbd_i, tl_n]
      rw [S_M_pays_122 (mr hR), if_pos (by decide), T_M_logs hR]
      simp only [zbd_i, tl_n, S_M_pays_137]
      unfold payD pay4
      rw [e3, if_pos hp]
    · have e3 : pay3 P k = up (pay2 P k) (15 + 2 * dN P k + 1) (nI 1) := if_neg hp
      rw [if_neg (by decide), T_M_of2 hR (by omega), q1]
      simp only [zbd_i, tl_s]
      rw [S_M_pays_108 (mr hR), pk_mul, nI_add, nI_add, ix_n (by omega) (by decide), mw, T_M_lays2 hR (by omega)]
      simp only [zbd_i, tl_n]
      rw [S_M_pays_122 (mr hR), if_neg (by decide), T_M_logs hR]
      simp only [zbd_i, tl_n, S_M_pays_137]
      unfold payD pay4
      rw [e3, if_neg hp]
  by_cases c : P (45 + 12 * k + 3) ≤ payV P k
  · rw [if_pos c]
    exact go (nI 0) (Or.inl ⟨rfl, c1.mp c⟩)
  · rw [if_neg c]
    exact go (nI 1) (Or.inr ⟨rfl, fun q => c (c1.mpr q)⟩)
theorem T_M_rip_l (hR : RSk h R) (hW : WA z h) (H : Ok (P, np, ni, nd)) (hL : OkL P ls) (hsp : sp = nI 0 ∨ sp = nI 1) : ∀ n k g, k + n = nd → RA R h g → ∃ g', RA R h g' ∧ ev z (d + 7) 229 42 [.ref R, w1, .int sp, .int (inS P (nI 0) nd), .int (nI k), w5] [] (mH g R (ripL ls sp P k)) = ev z (d + 7) 229 138 [.ref R, w1, .int sp, .int (inS P (nI 0) nd), .int (nI 0), w5] [] (mH g' R (ripL ls sp P nd)) := by
  have l8 : nd ≤ 8 := H.1.2.2.2.2.2
  have h5 : P 5 = nI nd := H.1.2.2.1
  have l7 : ni ≤ 6 := H.1.2.2.2.2.1
  intro n
  induction n with
  | zero =>
    intro k g hk ra
    obtain rfl : k = nd := by omega
    obtain ⟨-, q, -⟩ := ripL_ok H hL hsp k (Nat.le_refl _)
    have Rg : RSk g R := RSk_fr ra.1 hR
    refine ⟨g, ra, ?_⟩
    rw [S_M_passes_42 (mr Rg), m1, q 5 (by omega), h5, if_pos (nI_le (Nat.le_refl _) (by omega))]
  | succ n ih =>
    intro k g hk ra
    obtain ⟨K, q, t, e, -⟩ := ripL_ok H hL hsp k (by omega)
    have Rg : RSk g R := RSk_fr ra.1 hR
    have hWg : WA z g := WA_fr ra.1 (fun x q => RA_k hR q) hW
    have st : isB (inS P (nI 0) nd) (nI k) = true ↔ ripL ls sp P k (45 + 12 * k + 10) = 0 := by
      rw [isB_inS (by omega) l8, e k 10 (Nat.le_refl _) (by omega) (by decide)]
      rfl
    have ro : ripL ls sp P (k + 1) = if ripL ls sp P k (45 + 12 * k + 10) = 0 then ripD (ripL ls sp P k) ls sp k else ripL ls sp P k := rfl
    rw [S_M_passes_42 (mr Rg), m1, q 5 (by omega), h5, if_neg (nI_ge (by omega) (by omega)), T_M_isOf]
    simp only [zbd_i, tl_s]
    rw [S_M_passes_59 (mr Rg)]
    by_cases c : isB (inS P (nI 0) nd) (nI k) = true
    · rw [if_neg (by rw [bI_0]; exact fun x => x c)]
      rw [if_pos (st.mp c)] at ro
      obtain ⟨K1, K2, K3, K4, K5, K6⟩ := K
      dsimp only at K2 K3 K4 K5 K6
      obtain ⟨i1, i2⟩ := ink_e K2 (show k < nd by omega) l7
      obtain ⟨g1, e1, f1, r17, -⟩ := T_M_asks (z := z) (d := d) Rg hWg K2 K6 l7 l8 (q.okl hL) (show k < nd by omega)
      have Rg1 : RSk g1 R := RSk_fr f1.1 Rg
      rw [e1]
      simp only [zbd_i, tl_n]
      rw [S_M_passes_71 (mr Rg1), T_M_of2 Rg1 (by omega)]
      simp only [zbd_i, tl_s]
      rw [S_M_passes_87 (mr Rg1), moR, r17, T_M_lesser]
      simp only [zbd_i, tl_s]
      rw [S_M_passes_97 (mr Rg1), T_M_lays2 Rg1 (by omega)]
      simp only [zbd_i, tl_n]
      rw [S_M_passes_100 (mr Rg1), T_M_of2 Rg1 (by omega), up_a]
      simp only [zbd_i, tl_s]
      rw [S_M_passes_108 (mr Rg1), T_M_of2 Rg1 (by omega), up_n (by omega), i1]
      simp only [zbd_i, tl_s]
      rw [S_M_passes_116 (mr Rg1), T_M_ofInk2 Rg1 (by omega), up_n (by omega)]
      simp only [zbd_i, tl_s]
      rw [S_M_passes_120 (mr Rg1)]
      have fold : (if nI 999 < ripL ls sp P k (45 + 12 * k + 8) + ripS (ripL ls sp P k) ls k + sp then nI 999 else ripL ls sp P k (45 + 12 * k + 8) + ripS (ripL ls sp P k) ls k + sp) = ripV (ripL ls sp P k) ls sp k := rfl
      rw [fold]
      unfold ripD iN at ro
      by_cases c2 : ripV (ripL ls sp P k) ls sp k < ripL ls sp P k (27 + 3 * cN (ripL ls sp P k (45 + 12 * k + 0)) + 0)
      · rw [if_pos c2, nI_add]
        rw [if_neg (Int32.not_le.mpr c2)] at ro
        rw [← ro]
        exact ih (k + 1) g1 (by omega) (ra.tr f1)
      · rw [if_neg c2, T_M_comesUp Rg1 (by omega)]
        simp only [zbd_i, tl_n, S_M_passes_129, nI_add]
        rw [if_pos (Int32.not_lt.mp c2)] at ro
        rw [← ro]
        exact ih (k + 1) g1 (by omega) (ra.tr f1)
    · rw [if_pos (by rw [bI_0]; exact c), nI_add]
      rw [if_neg (fun x => c (st.mpr x))] at ro
      rw [← ro]
      exact ih (k + 1) g (by omega) ra
end
