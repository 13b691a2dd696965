/-! JARS by the reference; ASK in both -/
/-- pairs that fit and can be read at a time -/
def ptB (P T : Row) (n : Nat) (t : Int32) (q : Nat) : Bool := fqS P T n q && rdA t (nI (upS P (q / 21) (q % 21))) (P (27 + 3 * (q / 21) + 1))
def ptN (P T : Row) (n ni t : Nat) : Nat := cfS (ptB P T n (nI t)) (21 * ni)
def gtN (P T : Row) (n ni t : Nat) : Nat := max (ptN P T n ni t) (cfS (fqS P T n) (21 * ni) - ptN P T n ni t)
def bsS (P T : Row) (n ni : Nat) : Nat → Int32 × Int32
  | 0 => (-1, nI 2000000000)
  | t + 1 => if nI (gtN P T n ni t) < (bsS P T n ni t).2 then (nI t, nI (gtN P T n ni t)) else bsS P T n ni t
def asV (P T : Row) (tl ni : Nat) : Int32 := if cfS (fqS P T (tl / 2)) (21 * ni) ≤ 1 then -1 else (bsS P T (tl / 2) ni 61).1
section
variable {z : ZE} {d : Nat} {h h' g : Hp} {X R p J : Nat} {S S1 : PSt} {K : Option Img} {A : List PSt} {tl : Nat} {T : Row} {ft : Int32} {ls : List LN} {Lo : Option Nat} {P : Row} {np ni nd n : Nat} {u v w b x y : Int32}
theorem T_M_isRead (hR : RSk h R) (hi1 : zI h (R + 1) = P) {q : Nat} (hq : q < 126) : ev z d 266 0 [.ref R, .int (nI q), .int v, zu] [] h = some (.inl (some (.int (bI (rdA v (zI h (R + 8) q) (P (27 + 3 * (q / 21) + 1)) = true)))), h) := by
  rw [S_M_isRead_0 hR, pk_div (by omega) (by decide) (by decide), T_M_ofInk hR (by omega), hi1]
  simp only [zbd_i, tl_s]
  rw [S_M_isRead_9 hR, ix_n hq (by decide)]
  unfold rdA bI
  simp only [decide_eq_true_eq]
  by_cases c1 : v < zI h (R + 8) q
  · rw [if_pos c1, if_neg (fun q => q.1 c1)]
  · rw [if_neg c1]
    by_cases c2 : P (27 + 3 * (q / 21) + 1) = 0
    · rw [if_pos c2, if_pos ⟨c1, Or.inl c2⟩]
    · rw [if_neg c2, ix_n hq (by decide)]
      by_cases c3 : zI h (R + 8) q + P (27 + 3 * (q / 21) + 1) ≤ v
      · rw [if_pos c3, if_neg (fun q => q.2.elim c2 (fun q => q c3))]
      · rw [if_neg c3, if_pos ⟨c1, Or.inr c3⟩]
theorem nle_60 : (nI 61 ≤ v) ↔ ¬ v ≤ nI 60 := by
  rw [Int32.le_iff_toInt_le, Int32.le_iff_toInt_le, nI_toInt (by decide), nI_toInt (by decide)]
  omega
theorem nle_1 : (nI 2 ≤ v) ↔ ¬ v ≤ nI 1 := by
  rw [Int32.le_iff_toInt_le, Int32.le_iff_toInt_le, nI_toInt (by decide), nI_toInt (by decide)]
  omega
/-- the bytes are good -/
theorem R_good_l (hR : RSk h R) (l400 : tl ≤ 400) (hT : ∀ k, k < tl → zI h (R + 5) k = T k) {w5 : Value} : ∀ m k w4, k + m = tl → ev z d 267 30 [.ref R, .int (nI tl), .int (nI 1), .int (nI k), w4, w5] [] h = if gdL T m k = true then ev z d 267 83 [.ref R, .int (nI tl), .int (nI 1), .int (nI 0), .int (nI 0), w5] [] h else some (.inl (some (.int (-1))), h)
  | 0, k, w4, hk => by
    rw [S_M_heard_30 hR, if_pos (nI_le (by omega) (by omega)), if_neg (by decide)]
    rfl
  | m + 1, k, w4, hk => by
    have bad : ∀ {j : Int32} {w4 w5 : Value}, ev z d 267 30 [.ref R, .int (nI tl), .int (nI 0), .int j, w4, w5] [] h = some (.inl (some (.int (-1))), h) := by
      intro j w4 w5
      rw [S_M_heard_30 hR, if_pos (show nI 0 = 0 from rfl), if_pos (show nI 0 = 0 from rfl), ite_self]
    rw [S_M_heard_30 hR, if_neg (nI_ge (by omega) (by omega)), if_neg (by decide), ix_n (by omega) (by decide), pk_rem (by omega) (by decide) (by decide), hT k (by omega), nI_add, bad, R_good_l hR l400 hT m (k + 1) w4 (by omega), gdL_u]
    by_cases c : k % 2 = 0
    · rw [if_pos (show nI (k % 2) = 0 by rw [c]; rfl), if_pos c]
      by_cases c2 : T k ≤ nI 60
      · have : decide (T k ≤ nI 60) = true := by simp [c2]
        rw [if_neg (fun q => nle_60.mp q c2), this, Bool.true_and]
      · have : decide (T k ≤ nI 60) = false := by simp [c2]
        rw [if_pos (nle_60.mpr c2), this, Bool.false_and, if_neg (by decide)]
    · rw [if_neg (show ¬ nI (k % 2) = 0 from nI_ne0 (by omega) (by omega)), if_neg c]
      by_cases c2 : T k ≤ nI 1
      · have : decide (T k ≤ nI 1) = true := by simp [c2]
        rw [if_neg (fun q => nle_1.mp q c2), this, Bool.true_and]
      · have : decide (T k ≤ nI 1) = false := by simp [c2]
        rw [if_pos (nle_1.mpr c2), this, Bool.false_and, if_neg (by decide)]
theorem Rq.x8 {k j : Nat} {v : Int32} (hk : k = 7 ∨ k = 8) : Rq R h (zwI h (R + k) j v) := ⟨Rs.x (by omega), zI_wb (by omega)⟩
/-- one pair: whether it fits -/
theorem R_fit_l (hR : RSk h R) (hi1 : zI h (R + 1) = P) (hT : ∀ k, k < 2 * n → zI h (R + 5) k = T k) (n20 : n ≤ 20) {q : Nat} (hq : q < 126) {w2 : Value} (hw2 : zisL w2 = false) {c : Nat} (hc : c ≤ 126) {f : Int32} : ∀ m r g, r + m = n → Rq R h g → zI g (R + 8) q = f → zI g (R + 7) q = nI 1 → ∃ g' w5, Rq R h g' ∧ zI g' (R + 8) = zI g (R + 8) ∧ (∀ j, j ≠ q → zI g' (R + 7) j = zI g (R + 7) j) ∧ zI g' (R + 7) q = bI (fitS T f (P (27 + 3 * (q / 21) + 1)) m r = true) ∧ ev z d 267 129 [.ref R, .int (nI (2 * n)), w2, .int (nI c), .int (nI q), .int (nI (2 * r))] [] g = ev z d 267 83 [.ref R, .int (nI (2 * n)), w2, .int (nI (c + (if fitS T f (P (27 + 3 * (q / 21) + 1)) m r = true then 1 else 0))), .int (nI (q + 1)), w5] [] g'
  | 0, r, g, hr, rq, u8, u7 => by
    have Rg : RSk g R := RSk_fr rq.fz hR
    refine ⟨g, .int (nI (2 * r)), rq, rfl, fun _ _ => rfl, by rw [u7]; rfl, ?_⟩
    rw [S_M_heard_129 Rg hw2, if_pos (nI_le (by omega) (by omega)), ix_n hq (by decide), u7, if_neg (by decide), nI_add, nI_add]
    rfl
  | m + 1, r, g, hr, rq, u8, u7 => by
    have Rg : RSk g R := RSk_fr rq.fz hR
    have i1 : zI g (R + 1) = P := rq.1.2.2.1.trans hi1
    have tT : ∀ k, k < 2 * n → zI g (R + 5) k = T k := fun k hk => (congrFun rq.1.2.2.2.2.2 k).trans (hT k hk)
    rw [S_M_heard_129 Rg hw2, if_neg (nI_ge (by omega) (by omega)), ix_n hq (by decide), u7, if_neg (by decide), ix_n (by omega) (by decide), tT _ (by omega), T_M_isRead Rg i1 hq, u8]
    simp only [zbd_i, tl_s]
    rw [S_M_heard_164 Rg, nI_add, ix_n (by omega) (by decide), tT _ (by omega), nI_add, show 2 * r + 2 = 2 * (r + 1) by omega, ix_n hq (by decide), ix_n hq (by decide), fitS_u]
    have yes : ∃ g' w5, Rq R h g' ∧ zI g' (R + 8) = zI g (R + 8) ∧ (∀ j, j ≠ q → zI g' (R + 7) j = zI g (R + 7) j) ∧ zI g' (R + 7) q = bI (fitS T f (P (27 + 3 * (q / 21) + 1)) m (r + 1) = true) ∧ ev z d 267 129 [.ref R, .int (nI (2 * n)), w2, .int (nI c), .int (nI q), .int (nI (2 * (r + 1)))] [] (zwI g (R + 7) q (nI 1)) = ev z d 267 83 [.ref R, .int (nI (2 * n)), w2, .int (nI (c + (if fitS T f (P (27 + 3 * (q / 21) + 1)) m (r + 1) = true then 1 else 0))), .int (nI (q + 1)), w5] [] g' := by
      have e8 : zI (zwI g (R + 7) q (nI 1)) (R + 8) = zI g (R + 8) := funext fun j => zI_wb (by omega)
      obtain ⟨g', w5, y1, y2, y3, y4, y5⟩ := R_fit_l hR hi1 hT n20 hq hw2 hc m (r + 1) (zwI g (R + 7) q (nI 1)) (by omega) (rq.tr (Rq.x8 (Or.inl rfl))) (show zI (zwI g (R + 7) q (nI 1)) (R + 8) q = f from (congrFun e8 q).trans u8) zI_wa
      exact ⟨g', w5, y1, y2.trans e8, fun j hj => (y3 j hj).trans (zI_wj hj), y4, y5⟩
    have no : ev z d 267 129 [.ref R, .int (nI (2 * n)), w2, .int (nI c), .int (nI q), .int (nI (2 * (r + 1)))] [] (zwI g (R + 7) q (nI 0)) = ev z d 267 83 [.ref R, .int (nI (2 * n)), w2, .int (nI c), .int (nI (q + 1)), .int (nI (2 * (r + 1)))] [] (zwI g (R + 7) q (nI 0)) := by
      rw [S_M_heard_129 (RSk_w Rg) hw2, ix_n hq (by decide), ix_n hq (by decide), zI_wa, if_pos (show nI 0 = 0 from rfl), if_pos (show nI 0 = 0 from rfl), ite_self, add_n0, nI_add]
    have nn : ∃ g' w5, Rq R h g' ∧ zI g' (R + 8) = zI g (R + 8) ∧ (∀ j, j ≠ q → zI g' (R + 7) j = zI g (R + 7) j) ∧ zI g' (R + 7) q = bI (false = true) ∧ ev z d 267 129 [.ref R, .int (nI (2 * n)), w2, .int (nI c), .int (nI q), .int (nI (2 * (r + 1)))] [] (zwI g (R + 7) q (nI 0)) = ev z d 267 83 [.ref R, .int (nI (2 * n)), w2, .int (nI (c + (if false = true then 1 else 0))), .int (nI (q + 1)), w5] [] g' :=
      ⟨zwI g (R + 7) q (nI 0), .int (nI (2 * (r + 1))), rq.tr (Rq.x8 (Or.inl rfl)), funext fun j => zI_wb (by omega), fun j hj => zI_wj hj, zI_wa, no⟩
    by_cases c1 : T (2 * r + 1) = nI 1
    · rw [if_pos c1]
      by_cases c2 : rdA (T (2 * r)) f (P (27 + 3 * (q / 21) + 1)) = true
      · have : decide (rdA (T (2 * r)) f (P (27 + 3 * (q / 21) + 1)) = decide (T (2 * r + 1) = nI 1)) = true := by simp [c1, c2]
        rw [bI_t c2, if_pos rfl, this, Bool.true_and]
        exact yes
      · have : decide (rdA (T (2 * r)) f (P (27 + 3 * (q / 21) + 1)) = decide (T (2 * r + 1) = nI 1)) = false := by simp [c1, c2]
        rw [bI_f c2, if_neg (by decide), this, Bool.false_and]
        exact nn
    · rw [if_neg c1]
      by_cases c2 : rdA (T (2 * r)) f (P (27 + 3 * (q / 21) + 1)) = true
      · have : decide (rdA (T (2 * r)) f (P (27 + 3 * (q / 21) + 1)) = decide (T (2 * r + 1) = nI 1)) = false := by simp [c1, c2]
        rw [bI_t c2, if_neg (by decide), this, Bool.false_and]
        exact nn
      · have : decide (rdA (T (2 * r)) f (P (27 + 3 * (q / 21) + 1)) = decide (T (2 * r + 1) = nI 1)) = true := by simp [c1, c2]
        rw [bI_f c2, if_pos rfl, this, Bool.true_and]
        exact yes
/-- pairs are marked -/
def PM (g : Hp) (R : Nat) (P T : Row) (n k : Nat) : Prop := ∀ q, q < k → zI g (R + 7) q = bI (fqS P T n q = true) ∧ zI g (R + 8) q = nI (upS P (q / 21) (q % 21))
theorem R_heard_l (hR : RSk h R) (hi1 : zI h (R + 1) = P) (h4 : P 4 = nI ni) (h6 : ni ≤ 6) (hO : OkI P ni) (hT : ∀ k, k < 2 * n → zI h (R + 5) k = T k) (n20 : n ≤ 20) {w2 : Value} (hw2 : zisL w2 = false) : ∀ m q g w5, q + m = 21 * ni → Rq R h g → PM g R P T n q → ∃ g', Rq R h g' ∧ PM g' R P T n (21 * ni) ∧ ev z d 267 83 [.ref R, .int (nI (2 * n)), w2, .int (nI (cfS (fqS P T n) q)), .int (nI q), w5] [] g = some (.inl (some (.int (nI (cfS (fqS P T n) (21 * ni))))), g')
  | 0, q, g, w5, hq, rq, pm => by
    obtain rfl : q = 21 * ni := by omega
    refine ⟨g, rq, pm, ?_⟩
    rw [S_M_heard_83 (RSk_fr rq.fz hR), rq.1.2.2.1, hi1, h4, pk_mul, if_pos (nI_le (Nat.le_refl _) (by omega))]
  | m + 1, q, g, w5, hq, rq, pm => by
    have Rg : RSk g R := RSk_fr rq.fz hR
    have i1 : zI g (R + 1) = P := rq.1.2.2.1.trans hi1
    have cl := cfS_le (f := fqS P T n) q
    rw [S_M_heard_83 Rg, i1, h4, pk_mul, if_neg (nI_ge (by omega) (by omega)), pk_rem (by omega) (by decide) (by decide), pk_div (by omega) (by decide) (by decide), T_M_upOf Rg (show q / 21 < ni by omega) h6 (by rw [i1]; exact hO) (by omega), i1]
    simp only [zbd_i, tl_s]
    rw [S_M_heard_117 Rg, ix_n (by omega) (by decide), ix_n (by omega) (by decide)]
    generalize hG : zwI (zwI g (R + 8) q (nI (upS P (q / 21) (q % 21)))) (R + 7) q (nI 1) = G
    have G8 : zI G (R + 8) q = nI (upS P (q / 21) (q % 21)) := by rw [← hG, zI_wb (by omega), zI_wa]
    have G7 : zI G (R + 7) q = nI 1 := by rw [← hG, zI_wa]
    have o8 : ∀ j, j ≠ q → zI G (R + 8) j = zI g (R + 8) j := fun j hj => by rw [← hG, zI_wb (by omega), zI_wj hj]
    have o7 : ∀ j, j ≠ q → zI G (R + 7) j = zI g (R + 7) j := fun j hj => by rw [← hG, zI_wj hj, zI_wb (by omega)]
    have rG : Rq R h G := by rw [← hG]; exact rq.tr ((Rq.x8 (Or.inr rfl)).tr (Rq.x8 (Or.inl rfl)))
    clear hG
    obtain ⟨g1, w5', y1, y2, y3, y4, y5⟩ := R_fit_l (z := z) (d := d) hR hi1 hT n20 (show q < 126 by omega) hw2 (show cfS (fqS P T n) q ≤ 126 by omega) n 0 G (by omega) rG G8 G7
    have efq : fitS T (nI (upS P (q / 21) (q % 21))) (P (27 + 3 * (q / 21) + 1)) n 0 = fqS P T n q := rfl
    rw [efq] at y4 y5
    have pm1 : PM g1 R P T n (q + 1) := by
      intro j hj
      by_cases e : j = q
      · subst e
        exact ⟨y4, by rw [y2]; exact G8⟩
      · rw [y3 j e, y2, o7 j e, o8 j e]
        exact pm j (by omega)
    obtain ⟨g', z1, z2, z3⟩ := R_heard_l hR hi1 h4 h6 hO hT n20 hw2 m (q + 1) g1 w5' (by omega) y1 pm1
    exact ⟨g', z1, z2, y5.trans z3⟩
theorem R_heard (H : RI h R S K A tl T ft) (ok : Ok S) : ∃ g, RI g R S K A 0 T ft ∧ Fr (Rz R) h g ∧ zI g R 0 = zI h R 0 ∧ (gdS T tl = true → PM g R S.1 T (tl / 2) (21 * S.2.2.1)) ∧ ev z d 267 0 [.ref R, zu, zu, zu, zu, zu] [] h = some (.inl (some (.int (if gdS T tl = true then nI (cfS (fqS S.1 T (tl / 2)) (21 * S.2.2.1)) else -1))), g) := by
  have h6 := ok.1.2.2.2.2.1
  have l400 := H.2.1.2.1
  have G := H.cut (m := 0) (Nat.zero_le _)
  have f0 : Fr (Rz R) h (zwI h R 8 (nI 0)) := Fr.w ⟨by omega, by omega⟩
  have z0 : zI (zwI h R 8 (nI 0)) R 0 = zI h R 0 := zI_wj (by decide)
  have hT : ∀ k, k < tl → zI (zwI h R 8 (nI 0)) (R + 5) k = T k := fun k hk => (zI_wb (by omega)).trans (H.2.1.2.2 k hk)
  have hno : ∀ {w4 w5 : Value}, ev z d 267 30 [.ref R, .int (nI tl), .int (nI 0), .int (nI 0), w4, w5] [] (zwI h R 8 (nI 0)) = some (.inl (some (.int (-1))), zwI h R 8 (nI 0)) := by
    intro w4 w5
    rw [S_M_heard_30 G.1.1, if_pos (show nI 0 = 0 from rfl), if_pos (show nI 0 = 0 from rfl), ite_self]
  rw [S_M_heard_0 H.1.1, H.2.1.1, pk_rem (by omega) (by decide) (by decide), hno]
  by_cases c1 : tl % 2 = 0 ∧ tl ≤ 40
  · have e : gdS T tl = gdL T tl 0 := by
      unfold gdS
      rw [show decide (tl % 2 = 0 ∧ tl ≤ 40) = true by simp [c1], Bool.true_and]
    rw [if_pos (show nI (tl % 2) = 0 by rw [c1.1]; rfl), if_neg (nI_nlt (by omega) (by omega)), R_good_l G.1.1 l400 hT tl 0 zu (by omega), e]
    by_cases c2 : gdL T tl 0 = true
    · have et : nI tl = nI (2 * (tl / 2)) := by congr 1; omega
      obtain ⟨g', y1, y2, y3⟩ := R_heard_l (z := z) (d := d) (P := S.1) (ni := S.2.2.1) (n := tl / 2) G.1.1 G.i ok.1.2.1 h6 ok.2.2.2.2.1 (fun k hk => hT k (by omega)) (by omega) (w2 := .int (nI 1)) rfl (21 * S.2.2.1) 0 (zwI h R 8 (nI 0)) zu (by omega) Rq.rf (fun q hq => by omega)
      refine ⟨g', G.q y1, f0.tr y1.fz, y1.2.trans z0, fun _ => y2, ?_⟩
      rw [if_pos c2, if_pos c2, et]
      exact y3
    · exact ⟨_, G, f0, z0, fun q => absurd q c2, by rw [if_neg c2, if_neg c2]⟩
  · have e : gdS T tl = false := by
      unfold gdS
      rw [show decide (tl % 2 = 0 ∧ tl ≤ 40) = false by simp [c1], Bool.false_and]
    refine ⟨_, G, f0, z0, fun q => (by rw [e] at q; cases q), ?_⟩
    rw [e, if_neg (show ¬ false = true by decide)]
    by_cases c2 : tl % 2 = 0
    · rw [if_pos (show nI (tl % 2) = 0 by rw [c2]; rfl), if_pos (nI_lt (by omega) (by omega))]
    · rw [if_neg (show ¬ nI (tl % 2) = 0 from nI_ne0 (by omega) (by omega))]
theorem or_or {a b : Int32} : (a ||| b) ||| b = a ||| b := by
  refine b_ext (fun i hi => ?_)
  rw [b_or, b_or]
  cases bt a i <;> cases bt b i <;> rfl
theorem R_jars_l (hR : RSk h R) (hi1 : zI h (R + 1) = P) (h4 : P 4 = nI ni) (h6 : ni ≤ 6) (pm : PM h R P T n (21 * ni)) {w1 w2 : Value} (hw2 : zisL w2 = false) : ev z d 268 48 [.ref R, w1, w2, .int (nI 0), .int (nI 0)] [] h = some (.inl (some (.int (jiS P T n ni))), h) := by
  have inner : ∀ i, i < ni → ∀ w, w ≤ 21 → ev z d 268 48 [.ref R, w1, w2, .int (jiS P T n i), .int (nI (21 * i))] [] h = ev z d 268 48 [.ref R, w1, w2, .int (if cfS (ftP P T n i) w = 0 then jiS P T n i else jiS P T n i ||| (nI 1 <<< (nI i &&& 31))), .int (nI (21 * i + w))] [] h := by
    intro i hi w
    induction w with
    | zero => intro _; rfl
    | succ w ih =>
      intro hw
      rw [ih (by omega), S_M_jars_48 hR hw2, hi1, h4, pk_mul, if_neg (nI_ge (by omega) (by omega)), ix_n (by omega) (by decide), (pm (21 * i + w) (by omega)).1, chk0, pk_div (by omega) (by decide) (by decide), nI_add, show (21 * i + w) / 21 = i by omega, or_n0]
      have e : fqS P T n (21 * i + w) = ftP P T n i w := by
        unfold fqS
        rw [show (21 * i + w) / 21 = i by omega, show (21 * i + w) % 21 = w by omega]
      have u : cfS (ftP P T n i) (w + 1) = cfS (ftP P T n i) w + (if ftP P T n i w = true then 1 else 0) := rfl
      rw [e, u, Nat.add_assoc]
      by_cases c : ftP P T n i w = true
      · rw [if_pos c, if_pos c, if_neg (show ¬ cfS (ftP P T n i) w + 1 = 0 by omega)]
        by_cases c2 : cfS (ftP P T n i) w = 0
        · rw [if_pos c2]
        · rw [if_neg c2, or_or]
      · rw [if_neg c, if_neg c]
        rfl
  refine (lp (E := fun i => ev z d 268 48 [.ref R, w1, w2, .int (jiS P T n i), .int (nI (21 * i))] [] h) ni ?_).trans ?_
  · intro i hi
    rw [inner i hi 21 (Nat.le_refl _)]
    rfl
  · rw [S_M_jars_48 hR hw2, hi1, h4, pk_mul, if_pos (nI_le (Nat.le_refl _) (by omega))]
theorem R_jars (H : RI h R S K A tl T ft) (ok : Ok S) : RB z d h R 268 [.ref R, .int v, zu, zu, zu] (if gdS T tl = true then 0 else 1) (jaV S.1 T tl S.2.2.1 v) ((S, ls, Lo), K, A, 0, T, ft) := by
  have h6 := ok.1.2.2.2.2.1
  obtain ⟨g, G, f, z0, pm, e⟩ := R_heard (z := z) (d := d) H ok
  have cl := cfS_le (f := fqS S.1 T (tl / 2)) (21 * S.2.2.1)
  by_cases c : gdS T tl = true
  · rw [if_pos c]
    rw [if_pos c] at e
    refine RB.s (h' := zwI g R 0 (nI 0)) ?_ (f.tr FZ0) zI_wa G.w0
    unfold jaV
    rw [S_M_jars_0 H.1.1, e]
    simp only [zbd_i, tl_s]
    rw [S_M_jars_4 G.1.1, if_neg (nI_ne1 (by omega)), if_neg (by decide)]
    by_cases c2 : v = 0
    · rw [if_pos c2, if_pos c2, if_pos (by decide)]
    · have G2 := G.w0 (v := nI 0)
      rw [if_neg c2, if_neg c2, R_jars_l G2.1.1 G2.i ok.1.2.1 h6 (T := T) (n := tl / 2) (fun q hq => by
        have := pm c q hq
        rwa [show zI (zwI g R 0 (nI 0)) (R + 7) q = zI g (R + 7) q from zI_wb (by omega), show zI (zwI g R 0 (nI 0)) (R + 8) q = zI g (R + 8) q from zI_wb (by omega)]) rfl]
  · rw [if_neg c]
    rw [if_neg c] at e
    refine RB.t2 (h' := zwI g R 0 (nI 1)) (w := nI 0) (by decide) ?_ (f.tr FZ0) zI_wa G.w0
    rw [S_M_jars_0 H.1.1, e]
    simp only [zbd_i, tl_s]
    rw [S_M_jars_4 G.1.1, if_pos rfl, if_pos (by decide), if_neg (by decide)]
end
