/-! TEXTS: the reference's reading -/
def MT (h : Hp) (R : Nat) (T : Nat → Int32) (E : Nat) : Prop := RSk h R ∧ E ≤ 400 ∧ zI h R 10 = nI E ∧ ((zI h R 9 = -1 ∧ ∀ k, k < E → zI h (R + 5) k = T k) ∨ (zI h R 9 = nI 381 ∧ ∀ k, k < E → zI h (R + 1) (381 + k) = T k))
def aH (h : Hp) (R a : Nat) : Hp := zwI h R 11 (nI a)
theorem RSk_w {h : Hp} {a j R : Nat} {v : Int32} (s : RSk h R) : RSk (zwI h a j v) R := s
theorem WSk_w {h : Hp} {w R j : Nat} {v : Int32} {tx : List Nat} (W : WSk h w tx) (hk : zK h R = 11) : WSk (zwI h R j v) w tx := by
  obtain ⟨k, q, hr, h1, hv, hn, hl, hm, ht⟩ := W
  have hw : w ≠ R := fun e => by rw [e, hk] at k; cases k
  have hv2 : q ≠ R := fun e => by rw [e, hk] at hv; cases hv
  exact ⟨k, q, hr, (zI_wb hw).trans h1, hv, hn, hl, hm, fun j hj => ⟨(ht j hj).1, (zI_wb hv2).trans (ht j hj).2⟩⟩
section
variable {z : ZE} {d : Nat} {h : Hp} {R E a s w : Nat} {T : Nat → Int32} {tx : List Nat}
theorem MT_w {j : Nat} {v : Int32} (M : MT h R T E) (h9 : j ≠ 9) (h10 : j ≠ 10) : MT (zwI h R j v) R T E := by
  obtain ⟨s, e, q, c⟩ := M
  refine ⟨s, e, (zI_wj (Ne.symm h10)).trans q, ?_⟩
  rcases c with ⟨c1, c2⟩ | ⟨c1, c2⟩
  · exact Or.inl ⟨(zI_wj (Ne.symm h9)).trans c1, fun k hk => (zI_wb (by omega)).trans (c2 k hk)⟩
  · exact Or.inr ⟨(zI_wj (Ne.symm h9)).trans c1, fun k hk => (zI_wb (by omega)).trans (c2 k hk)⟩
theorem MT_a (M : MT h R T E) : MT (aH h R a) R T E := MT_w M (by decide) (by decide)
theorem aa {b : Nat} : aH (aH h R a) R b = aH h R b := zw_ww
theorem a11 : zI (aH h R a) R 11 = nI a := zI_wa
theorem aj {j : Nat} (hj : j ≠ 11) {x : Nat} : zI (aH h R a) x j = zI h x j := zI_wj hj
theorem MT.r (M : MT h R T E) : RSk h R := M.1
theorem MT.e (M : MT h R T E) : E ≤ 400 := M.2.1
theorem MT.e10 (M : MT h R T E) : zI h R 10 = nI E := M.2.2.1
theorem T_M_letter (M : MT h R T E) {k : Nat} (hk : k < E) : ev z d 192 0 [.ref R, .int (nI k)] [] h = some (.inl (some (.int (T k))), h) := by
  obtain ⟨s, e, q, c⟩ := M
  rw [S_M_letter_0 s]
  rcases c with ⟨c1, c2⟩ | ⟨c1, c2⟩
  · rw [if_pos c1, ix_n (by omega) (by decide), c2 k hk]
  · rw [c1, if_neg (by decide), nI_add, ix_n (by omega) (by decide), c2 k hk]
theorem T_M_skip (M : MT h R T E) : ∀ n a, E - a = n → a < 2 ^ 30 → ev z d 193 0 [.ref R] [] (aH h R a) = some (.inl none, aH h R (rn cS T E a)) := by
  have hE := M.e
  intro n
  induction n with
  | zero =>
    intro a ha h2
    rw [S_M_skip_0 (MT_a M).r, (MT_a M).e10, a11, if_pos (nI_le (by omega) (by omega)), rn_no (by omega)]
  | succ n ih =>
    intro a ha h2
    rw [S_M_skip_0 (MT_a M).r, (MT_a M).e10, a11, if_neg (nI_ge (by omega) (by omega)), T_M_letter (MT_a M) (by omega)]
    simp only [zbd_i, tl_s]
    rw [S_M_skip_19 (MT_a M).r, a11]
    by_cases hc : T a = nI 32
    · rw [if_pos hc, nI_add, rn_go (s := a) (by omega) (by unfold cS; simp [hc])]
      show ev z d 193 0 [.ref R] [] (aH (aH h R a) R (a + 1)) = _
      rw [aa]
      exact ih (a + 1) (by omega) (by omega)
    · rw [if_neg hc, rn_no (by unfold cS; simp [hc])]
theorem T_M_sk (M : MT h R T E) (ha : a < 2 ^ 30) : ev z d 193 0 [.ref R] [] (aH h R a) = some (.inl none, aH h R (rn cS T E a)) := T_M_skip M _ a rfl ha
theorem T_M_here (M : MT h R T E) (ha : a < 2 ^ 30) : ev z d 197 0 [.ref R] [] (aH h R a) = some (.inl (some (.int (nI (rn cS T E a)))), aH h R (rn cS T E a)) := by
  rw [S_M_here_0 (MT_a M).r, T_M_sk M ha]
  simp only [zbd_i, tl_n]
  rw [S_M_here_4 (MT_a M).r, a11]
theorem T_M_isSign (M : MT h R T E) (ha : a < 2 ^ 30) {c : Int32} : ev z d 194 0 [.ref R, .int c] [] (aH h R a) = some (.inl (some (.int (bI (rn cS T E a < E ∧ T (rn cS T E a) = c)))), aH h R (rn cS T E a)) := by
  have hE := M.e
  rw [S_M_isSign_0 (MT_a M).r, T_M_sk M ha]
  simp only [zbd_i, tl_n]
  have hb : rn cS T E a < 2 ^ 31 := by
    rcases Nat.le_total a E with q | q
    · exact Nat.lt_of_le_of_lt (rn_le q) (by omega)
    · rw [rn_no (by omega)]; omega
  generalize rn cS T E a = s at hb
  rw [S_M_isSign_4 (MT_a M).r, (MT_a M).e10, a11]
  by_cases hs : s < E
  · rw [if_neg (nI_ge hs (by omega)), T_M_letter (MT_a M) hs]
    simp only [zbd_i, tl_s, S_M_isSign_23]
    by_cases hc : T s = c
    · rw [if_pos hc, bI_t ⟨hs, hc⟩]
    · rw [if_neg hc, bI_f (fun q => hc q.2)]
  · rw [if_pos (nI_le (by omega) hb), bI_f (fun q => hs q.1)]
theorem T_M_wrong (hR : RSk h R) {e : Int32} (hf : zI h R 12 = -1) : ev z d 196 0 [.ref R, .int e] [] h = some (.inl none, zwI h R 12 e) := by rw [S_M_wrong_0 hR, if_pos hf]
theorem T_M_wrong_f (hR : RSk h R) {e : Int32} (hf : ¬ zI h R 12 = -1) : ev z d 196 0 [.ref R, .int e] [] h = some (.inl none, h) := by rw [S_M_wrong_0 hR, if_neg hf]
theorem T_M_has_a (M : MT h R T E) (W : WSk h w tx) {w3 : Value} : ∀ n k, E - k = n → s ≤ k → k ≤ E → ev z d 195 9 [.ref R, .ref w, .int (nI k), w3] [] (aH h R s) = ev z d 195 48 [.ref R, .ref w, .int (nI (rn cL T E k)), w3] [.int (nI tx.length), .int (nI (rn cL T E k - s))] (aH h R s) := by
  have hE := M.e
  have W' := WSk_w (j := 11) (v := nI s) W (RSk_K M.r)
  intro n
  induction n with
  | zero =>
    intro k hk hs hkE
    rw [S_M_has_9 (MT_a M).r W'.1, (MT_a M).e10, if_pos (nI_le (by omega) (by omega)), a11, pk_sub hs, rn_no (by omega)]
    have := T_Str_length (z := z) (d := d) W'
    unfold aH
    rw [this]
    rfl
  | succ n ih =>
    intro k hk hs hkE
    rw [S_M_has_9 (MT_a M).r W'.1, (MT_a M).e10, if_neg (nI_ge (by omega) (by omega)), T_M_letter (MT_a M) (by omega)]
    simp only [zbd_i, tl_s, S_M_has_22, T_M_isIn]
    rw [S_M_has_29 (MT_a M).r W'.1]
    simp only [bI_0, nI_add]
    by_cases hc : cL (T k) = true
    · have hc2 : isin (T k) (nI 97) (nI 122) := by unfold cL at hc; exact of_decide_eq_true hc
      rw [if_neg (fun q => q hc2), rn_go (s := k) (by omega) hc]
      exact ih (k + 1) (by omega) (by omega) (by omega)
    · have hc2 : ¬ isin (T k) (nI 97) (nI 122) := by unfold cL at hc; exact fun q => hc (decide_eq_true q)
      rw [if_pos hc2, rn_no (fun q => hc q.2), a11, pk_sub hs]
      have := T_Str_length (z := z) (d := d) W'
      unfold aH
      rw [this]
      rfl
theorem T_M_has_b (M : MT h R T E) (W : WSk h w tx) {e : Nat} (hs : s + tx.length ≤ E) : ∀ n j, j + n = tx.length → ev z d 195 55 [.ref R, .ref w, .int (nI e), .int (nI j)] [] (aH h R s) = if eqF T s tx n j = true then some (.inl (some (.int (nI 1))), aH h R e) else some (.inl (some (.int (nI 0))), aH h R s) := by
  have hE := M.e
  have W' : WSk (aH h R s) w tx := WSk_w (j := 11) (v := nI s) W (RSk_K M.r)
  have hl : tx.length < 100 := W.2.choose_spec.2.2.2.2.2.1
  intro n
  induction n with
  | zero =>
    intro j hj
    rw [S_M_has_55 W'.1, T_Str_length W']
    simp only [zbd_i, tl_s]
    rw [S_M_has_60 (MT_a M).r, if_pos (nI_le (by omega) (by omega)), if_pos (show eqF T s tx 0 j = true from rfl)]
    show some (_, aH (aH h R s) R e) = _
    rw [aa]
  | succ n ih =>
    intro j hj
    rw [S_M_has_55 W'.1, T_Str_length W']
    simp only [zbd_i, tl_s]
    rw [S_M_has_60 (MT_a M).r, if_neg (nI_ge (by omega) (by omega)), a11, nI_add, T_M_letter (MT_a M) (by omega)]
    simp only [zbd_i, tl_s]
    rw [S_M_has_73 W'.1, T_Str_charAt W' (by omega)]
    simp only [zbd_i, tl_s, S_M_has_78, nI_add]
    rw [ih (j + 1) (by omega)]
    have e1 : eqF T s tx (n + 1) j = (decide (T (s + j) = nI (tx.getD j 0)) && eqF T s tx n (j + 1)) := rfl
    rw [e1]
    by_cases hc : T (s + j) = nI (tx.getD j 0)
    · rw [if_pos hc, decide_eq_true hc, Bool.true_and]
    · rw [if_neg hc, decide_eq_false hc, Bool.false_and, if_neg Bool.false_ne_true]
theorem T_M_has (M : MT h R T E) (W : WSk h w tx) (h0 : 0 < tx.length) (ha : a ≤ E) (hs : rn cS T E a = s) : ev z d 195 0 [.ref R, .ref w, zu, zu] [] (aH h R a) = if isW T E s tx = true then some (.inl (some (.int (nI 1))), aH h R (tkN T E s)) else some (.inl (some (.int (nI 0))), aH h R s) := by
  have hE := M.e
  have hsE : s ≤ E := by rw [← hs]; exact rn_le ha
  have hl : tx.length < 100 := W.2.choose_spec.2.2.2.2.2.1
  rw [S_M_has_0 (MT_a M).r, T_M_sk M (by omega), hs]
  simp only [zbd_i, tl_n]
  rw [S_M_has_4 (MT_a M).r, a11, T_M_has_a M W _ s rfl (Nat.le_refl s) hsE, S_M_has_48]
  have g1 : s ≤ rn cL T E s := rn_ge
  have g2 : rn cL T E s ≤ E := rn_le hsE
  unfold isW
  by_cases hk : s < E ∧ cL (T s) = true
  · by_cases hc : rn cL T E s = s + tx.length
    · rw [if_pos (by rw [hc]; congr 1; omega), T_M_has_b M W (by omega) tx.length 0 (by omega), decide_eq_true ⟨hk.1, hk.2, hc⟩, Bool.true_and]
      have e : tkN T E s = rn cL T E s := by unfold tkN; rw [if_pos hk.1, if_pos hk.2]
      rw [e]
    · rw [if_neg (fun q => hc (by have := (nI_eq (by omega) (by omega)).mp q; omega)), decide_eq_false (fun q => hc q.2.2), Bool.false_and, if_neg Bool.false_ne_true]
  · rw [rn_no hk, if_neg (fun q => by have := (nI_eq (by omega) (by omega)).mp q; omega), decide_eq_false (fun q => hk ⟨q.1, q.2.1⟩), Bool.false_and, if_neg Bool.false_ne_true]
end
