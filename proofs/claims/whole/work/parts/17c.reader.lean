/-! TEXTS: the reader's questions -/
def eqF (T : Nat → Int32) (s : Nat) (tx : List Nat) : Nat → Nat → Bool
  | 0, _ => true
  | n + 1, j => decide (T (s + j) = nI (tx.getD j 0)) && eqF T s tx n (j + 1)
def isW (T : Nat → Int32) (E s : Nat) (tx : List Nat) : Bool := decide (s < E ∧ cL (T s) = true ∧ rn cL T E s = s + tx.length) && eqF T s tx tx.length 0
def isS (T : Nat → Int32) (E s : Nat) (c : Int32) : Bool := decide (tkK T E s = nI 3 ∧ T s = c)
/-- a refusal -/
def xH (h : Hp) (r s : Nat) : Hp := znw (zwI h r 6 (nI s)) 0 6
def RdT (h : Hp) (r b N E : Nat) (T : Nat → Int32) : Prop := RdSk h r b N ∧ zI h r 1 = nI E ∧ E ≤ N ∧ N < 2 ^ 31 ∧ b ≠ r ∧ zI h b = T
theorem tkK_1 {T : Nat → Int32} {E s : Nat} : tkK T E s = nI 1 ↔ s < E ∧ cL (T s) = true := by
  unfold tkK
  by_cases h1 : s < E
  · by_cases h2 : cL (T s) = true
    · rw [if_pos h1, if_pos h2]; exact ⟨fun _ => ⟨h1, h2⟩, fun _ => rfl⟩
    · rw [if_pos h1, if_neg h2]
      refine ⟨fun e => absurd e ?_, fun c => absurd c.2 h2⟩
      split <;> decide
  · rw [if_neg h1]; exact ⟨fun e => absurd e (by decide), fun c => absurd c.1 h1⟩
theorem tkK_0 {T : Nat → Int32} {E s : Nat} : tkK T E s = 0 ↔ ¬ s < E := by
  unfold tkK
  by_cases h1 : s < E
  · rw [if_pos h1]
    refine ⟨fun e => absurd e ?_, fun c => absurd h1 c⟩
    split
    · decide
    · split <;> decide
  · rw [if_neg h1]; exact ⟨fun _ => h1, fun _ => rfl⟩
section
variable {z : ZE} {d : Nat} {h : Hp} {r b N E s w : Nat} {T : Nat → Int32} {tx : List Nat}
theorem rd_o {x y : Nat} (hx : x ≠ r) : zI (rdH h r T E s) x y = zI h x y := by
  show rdF (zI h) r T E s x y = _
  unfold rdF zup
  simp [hx]
theorem rd_f {y : Nat} (h2 : y ≠ 2) (h3 : y ≠ 3) (h4 : y ≠ 4) (h5 : y ≠ 5) {x : Nat} : zI (rdH h r T E s) x y = zI h x y := by
  show rdF (zI h) r T E s x y = _
  unfold rdF zup
  simp [h2, h3, h4, h5]
theorem rd_1 : zI (rdH h r T E s) r 1 = zI h r 1 := rd_f (by decide) (by decide) (by decide) (by decide)
theorem rd_2 : zI (rdH h r T E s) r 2 = tkK T E s := by
  show rdF (zI h) r T E s r 2 = _
  unfold rdF zup
  simp
theorem rd_3 : zI (rdH h r T E s) r 3 = nI s := by
  show rdF (zI h) r T E s r 3 = _
  unfold rdF zup
  simp
theorem rd_4 : zI (rdH h r T E s) r 4 = nI (tkN T E s) := by
  show rdF (zI h) r T E s r 4 = _
  unfold rdF zup
  simp
theorem rd_5 : zI (rdH h r T E s) r 5 = tkV T E s := by
  show rdF (zI h) r T E s r 5 = _
  unfold rdF zup
  simp
theorem rd_b (hb : b ≠ r) : zI (rdH h r T E s) b = zI h b := funext fun y => rd_o hb
theorem rd_rd {T' : Nat → Int32} {E' s' : Nat} : rdH (rdH h r T E s) r T' E' s' = rdH h r T' E' s' := by
  show hI h (rdF (rdF (zI h) r T E s) r T' E' s') = hI h (rdF (zI h) r T' E' s')
  refine hI_ext (fun x y => ?_)
  unfold rdF zup
  by_cases hx : x = r
  · by_cases y2 : y = 2
    · subst y2; simp [hx]
    · by_cases y3 : y = 3
      · subst y3; simp [hx]
      · by_cases y4 : y = 4
        · subst y4; simp [hx]
        · by_cases y5 : y = 5
          · subst y5; simp [hx]
          · simp [y2, y3, y4, y5]
  · simp [hx]
theorem rd_w (W : WSk h w tx) (hk : zK h r = 9) : WSk (rdH h r T E s) w tx := by
  obtain ⟨k, v, hr, h1, hv, hn, hl, hm, ht⟩ := W
  have hw : w ≠ r := fun e => by rw [e, hk] at k; cases k
  have hv2 : v ≠ r := fun e => by rw [e, hk] at hv; cases hv
  exact ⟨k, v, hr, (rd_o hw).trans h1, hv, hn, hl, hm, fun j hj => ⟨(ht j hj).1, (rd_o hv2).trans (ht j hj).2⟩⟩
theorem RdT.K (O : RdT h r b N E T) : zK h r = 9 := RdSk_K O.1
theorem RdT.sk (O : RdT h r b N E T) : RdSk (rdH h r T E s) r b N := O.1
theorem RdT.lN (O : RdT h r b N E T) : N < 2 ^ 31 := O.2.2.2.1
theorem RdT.EN (O : RdT h r b N E T) : E ≤ N := O.2.2.1
theorem RdT.ne (O : RdT h r b N E T) : b ≠ r := O.2.2.2.2.1
theorem RdT.tt (O : RdT h r b N E T) : zI h b = T := O.2.2.2.2.2
theorem T_adv (O : RdT h r b N E T) (hs : s ≤ E) : ev z d 91 0 [.ref r] [] (rdH h r T E s) = some (.inl none, rdH h r T E (adv T E s)) := by
  rw [T_Rdr_advance0 O.sk (rd_1.trans O.2.1) O.EN O.lN O.ne rd_4 (tkN_le hs), rd_b O.ne, O.tt, rd_rd]
  rfl
theorem T_refuse (O : RdT h r b N E T) : ev z d 99 0 [.ref r] [] (rdH h r T E s) = some (.inr 0, xH (rdH h r T E s) r s) := by
  rw [S_Rdr_refuse_0 O.sk, rd_3]
  rfl
theorem T_word_l (O : RdT h r b N E T) (W : WSk h w tx) (hs : s + tx.length ≤ E) : ∀ n j, j + n = tx.length → ev z d 92 28 [.ref r, .ref w, .int (nI j)] [] (rdH h r T E s) = some (.inl (some (.int (bI (eqF T s tx n j)))), rdH h r T E s) := by
  have hN := O.lN
  have hEN := O.EN
  have W' := rd_w (T := T) (E := E) (s := s) W O.K
  intro n
  induction n with
  | zero =>
    intro j hj
    rw [S_Rdr_isAtWord_28 W'.1]
    simp only [T_Str_length W', zbd_i, tl_s]
    rw [S_Rdr_isAtWord_33 O.sk W'.1, if_pos (nI_le (by omega) (by omega))]
    rfl
  | succ n ih =>
    intro j hj
    rw [S_Rdr_isAtWord_28 W'.1]
    simp only [T_Str_length W', zbd_i, tl_s]
    rw [S_Rdr_isAtWord_33 O.sk W'.1, if_neg (nI_ge (by omega) (by omega)), rd_3, nI_add, ix_n (by omega) (by omega), T_Str_charAt W' (by omega)]
    simp only [zbd_i, tl_s, S_Rdr_isAtWord_52, nI_add, rd_b O.ne, O.tt]
    rw [ih (j + 1) (by omega)]
    have e1 : eqF T s tx (n + 1) j = (decide (T (s + j) = nI (tx.getD j 0)) && eqF T s tx n (j + 1)) := rfl
    by_cases hc : T (s + j) = nI (tx.getD j 0)
    · rw [if_pos hc, bI_cg (show eqF T s tx n (j + 1) = true ↔ eqF T s tx (n + 1) j = true by rw [e1]; simp [hc])]
    · rw [if_neg hc, bI_f (by rw [e1, decide_eq_false hc]; exact Bool.false_ne_true)]
theorem T_atWord (O : RdT h r b N E T) (W : WSk h w tx) (hs : s ≤ E) : ev z d 92 0 [.ref r, .ref w, zu] [] (rdH h r T E s) = some (.inl (some (.int (bI (isW T E s tx)))), rdH h r T E s) := by
  have hN := O.lN
  have hEN := O.EN
  have W' := rd_w (T := T) (E := E) (s := s) W O.K
  have hl : tx.length < 100 := W.2.choose_spec.2.2.2.2.2.1
  rw [S_Rdr_isAtWord_0 O.sk W'.1, rd_2]
  unfold isW
  by_cases hk : s < E ∧ cL (T s) = true
  · rw [if_pos (tkK_1.mpr hk)]
    simp only [T_Str_length W', zbd_i, tl_s]
    have e : tkN T E s = rn cL T E s := by unfold tkN; rw [if_pos hk.1, if_pos hk.2]
    have g1 : s ≤ rn cL T E s := rn_ge
    have g2 : rn cL T E s ≤ E := rn_le hs
    rw [S_Rdr_isAtWord_21, rd_3, rd_4, e, pk_sub g1]
    by_cases hc : rn cL T E s = s + tx.length
    · rw [if_pos (by rw [hc]; congr 1; omega), T_word_l O W (by omega) tx.length 0 (by omega)]
      simp [hk, hc]
    · rw [if_neg (fun q => hc (by have := (nI_eq (by omega) (by omega)).mp q; omega))]
      simp [hc, bI]
  · rw [if_neg (fun q => hk (tkK_1.mp q)), bI_f]
    intro q
    simp only [Bool.and_eq_true, decide_eq_true_eq] at q
    exact hk ⟨q.1.1, q.1.2.1⟩
theorem T_atSign (O : RdT h r b N E T) {c : Int32} : ev z d 93 0 [.ref r, .int c] [] (rdH h r T E s) = some (.inl (some (.int (bI (isS T E s c)))), rdH h r T E s) := by
  have hN := O.lN
  have hEN := O.EN
  rw [S_Rdr_isAtSign_0 O.sk, rd_2, rd_3, rd_b O.ne, O.tt]
  unfold isS
  by_cases hk : tkK T E s = nI 3
  · have hsE : s < E := by
      by_cases q : s < E
      · exact q
      · have := (tkK_0 (T := T)).mpr q
        rw [hk] at this
        exact absurd this (by decide)
    rw [if_pos hk, ix_n (by omega) (by omega)]
    by_cases hc : T s = c
    · rw [if_pos hc, bI_t (by simp [hk, hc])]
    · rw [if_neg hc, bI_f (by simp [hc])]
  · rw [if_neg hk, bI_f (by simp [hk])]
theorem T_takes (O : RdT h r b N E T) (W : WSk h w tx) (hs : s ≤ E) : ev z d 94 0 [.ref r, .ref w, zu] [] (rdH h r T E s) = if isW T E s tx = true then some (.inl (some (.int (nI 1))), rdH h r T E (adv T E s)) else some (.inl (some (.int (nI 0))), rdH h r T E s) := by
  simp only [S_Rdr_takesWord_0 O.sk, T_atWord O W hs, zbd_i, tl_s, S_Rdr_takesWord_5 O.sk zisL_r bI_01, bI_0, T_adv O hs, tl_n, S_Rdr_takesWord_14 bI_01]
  by_cases hc : isW T E s tx = true
  · rw [if_neg (fun q => q hc), if_pos hc, bI_t hc]
  · rw [if_pos hc, if_neg hc, bI_f hc]
theorem T_needW (O : RdT h r b N E T) (W : WSk h w tx) (hs : s ≤ E) : ev z d 95 0 [.ref r, .ref w] [] (rdH h r T E s) = if isW T E s tx = true then some (.inl none, rdH h r T E (adv T E s)) else some (.inr 0, xH (rdH h r T E s) r s) := by
  rw [S_Rdr_needWord_0 O.sk, T_takes O W hs]
  by_cases hc : isW T E s tx = true
  · rw [if_pos hc, if_pos hc]
    simp only [zbd_i, tl_s]
    rw [S_Rdr_needWord_5 O.sk, if_neg (by decide)]
  · rw [if_neg hc, if_neg hc]
    simp only [zbd_i, tl_s]
    rw [S_Rdr_needWord_5 O.sk, if_pos (by decide), T_refuse O]
    simp only [zbd_e, evx_nil (n := 95) rfl]
theorem T_needS (O : RdT h r b N E T) {c : Int32} (hs : s ≤ E) : ev z d 96 0 [.ref r, .int c] [] (rdH h r T E s) = if isS T E s c = true then some (.inl none, rdH h r T E (adv T E s)) else some (.inr 0, xH (rdH h r T E s) r s) := by
  rw [S_Rdr_needSign_0 O.sk, T_atSign O]
  simp only [zbd_i, tl_s, S_Rdr_needSign_5 O.sk, bI_0, T_adv O hs, T_refuse O, zbd_e, tl_n, S_Rdr_needSign_16, evx_nil (n := 96) rfl]
  by_cases hc : isS T E s c = true
  · rw [if_neg (fun q => q hc), if_pos hc]
  · rw [if_pos hc, if_neg hc]
def isN (T : Nat → Int32) (E s : Nat) (lo hi : Int32) : Bool := decide (tkK T E s = nI 2 ∧ lo ≤ tkV T E s ∧ tkV T E s ≤ hi)
theorem T_needN (O : RdT h r b N E T) {lo hi : Int32} (hs : s ≤ E) : ev z d 97 0 [.ref r, .int lo, .int hi, zu] [] (rdH h r T E s) = if isN T E s lo hi = true then some (.inl (some (.int (tkV T E s))), rdH h r T E (adv T E s)) else some (.inr 0, xH (rdH h r T E s) r s) := by
  rw [S_Rdr_needNumber_0 O.sk, rd_2, rd_5, T_refuse O, T_adv O hs]
  simp only [zbd_e, zbd_i, tl_n, S_Rdr_needNumber_37, evx_nil (n := 97) rfl]
  unfold isN
  by_cases h1 : tkK T E s = nI 2
  · by_cases h2 : tkV T E s < lo
    · rw [if_pos h1, if_pos h2, if_neg]
      simp only [decide_eq_true_eq]
      exact fun q => Int32.not_le.mpr h2 q.2.1
    · by_cases h3 : tkV T E s ≤ hi
      · rw [if_pos h1, if_neg h2, if_pos h3, if_pos]
        simp only [decide_eq_true_eq]
        exact ⟨h1, Int32.not_lt.mp h2, h3⟩
      · rw [if_pos h1, if_neg h2, if_neg h3, if_neg]
        simp only [decide_eq_true_eq]
        exact fun q => h3 q.2.2
  · rw [if_neg h1, if_neg]
    simp only [decide_eq_true_eq]
    exact fun q => h1 q.1
theorem T_goesOn (O : RdT h r b N E T) (hs : s ≤ E) : ev z d 98 0 [.ref r] [] (rdH h r T E s) = if s < E then (if isS T E s (nI 59) = true then some (.inl (some (.int (nI 1))), rdH h r T E (adv T E s)) else some (.inr 0, xH (rdH h r T E s) r s)) else some (.inl (some (.int (nI 0))), rdH h r T E s) := by
  rw [S_Rdr_goesOn_0 O.sk, rd_2, T_needS O hs]
  by_cases h1 : s < E
  · rw [if_neg (fun q => tkK_0.mp q h1), if_pos h1]
    split
    · simp only [zbd_i, tl_n, S_Rdr_goesOn_15]
    · simp only [zbd_e, evx_nil (n := 98) rfl]
  · rw [if_pos (tkK_0.mpr h1), if_neg h1]
end
