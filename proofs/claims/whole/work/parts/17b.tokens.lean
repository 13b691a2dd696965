/-! TEXTS: tokens, the reader -/
def cS (x : Int32) : Bool := decide (x = nI 32)
def cL (x : Int32) : Bool := decide (nI 97 ≤ x ∧ x ≤ nI 122)
def cD (x : Int32) : Bool := decide (nI 48 ≤ x ∧ x ≤ nI 57)
def rnF (p : Int32 → Bool) (T : Nat → Int32) (E : Nat) : Nat → Nat → Nat
  | 0, s => s
  | f + 1, s => if s < E ∧ p (T s) = true then rnF p T E f (s + 1) else s
/-- the end of a run from a place on -/
def rn (p : Int32 → Bool) (T : Nat → Int32) (E s : Nat) : Nat := rnF p T E (E - s) s
theorem rn_step {p : Int32 → Bool} {T : Nat → Int32} {E s : Nat} : rn p T E s = if s < E ∧ p (T s) = true then rn p T E (s + 1) else s := by
  unfold rn
  by_cases hs : s < E
  · obtain ⟨k, hk⟩ : ∃ k, E - s = k + 1 := ⟨E - s - 1, by omega⟩
    rw [hk, show E - (s + 1) = k by omega]
    rfl
  · rw [show E - s = 0 by omega, if_neg (fun c => hs c.1)]
    rfl
theorem rn_go {p : Int32 → Bool} {T : Nat → Int32} {E s : Nat} (h1 : s < E) (h2 : p (T s) = true) : rn p T E s = rn p T E (s + 1) := by rw [rn_step, if_pos ⟨h1, h2⟩]
theorem rn_no {p : Int32 → Bool} {T : Nat → Int32} {E s : Nat} (h : ¬ (s < E ∧ p (T s) = true)) : rn p T E s = s := by rw [rn_step, if_neg h]
theorem rnF_ge {p : Int32 → Bool} {T : Nat → Int32} {E : Nat} : ∀ f s, s ≤ rnF p T E f s
  | 0, s => Nat.le_refl s
  | f + 1, s => by
    unfold rnF
    split
    · exact Nat.le_trans (Nat.le_succ s) (rnF_ge f (s + 1))
    · exact Nat.le_refl s
theorem rn_ge {p : Int32 → Bool} {T : Nat → Int32} {E s : Nat} : s ≤ rn p T E s := rnF_ge _ s
theorem rnF_le {p : Int32 → Bool} {T : Nat → Int32} {E : Nat} : ∀ f s, s ≤ E → rnF p T E f s ≤ E
  | 0, s, h => h
  | f + 1, s, h => by
    unfold rnF
    split
    · rename_i c; exact rnF_le f (s + 1) c.1
    · exact h
theorem rn_le {p : Int32 → Bool} {T : Nat → Int32} {E s : Nat} (h : s ≤ E) : rn p T E s ≤ E := rnF_le _ s h
theorem rnF_stop {p : Int32 → Bool} {T : Nat → Int32} {E : Nat} : ∀ f s, E - s ≤ f → ¬ (rnF p T E f s < E ∧ p (T (rnF p T E f s)) = true)
  | 0, s, h => by
    unfold rnF
    omega
  | f + 1, s, h => by
    unfold rnF
    split
    · exact rnF_stop f (s + 1) (by omega)
    · rename_i c; exact c
theorem rn_stop {p : Int32 → Bool} {T : Nat → Int32} {E s : Nat} : ¬ (rn p T E s < E ∧ p (T (rn p T E s)) = true) := rnF_stop _ s (Nat.le_refl _)
theorem rn_rn {p : Int32 → Bool} {T : Nat → Int32} {E s : Nat} : rn p T E (rn p T E s) = rn p T E s := rn_no rn_stop
/-- the token at a place: its kind, its end, its value -/
def tkK (T : Nat → Int32) (E s : Nat) : Int32 := if s < E then (if cL (T s) then nI 1 else if cD (T s) then nI 2 else nI 3) else nI 0
def tkN (T : Nat → Int32) (E s : Nat) : Nat := if s < E then (if cL (T s) then rn cL T E s else if cD (T s) then rn cD T E s else s + 1) else s
def vl (T : Nat → Int32) (s : Nat) : Nat → Int32
  | 0 => nI 0
  | j + 1 => nI 10 * vl T s j + T (s + j) - nI 48
def vv (T : Nat → Int32) (s j : Nat) : Int32 := if j ≤ 3 then vl T s j else -1
def tkV (T : Nat → Int32) (E s : Nat) : Int32 := if s < E then (if cL (T s) then nI 0 else if cD (T s) then vv T s (rn cD T E s - s) else nI 0) else nI 0
/-- the next token's place -/
def adv (T : Nat → Int32) (E s : Nat) : Nat := rn cS T E (tkN T E s)
theorem tkN_ge {T : Nat → Int32} {E s : Nat} : s ≤ tkN T E s := by
  unfold tkN
  split
  · split
    · exact rn_ge
    · split
      · exact rn_ge
      · omega
  · exact Nat.le_refl s
theorem tkN_gt {T : Nat → Int32} {E s : Nat} (h : s < E) : s < tkN T E s := by
  unfold tkN
  rw [if_pos h]
  split
  · rename_i c; rw [rn_go h c]; exact Nat.lt_of_lt_of_le (Nat.lt_succ_self s) rn_ge
  · split
    · rename_i c; rw [rn_go h c]; exact Nat.lt_of_lt_of_le (Nat.lt_succ_self s) rn_ge
    · omega
theorem tkN_le {T : Nat → Int32} {E s : Nat} (h : s ≤ E) : tkN T E s ≤ E := by
  unfold tkN
  split
  · split
    · exact rn_le h
    · split
      · exact rn_le h
      · omega
  · exact h
theorem adv_le {T : Nat → Int32} {E s : Nat} (h : s ≤ E) : adv T E s ≤ E := rn_le (tkN_le h)
theorem adv_gt {T : Nat → Int32} {E s : Nat} (h : s < E) : s < adv T E s := Nat.lt_of_lt_of_le (tkN_gt h) rn_ge
/-- heaps that differ in ints alone -/
theorem hI_ext {h : Hp} {f g : Nat → Nat → Int32} (e : ∀ x y, f x y = g x y) : hI h f = hI h g := by rw [show f = g from funext fun x => funext fun y => e x y]
theorem z_ext {h A B : Hp} (a : A = hI h (zI A)) (b : B = hI h (zI B)) (e : ∀ x y, zI A x y = zI B x y) : A = B := by
  rw [a, b]; exact hI_ext e
theorem zI_w {h : Hp} {a j x y : Nat} {v : Int32} : zI (zwI h a j v) x y = if x = a ∧ y = j then v else zI h x y := rfl
theorem zw_id {h : Hp} {a j : Nat} {v : Int32} (e : zI h a j = v) : zwI h a j v = h := z_ext (h := h) rfl rfl (fun x y => by
  rw [zI_w]
  split
  · rename_i c; rw [c.1, c.2, e]
  · rfl)
theorem zw_ww {h : Hp} {a j : Nat} {u v : Int32} : zwI (zwI h a j u) a j v = zwI h a j v := z_ext (h := h) rfl rfl (fun x y => by
  simp only [zI_w]
  split <;> rfl)
theorem zw_cm {h : Hp} {a b i j : Nat} {u v : Int32} (e : a ≠ b ∨ i ≠ j) : zwI (zwI h a i u) b j v = zwI (zwI h b j v) a i u := z_ext (h := h) rfl rfl (fun x y => by
  simp only [zI_w]
  by_cases h1 : x = a ∧ y = i
  · have h2 : ¬ (x = b ∧ y = j) := by omega
    rw [if_neg h2, if_pos h1, if_pos h1]
  · rw [if_neg h1, if_neg h1])
/-- the reader at a token -/
def rdF (f : Nat → Nat → Int32) (r : Nat) (T : Nat → Int32) (E s : Nat) : Nat → Nat → Int32 := zup (zup (zup (zup f r 3 (nI s)) r 2 (tkK T E s)) r 5 (tkV T E s)) r 4 (nI (tkN T E s))
def rdH (h : Hp) (r : Nat) (T : Nat → Int32) (E s : Nat) : Hp := hI h (rdF (zI h) r T E s)
theorem zw_hI {h : Hp} {a j : Nat} {v : Int32} : zwI h a j v = hI h (zup (zI h) a j v) := Eq.trans rfl rfl
theorem hIhI {h : Hp} {f g : Nat → Nat → Int32} : hI (hI h f) g = hI h g := Eq.trans rfl rfl
theorem zIhI {h : Hp} {f : Nat → Nat → Int32} : zI (hI h f) = f := Eq.trans rfl rfl
theorem RdSk_w {h : Hp} {r b N a j : Nat} {v : Int32} (s : RdSk h r b N) : RdSk (zwI h a j v) r b N := s
def RdO (h : Hp) (r b N E : Nat) : Prop := RdSk h r b N ∧ zI h r 1 = nI E ∧ E ≤ N ∧ N < 2 ^ 31 ∧ b ≠ r
theorem cL_if {α : Type} {x : Int32} {A B : α} : (if x < nI 97 then B else if nI 122 < x then B else A) = if cL x = true then A else B := by
  unfold cL
  by_cases h1 : x < nI 97
  · rw [if_pos h1, if_neg]
    simp only [decide_eq_true_eq]
    exact fun c => Int32.not_le.mpr h1 c.1
  · by_cases h2 : nI 122 < x
    · rw [if_neg h1, if_pos h2, if_neg]
      simp only [decide_eq_true_eq]
      exact fun c => Int32.not_le.mpr h2 c.2
    · rw [if_neg h1, if_neg h2, if_pos]
      simp only [decide_eq_true_eq]
      exact ⟨Int32.not_lt.mp h1, Int32.not_lt.mp h2⟩
theorem cD_if {α : Type} {x : Int32} {A B : α} : (if x < nI 48 then B else if nI 57 < x then B else A) = if cD x = true then A else B := by
  unfold cD
  by_cases h1 : x < nI 48
  · rw [if_pos h1, if_neg]
    simp only [decide_eq_true_eq]
    exact fun c => Int32.not_le.mpr h1 c.1
  · by_cases h2 : nI 57 < x
    · rw [if_neg h1, if_pos h2, if_neg]
      simp only [decide_eq_true_eq]
      exact fun c => Int32.not_le.mpr h2 c.2
    · rw [if_neg h1, if_neg h2, if_pos]
      simp only [decide_eq_true_eq]
      exact ⟨Int32.not_lt.mp h1, Int32.not_lt.mp h2⟩
section
variable {z : ZE} {d : Nat} {h g : Hp} {r b N E : Nat} {T : Nat → Int32}
theorem adv_A (hd : RdSk h r b N) (hN : N < 2 ^ 31) (hEN : E ≤ N) (hb : b ≠ r) : ∀ n p, E - p = n → p ≤ E → ∀ h, RdSk h r b N → zI h r 1 = nI E → zI h r 4 = nI p → zI h b = T → ev z d 91 0 [.ref r] [] h = ev z d 91 56 [.ref r] [] (zwI (zwI (zwI (zwI h r 4 (nI (rn cS T E p))) r 3 (nI (rn cS T E p))) r 2 (nI 0)) r 5 (nI 0)) := by
  intro n
  induction n with
  | zero =>
    intro p hp hpE h hd h1 h4 hT
    rw [S_Rdr_advance_0 hd, h1, h4, if_pos (nI_le (by omega) (by omega)), rn_no (by omega), zw_id h4]
  | succ n ih =>
    intro p hp hpE h hd h1 h4 hT
    rw [S_Rdr_advance_0 hd, h1, h4, if_neg (nI_ge (by omega) (by omega)), ix_n (by omega) (by omega), hT]
    by_cases hc : T p = nI 32
    · rw [if_pos hc, nI_add, ih (p + 1) (by omega) (by omega) (zwI h r 4 (nI (p + 1))) hd ((zI_wj (by decide)).trans h1) zI_wa (by rw [← hT]; funext y; exact zI_wb hb), zw_ww, rn_go (s := p) (by omega) (by unfold cS; simp [hc])]
    · rw [if_neg hc, rn_no (by unfold cS; simp [hc]), zw_id h4]
theorem adv_B (hN : N < 2 ^ 31) (hEN : E ≤ N) (hb : b ≠ r) : ∀ n p, E - p = n → p ≤ E → ∀ g, RdSk g r b N → zI g r 1 = nI E → zI g r 4 = nI p → zI g b = T → ev z d 91 56 [.ref r] [] g = ev z d 91 113 [.ref r] [] (if p < E ∧ cL (T p) = true then zwI (zwI g r 2 (nI 1)) r 4 (nI (rn cL T E p)) else g) := by
  intro n
  induction n with
  | zero =>
    intro p hp hpE g hd h1 h4 hT
    rw [S_Rdr_advance_56 hd, h1, h4, if_pos (nI_le (by omega) (by omega)), if_neg (by omega)]
  | succ n ih =>
    intro p hp hpE g hd h1 h4 hT
    rw [S_Rdr_advance_56 hd, h1, h4, if_neg (nI_ge (by omega) (by omega)), ix_n (by omega) (by omega), ix_n (by omega) (by omega), hT, cL_if]
    by_cases hc : cL (T p) = true
    · rw [if_pos hc, if_pos ⟨by omega, hc⟩, nI_add, ih (p + 1) (by omega) (by omega) (zwI (zwI g r 2 (nI 1)) r 4 (nI (p + 1))) (RdSk_w (RdSk_w hd)) ((zI_wj (by decide)).trans ((zI_wj (by decide)).trans h1)) zI_wa (by rw [← hT]; funext y; exact (zI_wb hb).trans (zI_wb hb)), rn_go (by omega) hc]
      congr 1
      by_cases hq : p + 1 < E ∧ cL (T (p + 1)) = true
      · rw [if_pos hq, zw_cm (a := r) (b := r) (i := 4) (j := 2) (Or.inr (by decide)), zw_ww, zw_ww]
      · rw [if_neg hq, rn_no hq]
    · rw [if_neg hc, if_neg (fun c => hc c.2)]
theorem adv_C (hN : N < 2 ^ 31) (hEN : E ≤ N) (hb : b ≠ r) (s : Nat) : ∀ n p, E - p = n → p ≤ E → s ≤ p → ∀ g k, RdSk g r b N → zI g r 1 = nI E → zI g r 4 = nI p → zI g r 3 = nI s → zI g r 5 = vv T s (p - s) → zI g r 2 = k → (k = nI 0 ∨ k = nI 2) → zI g b = T → ev z d 91 113 [.ref r] [] g = some (.inl none, if p < E ∧ cD (T p) = true then zwI (zwI (zwI g r 2 (nI 2)) r 5 (vv T s (rn cD T E p - s))) r 4 (nI (rn cD T E p)) else if k = 0 ∧ p < E then zwI (zwI g r 2 (nI 3)) r 4 (nI (p + 1)) else g) := by
  intro n
  induction n with
  | zero =>
    intro p hp hpE hs g k hd h1 h4 h3 h5 h2 hk hT
    have hq : nI E ≤ nI p := nI_le (by omega) (by omega)
    have hz : ¬ (p < E ∧ cD (T p) = true) := fun c => by omega
    have hy : ¬ (k = 0 ∧ p < E) := fun c => by omega
    rw [if_neg hz, if_neg hy, S_Rdr_advance_113 hd, h1, h4, h2, if_neg (by rcases hk with e | e <;> rw [e] <;> decide)]
    simp only [hq, if_true, ite_self]
  | succ n ih =>
    intro p hp hpE hs g k hd h1 h4 h3 h5 h2 hk hT
    have hq : ¬ nI E ≤ nI p := nI_ge (by omega) (by omega)
    rw [S_Rdr_advance_113 hd, h1, h4, h2, if_neg (by rcases hk with e | e <;> rw [e] <;> decide), if_neg hq, ix_n (by omega) (by omega), ix_n (by omega) (by omega), ix_n (by omega) (by omega), hT, cD_if]
    by_cases hc : cD (T p) = true
    · have hp2 : p < E ∧ cD (T p) = true := ⟨by omega, hc⟩
      rw [if_pos hc, if_pos hp2, rn_go (s := p) hp2.1 hc, h3, h5]
      have e3 : (if nI 3 ≤ nI p - nI s then (-1 : Int32) else vv T s (p - s) * nI 10 + zI (zwI g r 2 (nI 2)) b p - nI 48) = vv T s (p + 1 - s) := by
        rw [show nI p - nI s = nI (p - s) from pk_sub hs, show zI (zwI g r 2 (nI 2)) b p = T p from (zI_wb hb).trans (by rw [hT])]
        by_cases h3 : 3 ≤ p - s
        · rw [if_pos (nI_le h3 (by omega))]
          unfold vv
          rw [if_neg (by omega)]
        · rw [if_neg (nI_ge (by omega) (by omega))]
          unfold vv
          rw [if_pos (by omega), if_pos (by omega), show p + 1 - s = (p - s) + 1 by omega]
          show _ = nI 10 * vl T s (p - s) + T (s + (p - s)) - nI 48
          rw [Int32.mul_comm, show s + (p - s) = p by omega]
      have e4 : (if nI 3 ≤ nI p - nI s then ev z d 91 113 [.ref r] [] (zwI (zwI (zwI g r 2 (nI 2)) r 5 (-1)) r 4 (nI p + nI 1)) else ev z d 91 113 [.ref r] [] (zwI (zwI (zwI g r 2 (nI 2)) r 5 (vv T s (p - s) * nI 10 + zI (zwI g r 2 (nI 2)) b p - nI 48)) r 4 (nI p + nI 1))) = ev z d 91 113 [.ref r] [] (zwI (zwI (zwI g r 2 (nI 2)) r 5 (vv T s (p + 1 - s))) r 4 (nI (p + 1))) := by
        rw [← e3, nI_add]
        split <;> rfl
      rw [e4, ih (p + 1) (by omega) (by omega) (by omega) (zwI (zwI (zwI g r 2 (nI 2)) r 5 (vv T s (p + 1 - s))) r 4 (nI (p + 1))) (nI 2) (RdSk_w (RdSk_w (RdSk_w hd))) ((zI_wj (by decide)).trans ((zI_wj (by decide)).trans ((zI_wj (by decide)).trans h1))) zI_wa ((zI_wj (by decide)).trans ((zI_wj (by decide)).trans ((zI_wj (by decide)).trans h3))) ((zI_wj (by decide)).trans zI_wa) ((zI_wj (by decide)).trans ((zI_wj (by decide)).trans zI_wa)) (Or.inr rfl) (by rw [← hT]; funext y; exact (zI_wb hb).trans ((zI_wb hb).trans (zI_wb hb)))]
      congr 2
      by_cases hq : p + 1 < E ∧ cD (T (p + 1)) = true
      · rw [if_pos hq, zw_cm (a := r) (b := r) (i := 4) (j := 2) (Or.inr (by decide)), zw_cm (a := r) (b := r) (i := 5) (j := 2) (Or.inr (by decide)), zw_ww, zw_cm (a := r) (b := r) (i := 4) (j := 5) (Or.inr (by decide)), zw_ww, zw_ww]
      · rw [if_neg hq, rn_no hq, if_neg (fun c => absurd c.1 (by decide))]
    · have hp2 : ¬ (p < E ∧ cD (T p) = true) := fun c => hc c.2
      rw [if_neg hc, if_neg hp2]
      by_cases h0 : k = 0
      · have h6 : k = 0 ∧ p < E := ⟨h0, by omega⟩
        rw [if_pos h0, if_pos h6, if_neg hq, nI_add]
      · have h7 : ¬ (k = 0 ∧ p < E) := fun c => h0 c.1
        rw [if_neg h0, if_neg h7]
theorem T_Rdr_advance0 {p : Nat} (hd : RdSk h r b N) (h1 : zI h r 1 = nI E) (hEN : E ≤ N) (hN : N < 2 ^ 31) (hb : b ≠ r) (h4 : zI h r 4 = nI p) (hp : p ≤ E) : ev z d 91 0 [.ref r] [] h = some (.inl none, rdH h r (zI h b) E (rn cS (zI h b) E p)) := by
  generalize hT : zI h b = T
  have hs : rn cS T E p ≤ E := rn_le hp
  rw [adv_A hd hN hEN hb _ p rfl hp h hd h1 h4 hT]
  generalize rn cS T E p = s at hs
  generalize hg : zwI (zwI (zwI (zwI h r 4 (nI s)) r 3 (nI s)) r 2 (nI 0)) r 5 (nI 0) = g
  have gd : RdSk g r b N := by rw [← hg]; exact RdSk_w (RdSk_w (RdSk_w (RdSk_w hd)))
  have g1 : zI g r 1 = nI E := by rw [← hg]; exact (zI_wj (by decide)).trans ((zI_wj (by decide)).trans ((zI_wj (by decide)).trans ((zI_wj (by decide)).trans h1)))
  have g4 : zI g r 4 = nI s := by rw [← hg]; exact (zI_wj (by decide)).trans ((zI_wj (by decide)).trans ((zI_wj (by decide)).trans zI_wa))
  have g3 : zI g r 3 = nI s := by rw [← hg]; exact (zI_wj (by decide)).trans ((zI_wj (by decide)).trans zI_wa)
  have g2 : zI g r 2 = nI 0 := by rw [← hg]; exact (zI_wj (by decide)).trans zI_wa
  have g5 : zI g r 5 = nI 0 := by rw [← hg]; exact zI_wa
  have gT : zI g b = T := by rw [← hg, ← hT]; funext y; exact (zI_wb hb).trans ((zI_wb hb).trans ((zI_wb hb).trans (zI_wb hb)))
  rw [adv_B hN hEN hb _ s rfl hs g gd g1 g4 gT]
  by_cases hl : s < E ∧ cL (T s) = true
  · rw [if_pos hl, S_Rdr_advance_113 (h := zwI (zwI g r 2 (nI 1)) r 4 (nI (rn cL T E s))) (RdSk_w (RdSk_w gd)), show zI (zwI (zwI g r 2 (nI 1)) r 4 (nI (rn cL T E s))) r 2 = nI 1 from (zI_wj (by decide)).trans zI_wa, if_pos (show nI 1 = nI 1 from rfl), if_neg (show ¬ nI 1 = 0 by decide)]
    congr 2
    rw [← hg]
    unfold rdH rdF tkK tkV tkN
    rw [if_pos hl.1, if_pos hl.1, if_pos hl.1, if_pos hl.2, if_pos hl.2, if_pos hl.2]
    simp only [zw_hI, hIhI, zIhI]
    refine hI_ext (fun x y => ?_)
    simp only [zup]
    by_cases hx : x = r
    · by_cases y2 : y = 2
      · subst y2; simp [hx]
      · by_cases y4 : y = 4
        · subst y4; simp [hx]
        · simp [y2, y4]
    · simp [hx]
  · rw [if_neg hl, adv_C hN hEN hb s _ s rfl hs (Nat.le_refl s) g (nI 0) gd g1 g4 g3 (by rw [g5, Nat.sub_self]; rfl) g2 (Or.inl rfl) gT]
    congr 2
    rw [← hg]
    unfold rdH rdF tkK tkV tkN
    by_cases hE : s < E
    · have hl2 : ¬ cL (T s) = true := fun c => hl ⟨hE, c⟩
      rw [if_pos hE, if_pos hE, if_pos hE, if_neg hl2, if_neg hl2, if_neg hl2]
      by_cases hc : cD (T s) = true
      · rw [if_pos ⟨hE, hc⟩, if_pos hc, if_pos hc, if_pos hc]
        simp only [zw_hI, hIhI, zIhI]
        refine hI_ext (fun x y => ?_)
        simp only [zup]
        by_cases hx : x = r
        · by_cases y2 : y = 2
          · subst y2; simp [hx]
          · by_cases y4 : y = 4
            · subst y4; simp [hx]
            · by_cases y5 : y = 5
              · subst y5; simp [hx]
              · simp [y2, y4, y5]
        · simp [hx]
      · rw [if_neg (fun c => hc c.2), if_neg hc, if_neg hc, if_neg hc, if_pos ⟨rfl, hE⟩]
        simp only [zw_hI, hIhI, zIhI]
        refine hI_ext (fun x y => ?_)
        simp only [zup]
        by_cases hx : x = r
        · by_cases y2 : y = 2
          · subst y2; simp [hx]
          · by_cases y4 : y = 4
            · subst y4; simp [hx]
            · by_cases y5 : y = 5
              · subst y5; simp [hx]
              · simp [y2, y4, y5]
        · simp [hx]
    · rw [if_neg (fun c => hE c.1), if_neg (fun c => hE c.2), if_neg hE, if_neg hE, if_neg hE]
      simp only [zw_hI, hIhI, zIhI]
      refine hI_ext (fun x y => ?_)
      simp only [zup]
      by_cases hx : x = r
      · by_cases y2 : y = 2
        · subst y2; simp [hx]
        · by_cases y4 : y = 4
          · subst y4; simp [hx]
          · by_cases y5 : y = 5
            · subst y5; simp [hx]
            · simp [y2, y4, y5]
      · simp [hx]
end
