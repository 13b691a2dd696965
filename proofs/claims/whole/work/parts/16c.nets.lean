/-! WHAT BLANK DEEDS MAY READ -/
section
variable {z : ZE} {d : Nat} {h : Hp} {R p : Nat} {P : Nat → Int32} {np ni nd : Nat}
theorem T_Port_inState (hP : PSk h p) (H : PRp h p P np ni nd) {s : Int32} : ev z d 61 0 [.ref p, .int s, zu, zu] [] h = some (.inl (some (.int (inS P s nd))), h) := by
  have h8 := H.ld
  rw [S_Port_inState_0]
  refine (lp (E := fun k => ev z d 61 4 [.ref p, .int s, .int (inS P s k), .int (nI k)] [] h) nd ?_).trans ?_
  · intro k hk
    rw [S_Port_inState_4 hP, H.cd, if_neg (nI_ge hk (by omega)), ix_n (by omega) (by decide), H.deed hk (by decide)]
    simp only [nI_add, inS]
    split
    · rfl
    · rw [or_n0]
  · rw [S_Port_inState_4 hP, H.cd, if_pos (nI_le (Nat.le_refl _) (by omega))]
theorem and1 (x : Int32) : x &&& nI 1 = nI 0 ∨ x &&& nI 1 = nI 1 := by
  have : (x &&& nI 1).toBitVec = 0#32 ∨ (x &&& nI 1).toBitVec = 1#32 := by
    show x.toBitVec &&& 1#32 = 0#32 ∨ x.toBitVec &&& 1#32 = 1#32
    rw [BitVec.and_one_eq_setWidth_ofBool_getLsbD]
    cases x.toBitVec.getLsbD 0 <;> simp
  rcases this with e | e
  · exact Or.inl (Int32.toBitVec_inj.mp e)
  · exact Or.inr (Int32.toBitVec_inj.mp e)
theorem isB_0 {s k : Int32} : ((s >>> (k &&& 31)) &&& nI 1 = 0) = ¬ (isB s k = true) := by
  rw [← isB_d]
  rcases and1 (s >>> (k &&& 31)) with e | e
  · rw [e]; decide
  · rw [e]; decide
theorem T_Port_isValid (hP : PSk h p) (H : PRp h p P np ni nd) {k : Nat} {r : Int32} (hk : k < nd) : ev z d 65 0 [.ref p, .int (nI k), .int r, zu] [] h = some (.inl (some (.int (bI (vld P k r)))), h) := by
  have h8 := H.ld
  rw [S_Port_isValid_0 hP, ix_n (by omega) (by decide), H.deed hk (by decide), H.deed hk (by decide)]
  simp only [isB_0, isB_d]
  by_cases h1 : isB r (nI k) <;> by_cases h2 : P (45 + 12 * k + 5) = -1 <;> by_cases h3 : isB r (P (45 + 12 * k + 5)) <;> by_cases h4 : P (45 + 12 * k + 6) = -1 <;> by_cases h7 : isB r (P (45 + 12 * k + 6)) <;> simp only [vld, bI, decide_eq_true_eq, Bool.false_eq_true, h1, h2, h3, h4, h7, ite_self, if_true, if_false, not_true, not_false_eq_true, true_and, and_true, and_false, false_and, true_or, or_true, false_or, or_false, and_self, or_self]
theorem T_Deed_isOf {o : Nat} (ho : zK h o = 1) {q : Int32} : ev z d 3 0 [.ref o, .int q] [] h = some (.inl (some (.int (bI (zI h o 1 = q ∨ zI h o 2 = q)))), h) := by
  rw [S_Deed_isOf_0 ho]
  unfold bI
  by_cases h1 : zI h o 1 = q <;> by_cases h2 : zI h o 2 = q <;> simp [h1, h2]
end
/-- deeds are well: their ink, debtor, creditor, what they lean on and are barred by, paid or not -/
def OkD (P : Nat → Int32) (np ni nd : Nat) : Prop := ∀ i, i < nd → (∃ k, k < ni ∧ P (45 + 12 * i + 0) = nI k) ∧ (∃ k, k < np ∧ P (45 + 12 * i + 1) = nI k) ∧ (∃ k, k < np ∧ P (45 + 12 * i + 2) = nI k) ∧ (P (45 + 12 * i + 5) = -1 ∨ ∃ k, k < i ∧ P (45 + 12 * i + 5) = nI k) ∧ (P (45 + 12 * i + 6) = -1 ∨ ∃ k, k < i ∧ P (45 + 12 * i + 6) = nI k) ∧ (P (45 + 12 * i + 11) = nI 0 ∨ P (45 + 12 * i + 11) = nI 1)
/-- what one deed brings a party -/
def netD (P : Nat → Int32) (q r : Int32) (k : Nat) : Int32 := if P (45 + 12 * k + 11) = nI 1 ∨ ¬ vld P k r then nI 0 else if P (45 + 12 * k + 2) = q then P (45 + 12 * k + 3) else if P (45 + 12 * k + 1) = q then -P (45 + 12 * k + 3) else nI 0
def netS (P : Nat → Int32) (q r : Int32) : Nat → Int32
  | 0 => nI 0
  | k + 1 => netS P q r k + netD P q r k
def rdS (P : Nat → Int32) (nd : Nat) (v : Int32) : Int32 := inS P (nI 1) nd ||| (v &&& inS P (nI 0) nd)
section
variable {z : ZE} {d : Nat} {h : Hp} {R p : Nat} {P : Nat → Int32} {np ni nd : Nat}
theorem T_M_netOf (hR : RSk h R) {q v : Int32} {n : Nat} (hD : zI h (R + 1) 5 = nI n) (hn : n ≤ 8) : ev z d 231 0 [.ref R, .int q, .int v, zu, zu, zu] [] h = some (.inl (some (.int (netS (zI h (R + 1)) q (rdS (zI h (R + 1)) n v) n))), h) := by
  simp only [S_M_netOf_0 hR, S_M_netOf_5 hR, T_M_inState hR hD hn, zbd_i, tl_s, S_M_netOf_11 zisL_i]
  generalize hr : rdS (zI h (R + 1)) n v = r
  unfold rdS at hr
  rw [hr]
  refine (lp (E := fun k => ev z d 231 20 [.ref R, .int q, .int v, .int r, .int (netS (zI h (R + 1)) q r k), .int (nI k)] [] h) n ?_).trans ?_
  · intro k hk
    have o := fun c (hc : 45 + 12 * k + c < 781) => T_M_of (z := z) (d := d) hR (k := k) (c := c) hc
    rw [S_M_netOf_20 hR, hD, if_neg (nI_ge hk (by omega))]
    simp only [o 11 (by omega), o 1 (by omega), o 2 (by omega), o 3 (by omega), T_M_isValid hR (show k < 8 by omega), zbd_i, tl_s, S_M_netOf_39 hR, S_M_netOf_50 hR, S_M_netOf_65 hR, S_M_netOf_76, S_M_netOf_86 hR, S_M_netOf_97, bI_0, nI_add, netS, netD]
    by_cases h1 : zI h (R + 1) (45 + 12 * k + 11) = nI 1
    · simp only [h1, if_true, true_or, add_n0]
    · by_cases h2 : vld (zI h (R + 1)) k r
      · by_cases h3 : zI h (R + 1) (45 + 12 * k + 2) = q
        · simp only [h1, h2, h3, if_true, if_false, not_true, or_false, false_or]
        · by_cases h4 : zI h (R + 1) (45 + 12 * k + 1) = q
          · simp only [h1, h2, h3, h4, if_true, if_false, not_true, or_false, false_or]
          · simp only [h1, h2, h3, h4, if_true, if_false, not_true, or_false, false_or]
      · simp only [h1, h2, Bool.false_eq_true, if_true, if_false, not_false_eq_true, or_true, add_n0]
  · rw [S_M_netOf_20 hR, hD, if_pos (nI_le (Nat.le_refl _) (by omega))]
theorem T_Port_netOf (hP : PSk h p) (H : PRp h p P np ni nd) (hO : OkD P np ni nd) {q r : Int32} : ev z d 67 0 [.ref p, .int q, .int r, zu, zu, zu] [] h = some (.inl (some (.int (netS P q r nd))), h) := by
  have h8 := H.ld
  rw [S_Port_netOf_0]
  refine lpw (E := fun k (w : Value) => ev z d 67 5 [.ref p, .int q, .int r, .int (netS P q r k), .int (nI k), w] [] h) nd ?_ ?_ zu
  · intro k w hk
    refine ⟨.ref (p + 20 + k), ?_⟩
    have h9 : k < 8 := by omega
    rw [S_Port_netOf_5 hP, H.cd, if_neg (nI_ge hk (by omega)), ix_n h9 (by decide)]
    have o := fun c (hc : c < 12) => H.deed hk hc
    simp only [T_Deed_isOf (PSk_o4 hP h9), o 1 (by decide), o 2 (by decide), o 11 (by decide), o 3 (by decide), zbd_i, tl_s, S_Port_netOf_29 hP h9, T_Port_isValid hP H hk, S_Port_netOf_47 hP h9, bI_0, nI_add, netS, netD]
    by_cases h2 : vld P k r
    · by_cases h3 : P (45 + 12 * k + 2) = q
      · rcases (hO k hk).2.2.2.2.2 with h1 | h1
        · simp only [h1, h2, h3, n0_0, n0_1, if_true, if_false, not_true, or_false, or_true]
        · simp only [h1, h2, h3, n1_0, if_true, if_false, not_true, or_true, true_or, add_n0]
      · by_cases h4 : P (45 + 12 * k + 1) = q
        · rcases (hO k hk).2.2.2.2.2 with h1 | h1
          · simp only [h1, h2, h3, h4, n0_0, n0_1, if_true, if_false, not_true, or_false, true_or]
          · simp only [h1, h2, h3, h4, n1_0, if_true, if_false, not_true, true_or, add_n0]
        · simp only [h3, h4, if_true, if_false, not_false_eq_true, or_false, add_n0, ite_self]
    · have h0 : (if P (45 + 12 * k + 11) = nI 1 ∨ ¬ vld P k r then nI 0 else if P (45 + 12 * k + 2) = q then P (45 + 12 * k + 3) else if P (45 + 12 * k + 1) = q then -P (45 + 12 * k + 3) else nI 0) = nI 0 := if_pos (Or.inr h2)
      rw [h0, add_n0]
      simp only [h2, Bool.false_eq_true, if_true, not_false_eq_true, ite_self]
  · intro w
    rw [S_Port_netOf_5 hP, H.cd, if_pos (nI_le (Nat.le_refl _) (by omega))]
theorem T_Port_readingOf (hP : PSk h p) (H : PRp h p P np ni nd) {v : Int32} : ev z d 66 0 [.ref p, .int v] [] h = some (.inl (some (.int (rdS P nd v))), h) := by
  simp only [S_Port_readingOf_0 hP, T_Port_inState hP H, zbd_i, tl_s, S_Port_readingOf_5 hP, S_Port_readingOf_11, rdS]
end
