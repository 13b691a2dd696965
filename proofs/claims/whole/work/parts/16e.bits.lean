/-! BITS (begun from the to-paste rows), chains, inks' reckoning -/
def bt (x : Int32) (i : Nat) : Bool := x.toBitVec.getLsbD i
theorem b_ext {x y : Int32} (h : ∀ i, i < 32 → bt x i = bt y i) : x = y := Int32.toBitVec_inj.mp (BitVec.eq_of_getLsbD_eq (fun i hi => h i hi))
theorem b_or (x y : Int32) (i : Nat) : bt (x ||| y) i = (bt x i || bt y i) := by unfold bt; rw [Int32.toBitVec_or, BitVec.getLsbD_or]
theorem b_and (x y : Int32) (i : Nat) : bt (x &&& y) i = (bt x i && bt y i) := by unfold bt; rw [Int32.toBitVec_and, BitVec.getLsbD_and]
theorem b_xor (x y : Int32) (i : Nat) : bt (x ^^^ y) i = (bt x i ^^ bt y i) := by unfold bt; rw [Int32.toBitVec_xor, BitVec.getLsbD_xor]
theorem b_m1 : ∀ i, i < 32 → bt (-1) i = true := by decide +kernel
theorem b_0 (i : Nat) : bt 0 i = false := BitVec.getLsbD_zero
theorem s_l : ∀ n, n < 32 → ((nI n &&& 31).toBitVec.smod 32).toNat = n := by decide +kernel
theorem s_u : ∀ n, n < 32 → (((nI n).toUInt32 &&& Int32.toUInt32 31).toBitVec % 32).toNat = n := by decide +kernel
theorem b_shl (n : Nat) (hn : n < 32) (x : Int32) {i : Nat} (hi : i < 32) : bt (x <<< (nI n &&& 31)) i = (decide (n ≤ i) && bt x (i - n)) := by
  unfold bt
  rw [Int32.toBitVec_shiftLeft]
  show (x.toBitVec <<< ((nI n &&& 31).toBitVec.smod 32).toNat).getLsbD i = _
  rw [s_l n hn, BitVec.getLsbD_shiftLeft]
  rcases Nat.lt_or_ge i n with h | h
  · simp [h, Nat.not_le.mpr h]
  · simp [hi, h, Nat.not_lt.mpr h]
theorem b_sshr (n : Nat) (hn : n < 32) (x : Int32) {i : Nat} (hi : i < 32) : bt (x >>> (nI n &&& 31)) i = if n + i < 32 then bt x (n + i) else bt x 31 := by
  unfold bt
  rw [Int32.toBitVec_shiftRight]
  show (x.toBitVec.sshiftRight ((nI n &&& 31).toBitVec.smod 32).toNat).getLsbD i = _
  rw [s_l n hn, BitVec.getLsbD_sshiftRight, BitVec.msb_eq_getLsbD_last]
  simp [hi]
theorem bt_nI {a i : Nat} (hi : i < 32) : bt (nI a) i = a.testBit i := by
  show (BitVec.ofNat 32 a).getLsbD i = _
  rw [BitVec.getLsbD_ofNat]
  simp [hi]
theorem bt_1 {i : Nat} (hi : i < 32) : bt (nI 1) i = decide (i = 0) := by
  rw [bt_nI hi, show (1 : Nat) = 2 ^ 0 from rfl, Nat.testBit_two_pow]
  simp [eq_comm]
theorem isB_bt {s : Int32} {n : Nat} (hn : n < 32) : isB s (nI n) ↔ bt s n = true := by
  rw [← isB_d]
  have h0 : bt (s >>> (nI n &&& 31)) 0 = bt s n := by rw [b_sshr n hn s (by decide), Nat.add_zero, if_pos hn]
  constructor
  · intro e
    have := congrArg (fun x => bt x 0) e
    simp only [b_and, h0] at this
    rw [show bt (nI 1) 0 = true from rfl, Bool.and_true] at this
    exact this
  · intro e
    refine b_ext (fun i hi => ?_)
    rw [b_and, bt_1 hi]
    by_cases h : i = 0
    · subst h; rw [h0, e]; rfl
    · simp [h]
theorem isB_nI {a n : Nat} (hn : n < 32) : isB (nI a) (nI n) ↔ a.testBit n = true := by rw [isB_bt hn, bt_nI hn]
def jarS (P : Nat → Int32) (v : Int32) : Nat → Int32
  | 0 => nI 0
  | k + 1 => jarS P v k ||| (if P (45 + 12 * k + 0) = v then nI 1 <<< (nI k &&& 31) else nI 0)
def padS (P : Nat → Int32) : Nat → Int32
  | 0 => nI 0
  | k + 1 => padS P k ||| (P (45 + 12 * k + 11) <<< (nI k &&& 31))
def brkS (P : Nat → Int32) : Nat → Int32
  | 0 => nI 0
  | k + 1 => brkS P k ||| (P (15 + 2 * k + 1) <<< (nI k &&& 31))
def OkP (P : Nat → Int32) (np : Nat) : Prop := ∀ i, i < np → (P (15 + 2 * i + 1) = nI 0 ∨ P (15 + 2 * i + 1) = nI 1) ∧ ∃ c, c ≤ 9999 ∧ P (15 + 2 * i + 0) = nI c
theorem n0_shl (k : Int32) : nI 0 <<< (k &&& 31) = nI 0 := Int32.zero_shiftLeft
section
variable {z : ZE} {d : Nat} {h : Hp} {R p : Nat} {P : Nat → Int32} {np ni nd : Nat}
theorem T_M_jarOf (hR : RSk h R) {v : Int32} {n : Nat} (hD : zI h (R + 1) 5 = nI n) (hn : n ≤ 8) : ev z d 236 0 [.ref R, .int v, zu, zu] [] h = some (.inl (some (.int (jarS (zI h (R + 1)) v n))), h) := by
  rw [S_M_jarOf_0]
  refine (lp (E := fun k => ev z d 236 4 [.ref R, .int v, .int (jarS (zI h (R + 1)) v k), .int (nI k)] [] h) n ?_).trans ?_
  · intro k hk
    rw [S_M_jarOf_4 hR, hD, if_neg (nI_ge hk (by omega)), T_M_of hR (by omega)]
    simp only [zbd_i, tl_s, S_M_jarOf_21, nI_add, jarS]
    split <;> rfl
  · rw [S_M_jarOf_4 hR, hD, if_pos (nI_le (Nat.le_refl n) (by omega))]
theorem T_Port_deedsOfInk (hP : PSk h p) (H : PRp h p P np ni nd) {s : Int32} : ev z d 63 0 [.ref p, .int s, zu, zu] [] h = some (.inl (some (.int (jarS P s nd))), h) := by
  have h8 := H.ld
  rw [S_Port_deedsOfInk_0]
  refine (lp (E := fun k => ev z d 63 4 [.ref p, .int s, .int (jarS P s k), .int (nI k)] [] h) nd ?_).trans ?_
  · intro k hk
    rw [S_Port_deedsOfInk_4 hP, H.cd, if_neg (nI_ge hk (by omega)), ix_n (by omega) (by decide), H.deed hk (by decide)]
    simp only [nI_add, jarS]
    split
    · rfl
    · rw [or_n0]
  · rw [S_Port_deedsOfInk_4 hP, H.cd, if_pos (nI_le (Nat.le_refl _) (by omega))]
theorem T_M_paidOnes (hR : RSk h R) {n : Nat} (hD : zI h (R + 1) 5 = nI n) (hn : n ≤ 8) : ev z d 293 0 [.ref R, zu, zu] [] h = some (.inl (some (.int (padS (zI h (R + 1)) n))), h) := by
  rw [S_M_paidOnes_0]
  refine (lp (E := fun k => ev z d 293 4 [.ref R, .int (padS (zI h (R + 1)) k), .int (nI k)] [] h) n ?_).trans ?_
  · intro k hk
    rw [S_M_paidOnes_4 hR, hD, if_neg (nI_ge hk (by omega)), T_M_of hR (by omega)]
    simp only [zbd_i, tl_s, S_M_paidOnes_22, nI_add, padS]
  · rw [S_M_paidOnes_4 hR, hD, if_pos (nI_le (Nat.le_refl n) (by omega))]
theorem T_Port_paidDeeds (hP : PSk h p) (H : PRp h p P np ni nd) (hO : OkD P np ni nd) : ev z d 62 0 [.ref p, zu, zu] [] h = some (.inl (some (.int (padS P nd))), h) := by
  have h8 := H.ld
  rw [S_Port_paidDeeds_0]
  refine (lp (E := fun k => ev z d 62 4 [.ref p, .int (padS P k), .int (nI k)] [] h) nd ?_).trans ?_
  · intro k hk
    rw [S_Port_paidDeeds_4 hP, H.cd, if_neg (nI_ge hk (by omega)), ix_n (by omega) (by decide), H.deed hk (by decide)]
    simp only [nI_add, padS]
    rcases (hO k hk).2.2.2.2.2 with e | e
    · rw [e, if_pos (by decide), n0_shl, or_n0]
    · rw [e, if_neg (by decide)]
  · rw [S_Port_paidDeeds_4 hP, H.cd, if_pos (nI_le (Nat.le_refl _) (by omega))]
theorem T_M_brokenOnes (hR : RSk h R) {n : Nat} (hD : zI h (R + 1) 3 = nI n) (hn : n ≤ 6) : ev z d 255 0 [.ref R, zu, zu] [] h = some (.inl (some (.int (brkS (zI h (R + 1)) n))), h) := by
  rw [S_M_brokenOnes_0]
  refine (lp (E := fun k => ev z d 255 4 [.ref R, .int (brkS (zI h (R + 1)) k), .int (nI k)] [] h) n ?_).trans ?_
  · intro k hk
    rw [S_M_brokenOnes_4 hR, hD, if_neg (nI_ge hk (by omega)), pk_mul, nI_add, nI_add, ix_n (by omega) (by decide), nI_add]
    rfl
  · rw [S_M_brokenOnes_4 hR, hD, if_pos (nI_le (Nat.le_refl n) (by omega))]
theorem T_Port_brokeParties (hP : PSk h p) (H : PRp h p P np ni nd) (hO : OkP P np) : ev z d 76 0 [.ref p, zu, zu] [] h = some (.inl (some (.int (brkS P np))), h) := by
  have h8 := H.lp
  rw [S_Port_brokeParties_0]
  refine (lp (E := fun k => ev z d 76 4 [.ref p, .int (brkS P k), .int (nI k)] [] h) np ?_).trans ?_
  · intro k hk
    rw [S_Port_brokeParties_4 hP, H.cp, if_neg (nI_ge hk (by omega)), ix_n (by omega) (by decide), H.party hk (by decide)]
    simp only [nI_add, brkS]
    rcases (hO k hk).1 with e | e
    · rw [e, if_pos (by decide), n0_shl, or_n0]
    · rw [e, if_neg (by decide)]
  · rw [S_Port_brokeParties_4 hP, H.cp, if_pos (nI_le (Nat.le_refl _) (by omega))]
end
/-- a chain of leaning, as a number of bits -/
def chn (P : Nat → Int32) : Nat → Nat → Nat
  | 0, _ => 0
  | f + 1, k => 2 ^ k ||| (if P (45 + 12 * k + 5) = -1 then 0 else chn P f (P (45 + 12 * k + 5)).toNatClampNeg)
theorem chn_ok {P : Nat → Int32} {np ni nd : Nat} (hO : OkD P np ni nd) (hn : nd ≤ 8) : ∀ f k, k < f → k < nd → chn P f k = chn P (k + 1) k
  | 0, k, h, _ => by omega
  | f + 1, k, h, hk => by
    unfold chn
    rcases (hO k hk).2.2.2.1 with e | ⟨j, hj, e⟩
    · rw [if_pos e, if_pos e]
    · rw [e, if_neg (nI_ne1 (by omega)), if_neg (nI_ne1 (by omega)), nI_clamp (by omega)]
      congr 1
      by_cases hf : f = k
      · rw [hf]
      · rw [chn_ok hO hn f j (by omega) (by omega)]
        by_cases hk2 : k = j + 1
        · rw [hk2]
        · rw [chn_ok hO hn k j (by omega) (by omega)]
  termination_by f k => f + k
theorem chn_lt {P : Nat → Int32} {np ni nd : Nat} (hO : OkD P np ni nd) (hn : nd ≤ 8) : ∀ k, k < nd → chn P (k + 1) k < 2 ^ (k + 1) := by
  intro k
  induction k using Nat.strongRecOn with
  | ind k ih =>
    intro hk
    unfold chn
    refine Nat.or_lt_two_pow (Nat.pow_lt_pow_right (by decide) (by omega)) ?_
    rcases (hO k hk).2.2.2.1 with e | ⟨j, hj, e⟩
    · rw [if_pos e]; exact Nat.two_pow_pos _
    · rw [e, if_neg (nI_ne1 (by omega)), nI_clamp (by omega), chn_ok hO hn k j hj (by omega)]
      exact Nat.lt_of_lt_of_le (ih j hj (by omega)) (Nat.pow_le_pow_right (by decide) (by omega))
theorem chn_e {P : Nat → Int32} {np ni nd k : Nat} (hO : OkD P np ni nd) (hn : nd ≤ 8) (hk : k < nd) : (P (45 + 12 * k + 5) = -1 ∧ chn P (k + 1) k = 2 ^ k) ∨ ∃ j, j < k ∧ P (45 + 12 * k + 5) = nI j ∧ chn P (k + 1) k = 2 ^ k ||| chn P (j + 1) j := by
  rcases (hO k hk).2.2.2.1 with e | ⟨j, hj, e⟩
  · refine Or.inl ⟨e, ?_⟩
    unfold chn
    rw [if_pos e, Nat.or_zero]
  · refine Or.inr ⟨j, hj, e, ?_⟩
    conv => lhs; unfold chn
    rw [e, if_neg (nI_ne1 (by omega)), nI_clamp (by omega), chn_ok hO hn k j hj (by omega)]
theorem chn_self {P : Nat → Int32} {f k : Nat} : (chn P (f + 1) k).testBit k = true := by
  unfold chn
  rw [Nat.testBit_or, Nat.testBit_two_pow]
  simp
theorem or_bit {a k : Nat} (h : a.testBit k = true) : a ||| 2 ^ k = a := by
  refine Nat.eq_of_testBit_eq (fun i => ?_)
  rw [Nat.testBit_or, Nat.testBit_two_pow]
  by_cases e : k = i
  · subst e; simp [h]
  · simp [e]
section
variable {z : ZE} {d : Nat} {h : Hp} {R p : Nat} {P : Nat → Int32} {np ni nd : Nat}
theorem T_M_chain_l (hR : RSk h R) (hn : nd ≤ 8) (hO : OkD (zI h (R + 1)) np ni nd) {w : Value} (hw : zisL w = false) : ∀ k, k < nd → ∀ a : Nat, ev z d 258 4 [.ref R, w, .int (nI a), .int (nI k)] [] h = some (.inl (some (.int (nI (a ||| chn (zI h (R + 1)) (k + 1) k)))), h) := by
  intro k
  induction k using Nat.strongRecOn with
  | ind k ih =>
    intro hk a
    rw [S_M_chainOf_4 hR hw, if_neg (nI_ne1 (by omega)), T_M_of hR (by omega)]
    simp only [zbd_i, tl_s, S_M_chainOf_21]
    rw [nI_shl k (by omega), nI_or]
    rcases chn_e hO hn hk with ⟨e, c⟩ | ⟨j, hj, e, c⟩
    · rw [e, S_M_chainOf_4 hR hw, if_pos rfl, c]
    · rw [e, ih j hj (by omega), c, Nat.or_assoc]
theorem T_M_chainOf (hR : RSk h R) (hn : nd ≤ 8) (hO : OkD (zI h (R + 1)) np ni nd) {k : Nat} (hk : k < nd) : ev z d 258 0 [.ref R, .int (nI k), zu, zu] [] h = some (.inl (some (.int (nI (chn (zI h (R + 1)) (k + 1) k)))), h) := by
  rw [S_M_chainOf_0, T_M_chain_l hR hn hO zisL_i k hk, Nat.zero_or]
theorem T_Port_chain_0 (hP : PSk h p) {w : Value} (hw : zisL w = false) {a : Nat} : ∀ i, i ≤ 8 → (∀ j, j < i → a.testBit j = false) → ev z d 64 6 [.ref p, w, .int (nI a), .int (nI i + (-1))] [] h = some (.inl (some (.int (nI a))), h)
  | 0, _, _ => by rw [S_Port_chainOf_6 hP hw, if_pos (by decide)]
  | i + 1, hi, hb => by
    rw [pk_m1, S_Port_chainOf_6 hP hw, if_neg (nI_pos (by omega)), if_neg (isB_n (by rw [isB_nI (by omega), hb i (by omega)]; decide))]
    exact T_Port_chain_0 hP hw i (by omega) (fun j hj => hb j (by omega))
theorem T_Port_chain_l (hP : PSk h p) (H : PRp h p P np ni nd) (hO : OkD P np ni nd) {w : Value} (hw : zisL w = false) : ∀ i, i < nd → ∀ k, k ≤ i → ∀ a : Nat, a.testBit k = true → (∀ j, j ≤ i → j ≠ k → a.testBit j = false) → ev z d 64 6 [.ref p, w, .int (nI a), .int (nI i)] [] h = some (.inl (some (.int (nI (a ||| chn P (k + 1) k)))), h) := by
  have hn := H.ld
  intro i
  induction i with
  | zero =>
    intro hi k hk a ha hb
    obtain rfl : k = 0 := by omega
    rw [S_Port_chainOf_6 hP hw, if_neg (by decide), if_pos (isB_r ((isB_nI (by decide)).mpr ha)), ix_n (by decide) (by decide), H.deed hi (by decide)]
    rcases chn_e hO hn hi with ⟨e, c⟩ | ⟨j, hj, e, c⟩
    · rw [if_pos e, T_Port_chain_0 hP hw 0 (by decide) (fun j hj => by omega), c, or_bit ha]
    · omega
  | succ i ih =>
    intro hi k hk a ha hb
    rw [S_Port_chainOf_6 hP hw, if_neg (nI_pos (by omega))]
    by_cases hki : k = i + 1
    · subst hki
      rw [if_pos (isB_r ((isB_nI (by omega)).mpr ha)), ix_n (by omega) (by decide), ix_n (by omega) (by decide), H.deed hi (by decide)]
      rcases chn_e hO hn hi with ⟨e, c⟩ | ⟨j, hj, e, c⟩
      · rw [if_pos e, T_Port_chain_0 hP hw (i + 1) (by omega) (fun j hj => hb j (by omega) (by omega)), c, or_bit ha]
      · rw [e, if_neg (nI_ne1 (by omega)), nI_shl j (by omega), nI_or, pk_m1, ih (by omega) j (by omega) _ ?_ ?_, c, ← Nat.or_assoc, or_bit ha, Nat.or_assoc]
        · congr 6
          rw [Nat.or_comm (2 ^ j), or_bit chn_self]
        · rw [Nat.testBit_or, Nat.testBit_two_pow]; simp
        · intro j' h1 h2
          rw [Nat.testBit_or, Nat.testBit_two_pow, hb j' (by omega) (by omega)]
          simp [Ne.symm h2]
    · rw [if_neg (isB_n (by rw [isB_nI (by omega), hb (i + 1) (by omega) (by omega)]; decide)), pk_m1]
      exact ih (by omega) k (by omega) a ha (fun j hj hne => hb j (by omega) hne)
theorem T_Port_chainOf (hP : PSk h p) (H : PRp h p P np ni nd) (hO : OkD P np ni nd) {k : Nat} (hk : k < nd) : ev z d 64 0 [.ref p, .int (nI k), zu, zu] [] h = some (.inl (some (.int (nI (chn P (k + 1) k)))), h) := by
  have hn := H.ld
  rw [S_Port_chainOf_0, nI_shl k (by omega), T_Port_chain_l hP H hO zisL_i k hk k (Nat.le_refl k) _ ?_ ?_]
  · rw [Nat.or_comm, or_bit chn_self]
  · rw [Nat.testBit_two_pow]; simp
  · intro j _ h2
    rw [Nat.testBit_two_pow]
    simp [Ne.symm h2]
end
