/-! READS, BLANK, VALID, CHAIN, HANGS, NET, BROKEN, DAMP, LOG, LED in both -/
def vaS (P : Row) (r : Int32) : Nat → Int32
  | 0 => nI 0
  | k + 1 => vaS P r k ||| (if vld P k r = true then nI 1 <<< (nI k &&& 31) else nI 0)
def haS (P : Row) (d : Nat) : Nat → Int32
  | 0 => nI 0
  | k + 1 => haS P d k ||| (if k ≠ d ∧ (chn P (k + 1) k).testBit d = true then nI 1 <<< (nI k &&& 31) else nI 0)
section
variable {z : ZE} {d : Nat} {h h' : Hp} {X R : Nat} {S S1 : PSt} {K : Option Img} {A : List PSt} {tl : Nat} {T : Row} {ft : Int32} {ls : List LN} {Lo : Option Nat} {v w : Int32}
theorem C_reads (H : CI z h X S ls Lo K A tl T ft) : CA z d h X Lo 116 [.ref X] [] 0 (inS S.1 (nI 1) S.2.2.2) ((S, ls, Lo), K, A, tl, T, ft) := by
  refine CA.rf H ?_
  rw [S_LI_reads_0 H.1.1, T_Port_inState H.sk H.rp]
  simp only [zbd_i, tl_s, S_LI_reads_8]
theorem R_reads (H : RI h R S K A tl T ft) (ok : Ok S) : RB z d h R 248 [.ref R] 0 (inS S.1 (nI 1) S.2.2.2) ((S, ls, Lo), K, A, tl, T, ft) := by
  refine RB.g H ?_
  have G := H.w0 (v := nI 0)
  rw [S_M_reads_0 H.1.1, T_M_inState G.1.1 (by rw [G.i]; exact ok.1.2.2.1) ok.1.2.2.2.2.2, G.i]
  simp only [zbd_i, tl_s, S_M_reads_10]
theorem C_blank (H : CI z h X S ls Lo K A tl T ft) : CA z d h X Lo 117 [.ref X] [] 0 (inS S.1 (nI 0) S.2.2.2) ((S, ls, Lo), K, A, tl, T, ft) := by
  refine CA.rf H ?_
  rw [S_LI_blank_0 H.1.1, T_Port_inState H.sk H.rp]
  simp only [zbd_i, tl_s, S_LI_blank_8]
theorem R_blank (H : RI h R S K A tl T ft) (ok : Ok S) : RB z d h R 249 [.ref R] 0 (inS S.1 (nI 0) S.2.2.2) ((S, ls, Lo), K, A, tl, T, ft) := by
  refine RB.g H ?_
  have G := H.w0 (v := nI 0)
  rw [S_M_blank_0 H.1.1, T_M_inState G.1.1 (by rw [G.i]; exact ok.1.2.2.1) ok.1.2.2.2.2.2, G.i]
  simp only [zbd_i, tl_s, S_M_blank_10]
theorem C_valid (H : CI z h X S ls Lo K A tl T ft) : CA z d h X Lo 118 [.ref X, zu, zu, zu] [] 0 (vaS S.1 (inS S.1 (nI 1) S.2.2.2) S.2.2.2) ((S, ls, Lo), K, A, tl, T, ft) := by
  refine CA.rf H ?_
  have h8 := H.rp.ld
  rw [S_LI_valid_0 H.1.1, T_Port_inState H.sk H.rp]
  simp only [zbd_i, tl_s, S_LI_valid_8]
  generalize inS S.1 (nI 1) S.2.2.2 = r
  refine (lp (E := fun k => ev z d 118 13 [.ref X, .int r, .int (vaS S.1 r k), .int (nI k)] [] h) S.2.2.2 ?_).trans ?_
  · intro k hk
    rw [S_LI_valid_13 H.1.1, H.rp.cd, if_neg (nI_ge hk (by omega)), T_Port_isValid H.sk H.rp hk]
    simp only [zbd_i, tl_s, S_LI_valid_33, bI_0, nI_add, vaS]
    by_cases c : vld S.1 k r = true
    · rw [if_neg (fun q => q c), if_pos c]
    · rw [if_pos c, if_neg c, or_n0]
  · rw [S_LI_valid_13 H.1.1, H.rp.cd, if_pos (nI_le (Nat.le_refl _) (by omega))]
theorem R_valid (H : RI h R S K A tl T ft) (ok : Ok S) : RB z d h R 250 [.ref R, zu, zu] 0 (vaS S.1 (inS S.1 (nI 1) S.2.2.2) S.2.2.2) ((S, ls, Lo), K, A, tl, T, ft) := by
  refine RB.g H ?_
  have G := H.w0 (v := nI 0)
  have h5 : zI (zwI h R 0 (nI 0)) (R + 1) 5 = nI S.2.2.2 := by rw [G.i]; exact ok.1.2.2.1
  have h8 := ok.1.2.2.2.2.2
  rw [S_M_valid_0 H.1.1]
  generalize zwI h R 0 (nI 0) = g at *
  refine (lp (E := fun k => ev z d 250 9 [.ref R, .int (vaS S.1 (inS S.1 (nI 1) S.2.2.2) k), .int (nI k)] [] g) S.2.2.2 ?_).trans ?_
  · intro k hk
    rw [S_M_valid_9 G.1.1, h5, if_neg (nI_ge hk (by omega)), T_M_isValidNow G.1.1 (by omega) h5 h8, G.i]
    simp only [zbd_i, tl_s, S_M_valid_25, bI_0, nI_add, vaS]
    by_cases c : vld S.1 k (inS S.1 (nI 1) S.2.2.2) = true
    · rw [if_neg (fun q => q c), if_pos c]
    · rw [if_pos c, if_neg c]
  · rw [S_M_valid_9 G.1.1, h5, if_pos (nI_le (Nat.le_refl _) (by omega))]
theorem C_broken (H : CI z h X S ls Lo K A tl T ft) (ok : Ok S) : CA z d h X Lo 143 [.ref X] [] 0 (brkS S.1 S.2.1) ((S, ls, Lo), K, A, tl, T, ft) := by
  refine CA.rf H ?_
  rw [S_LI_broken_0 H.1.1, T_Port_brokeParties H.sk H.rp ok.2.2.2.1]
  simp only [zbd_i, tl_s, S_LI_broken_7]
theorem R_broken (H : RI h R S K A tl T ft) (ok : Ok S) : RB z d h R 291 [.ref R] 0 (brkS S.1 S.2.1) ((S, ls, Lo), K, A, tl, T, ft) := by
  refine RB.g H ?_
  have G := H.w0 (v := nI 0)
  rw [S_M_broken_0 H.1.1, T_M_brokenOnes G.1.1 (by rw [G.i]; exact ok.1.1) ok.1.2.2.2.1, G.i]
  simp only [zbd_i, tl_s, S_M_broken_9]
theorem C_chain (t : Tp h) (H : CI z h X S ls Lo K A tl T ft) (ok : Ok S) : CA z d h X Lo 123 [.ref X, .int v] [2] (if inR v S.2.2.2 then 0 else 1) (nI (chn S.1 (cN v + 1) (cN v))) ((S, ls, Lo), K, A, tl, T, ft) := by
  by_cases c : inR v S.2.2.2
  · rw [if_pos c]
    refine CA.rf H ?_
    obtain ⟨j, hj, rfl⟩ := (inR_iff (by have := ok.1; omega)).mp c
    rw [S_LI_chain_0 H.1.1, C_needDeed H, if_pos c]
    simp only [zbd_i, tl_n]
    rw [S_LI_chain_5 H.1.1, T_Port_chainOf H.sk H.rp ok.2.1 hj, cN_nI (by have := ok.1; omega)]
    simp only [zbd_i, tl_s, S_LI_chain_13]
  · rw [if_neg c]
    refine CA.x t H rfl ?_
    rw [S_LI_chain_0 H.1.1, C_needDeed H, if_neg c]
    simp only [zbd_e]
    exact evx_nil rfl
theorem R_chain (H : RI h R S K A tl T ft) (ok : Ok S) : RB z d h R 259 [.ref R, .int v] (if inR v S.2.2.2 then 0 else 1) (nI (chn S.1 (cN v + 1) (cN v))) ((S, ls, Lo), K, A, tl, T, ft) := by
  by_cases c : inR v S.2.2.2
  · rw [if_pos c]
    refine RB.g H ?_
    have G := H.w0 (v := nI 0)
    obtain ⟨j, hj, rfl⟩ := (inR_iff (by have := ok.1; omega)).mp c
    rw [S_M_chain_0 H.1.1, R_isDeed H ok]
    simp only [zbd_i, tl_s]
    rw [S_M_chain_6 H.1.1, chk, if_pos c, T_M_chainOf (np := S.2.1) (ni := S.2.2.1) (nd := S.2.2.2) G.1.1 ok.1.2.2.2.2.2 (by rw [G.i]; exact ok.2.1) hj, G.i, cN_nI (by have := ok.1; omega)]
    simp only [zbd_i, tl_s, S_M_chain_33]
  · rw [if_neg c]
    refine RB.t H (by decide) (w := nI 0) ?_
    rw [S_M_chain_0 H.1.1, R_isDeed H ok]
    simp only [zbd_i, tl_s]
    rw [S_M_chain_6 H.1.1, chk, if_neg c]
theorem haS_0 {P : Row} {np ni nd k : Nat} (hO : OkD P np ni nd) (hn : nd ≤ 8) (hk : k < nd) : ∀ j, j ≤ k + 1 → haS P k j = nI 0
  | 0, _ => rfl
  | j + 1, hj => by
    have ih := haS_0 hO hn hk j (by omega)
    unfold haS
    rw [ih, if_neg, or_n0]
    rintro ⟨h1, h2⟩
    have l1 := chn_lt hO hn j (by omega)
    have l2 : 2 ^ (j + 1) ≤ 2 ^ k := Nat.pow_le_pow_right (by decide) (by omega)
    rw [Nat.testBit_lt_two_pow (by omega)] at h2
    cases h2
theorem C_hangs (t : Tp h) (H : CI z h X S ls Lo K A tl T ft) (ok : Ok S) : CA z d h X Lo 124 [.ref X, .int v, zu, zu] [2] (if inR v S.2.2.2 then 0 else 1) (haS S.1 (cN v) S.2.2.2) ((S, ls, Lo), K, A, tl, T, ft) := by
  have h8 := ok.1.2.2.2.2.2
  by_cases c : inR v S.2.2.2
  · rw [if_pos c]
    refine CA.rf H ?_
    obtain ⟨j, hj, rfl⟩ := (inR_iff (by omega)).mp c
    rw [S_LI_hangs_0 H.1.1, C_needDeed H, if_pos c, cN_nI (by omega)]
    simp only [zbd_i, tl_n, S_LI_hangs_5]
    rw [nI_add, ← haS_0 ok.2.1 h8 hj (j + 1) (Nat.le_refl _)]
    obtain ⟨n, hn⟩ : ∃ n, j + 1 + n = S.2.2.2 := ⟨S.2.2.2 - (j + 1), by omega⟩
    refine (lp (E := fun k => ev z d 124 11 [.ref X, .int (nI j), .int (haS S.1 j (j + 1 + k)), .int (nI (j + 1 + k))] [] h) n ?_).trans ?_
    · intro k hk
      rw [S_LI_hangs_11 H.1.1, H.rp.cd, if_neg (nI_ge (by omega) (by omega)), T_Port_chainOf H.sk H.rp ok.2.1 (by omega)]
      simp only [zbd_i, tl_s, S_LI_hangs_30, nI_add, isB_d, isB_nI (show j < 32 by omega)]
      rw [show j + 1 + (k + 1) = j + 1 + k + 1 by omega]
      conv => rhs; unfold haS
      by_cases c2 : (chn S.1 (j + 1 + k + 1) (j + 1 + k)).testBit j = true
      · rw [if_pos c2, if_pos ⟨by omega, c2⟩]
      · rw [if_neg c2, if_neg (fun q => c2 q.2), or_n0]
    · rw [S_LI_hangs_11 H.1.1, H.rp.cd, hn, if_pos (nI_le (Nat.le_refl _) (by omega))]
  · rw [if_neg c]
    refine CA.x t H rfl ?_
    rw [S_LI_hangs_0 H.1.1, C_needDeed H, if_neg c]
    simp only [zbd_e]
    exact evx_nil rfl
theorem R_hangs (H : RI h R S K A tl T ft) (ok : Ok S) : RB z d h R 260 [.ref R, .int v, zu, zu] (if inR v S.2.2.2 then 0 else 1) (haS S.1 (cN v) S.2.2.2) ((S, ls, Lo), K, A, tl, T, ft) := by
  have h8 := ok.1.2.2.2.2.2
  by_cases c : inR v S.2.2.2
  · rw [if_pos c]
    refine RB.g H ?_
    have G := H.w0 (v := nI 0)
    have h5 : zI (zwI h R 0 (nI 0)) (R + 1) 5 = nI S.2.2.2 := by rw [G.i]; exact ok.1.2.2.1
    obtain ⟨j, hj, rfl⟩ := (inR_iff (by omega)).mp c
    rw [S_M_hangs_0 H.1.1, R_isDeed H ok]
    simp only [zbd_i, tl_s]
    rw [S_M_hangs_6 H.1.1, chk, if_pos c, cN_nI (by omega)]
    generalize zwI h R 0 (nI 0) = g at *
    refine (lp (E := fun k => ev z d 260 30 [.ref R, .int (nI j), .int (haS S.1 j k), .int (nI k)] [] g) S.2.2.2 ?_).trans ?_
    · intro k hk
      rw [S_M_hangs_30 G.1.1, h5, if_neg (nI_ge hk (by omega))]
      simp only [nI_add, nI_eq (show k < 2 ^ 31 by omega) (show j < 2 ^ 31 by omega)]
      conv => rhs; unfold haS
      by_cases c1 : k = j
      · rw [if_pos c1, if_neg (fun q => q.1 c1)]
      · rw [if_neg c1, T_M_chainOf (np := S.2.1) (ni := S.2.2.1) (nd := S.2.2.2) G.1.1 h8 (by rw [G.i]; exact ok.2.1) hk, G.i]
        simp only [zbd_i, tl_s, S_M_hangs_51, T_M_isOf, S_M_hangs_55, bI_0, nI_add, isB_nI (show j < 32 by omega)]
        by_cases c2 : (chn S.1 (k + 1) k).testBit j = true
        · rw [if_neg (fun q => q c2), if_pos ⟨c1, c2⟩]
        · rw [if_pos c2, if_neg (fun q => c2 q.2)]
    · rw [S_M_hangs_30 G.1.1, h5, if_pos (nI_le (Nat.le_refl _) (by omega))]
  · rw [if_neg c]
    refine RB.t H (by decide) (w := nI 0) ?_
    rw [S_M_hangs_0 H.1.1, R_isDeed H ok]
    simp only [zbd_i, tl_s]
    rw [S_M_hangs_6 H.1.1, chk, if_neg c]
theorem C_net (t : Tp h) (H : CI z h X S ls Lo K A tl T ft) (ok : Ok S) : CA z d h X Lo 126 [.ref X, .int v, .int w] [2] (if inR v S.2.1 then 0 else 1) (netS S.1 v (rdS S.1 S.2.2.2 w) S.2.2.2) ((S, ls, Lo), K, A, tl, T, ft) := by
  by_cases c : inR v S.2.1
  · rw [if_pos c]
    refine CA.rf H ?_
    rw [S_LI_net_0 H.1.1, C_needParty H, if_pos c]
    simp only [zbd_i, tl_n]
    rw [S_LI_net_5 H.1.1, T_Port_readingOf H.sk H.rp]
    simp only [zbd_i, tl_s]
    rw [S_LI_net_18 H.1.1, T_Port_netOf H.sk H.rp ok.2.1]
    simp only [zbd_i, tl_s, S_LI_net_21]
  · rw [if_neg c]
    refine CA.x t H rfl ?_
    rw [S_LI_net_0 H.1.1, C_needParty H, if_neg c]
    simp only [zbd_e]
    exact evx_nil rfl
theorem R_net (H : RI h R S K A tl T ft) (ok : Ok S) : RB z d h R 262 [.ref R, .int v, .int w] (if inR v S.2.1 then 0 else 1) (netS S.1 v (rdS S.1 S.2.2.2 w) S.2.2.2) ((S, ls, Lo), K, A, tl, T, ft) := by
  by_cases c : inR v S.2.1
  · rw [if_pos c]
    refine RB.g H ?_
    have G := H.w0 (v := nI 0)
    rw [S_M_net_0 H.1.1, R_isParty H ok]
    simp only [zbd_i, tl_s]
    rw [S_M_net_6 H.1.1, chk, if_pos c, T_M_netOf G.1.1 (by rw [G.i]; exact ok.1.2.2.1) ok.1.2.2.2.2.2, G.i]
    simp only [zbd_i, tl_s, S_M_net_34]
  · rw [if_neg c]
    refine RB.t H (by decide) (w := nI 0) ?_
    rw [S_M_net_0 H.1.1, R_isParty H ok]
    simp only [zbd_i, tl_s]
    rw [S_M_net_6 H.1.1, chk, if_neg c]
theorem C_damp (t : Tp h) (H : CI z h X S ls Lo K A tl T ft) : CA z d h X Lo 149 [.ref X, .int v] [2] (if inR v 4 then 0 else 1) (S.1 (11 + cN v)) ((S, ls, Lo), K, A, tl, T, ft) := by
  by_cases c : inR v 4
  · rw [if_pos c]
    refine CA.rf H ?_
    obtain ⟨j, hj, rfl⟩ := (inR_iff (by decide)).mp c
    rw [S_LI_damp_0 H.1.1, inR_d, if_pos c, ix_n hj (by decide), H.rp.damp hj, cN_nI (by omega)]
  · rw [if_neg c]
    refine CA.x t H rfl ?_
    rw [S_LI_damp_0 H.1.1, inR_d, if_neg c]
    rfl
theorem isin_n {n : Nat} (hn : n + 1 < 2 ^ 31) : isin v (nI 0) (nI n) ↔ inR v (n + 1) := by
  have := isin_R (v := v) hn
  rw [pk_sub (by omega), Nat.add_sub_cancel] at this
  exact this
theorem R_damp (H : RI h R S K A tl T ft) : RB z d h R 299 [.ref R, .int v] (if inR v 4 then 0 else 1) (S.1 (11 + cN v)) ((S, ls, Lo), K, A, tl, T, ft) := by
  have e : bI (isin v (nI 0) (nI 3)) = bI (inR v 4) := bI_cg (isin_n (by decide))
  by_cases c : inR v 4
  · rw [if_pos c]
    refine RB.g H ?_
    obtain ⟨j, hj, rfl⟩ := (inR_iff (by decide)).mp c
    have G := H.w0 (v := nI 0)
    rw [S_M_damp_0, T_M_isIn, e]
    simp only [zbd_i, tl_s]
    rw [S_M_damp_7 H.1.1, chk, if_pos c, nI_add, ix_n (by omega) (by decide), G.i, cN_nI (by omega)]
  · rw [if_neg c]
    refine RB.t H (by decide) (w := nI 0) ?_
    rw [S_M_damp_0, T_M_isIn, e]
    simp only [zbd_i, tl_s]
    rw [S_M_damp_7 H.1.1, chk, if_neg c]
end
