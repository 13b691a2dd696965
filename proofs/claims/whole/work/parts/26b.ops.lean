/-! FORGED, SOONEST, APART in both -/
def soP (P : Row) : Nat → Int32 × Int32
  | 0 => (-1, nI 81)
  | i + 1 => if nI (upS P i (cN (P 6))) - P 6 < (soP P i).2 then (nI i, nI (upS P i (cN (P 6))) - P 6) else soP P i
def soV (P : Row) (ni : Nat) (v : Int32) : Int32 := if (soP P ni).1 = -1 then (soP P ni).1 else if v = 0 then (soP P ni).1 else (soP P ni).2
def frK (P : Row) (nd : Nat) (v : Int32) : Nat := if inR v nd then (if P (45 + 12 * cN v + 9) = -1 then 2 else 0) else 1
def frV (P : Row) (v : Int32) : Int32 := bI (¬ nI (upS P (cN (P (45 + 12 * cN v + 0))) (cN (P (45 + 12 * cN v + 7)))) = P (45 + 12 * cN v + 9) + nI 1)
def sk32 (P : Row) (i s : Nat) : Int32 := P (27 + 3 * i + 2) * P (11 + s) / nI 10
/-- inks differ in a season of the set from one on -/
def dfS (P : Row) (u : Int32) (i j : Nat) : Nat → Nat → Bool
  | 0, _ => false
  | f + 1, s => (isB u (nI s) && decide (¬ sk32 P i s = sk32 P j s)) || dfS P u i j f (s + 1)
def pkS (P : Row) (u : Int32) (i j : Nat) : Bool := decide (P (27 + 3 * i + 2) = P (27 + 3 * j + 2)) || dfS P u i j 4 0
def t2S (P : Row) (u : Int32) (i : Nat) : Nat → Nat → Bool
  | 0, _ => true
  | m + 1, j => pkS P u i j && t2S P u i m (j + 1)
def t1S (P : Row) (u : Int32) : Nat → Nat → Bool
  | 0, _ => true
  | m + 1, i => t2S P u i m (i + 1) && t1S P u m (i + 1)
def apS (P : Row) (ni : Nat) : Nat → Int32
  | 0 => -1
  | s + 1 => if (apS P ni s = -1 ∨ bcN s < bcN (cN (apS P ni s))) ∧ t1S P (nI s) ni 0 = true then nI s else apS P ni s
section
variable {z : ZE} {d : Nat} {h h' g : Hp} {X R p : Nat} {S S1 : PSt} {K : Option Img} {A : List PSt} {tl : Nat} {T : Row} {ft : Int32} {ls : List LN} {Lo : Option Nat} {P : Row} {np ni nd m k : Nat} {as : List Value} {es : List Nat} {u v w b : Int32}
theorem C_forged (t : Tp h) (H : CI z h X S ls Lo K A tl T ft) (ok : Ok S) : CA z d h X Lo 130 [.ref X, .int v, zu] [2, 1] (frK S.1 S.2.2.2 v) (frV S.1 v) ((S, ls, Lo), K, A, tl, T, ft) := by
  have h8 := ok.1.2.2.2.2.2
  unfold frK frV
  by_cases c : inR v S.2.2.2
  · rw [if_pos c]
    obtain ⟨i, hi, rfl⟩ := (inR_iff (by omega)).mp c
    have st : ev z d 130 0 [.ref X, .int (nI i), zu] [] h = ev z d 130 5 [.ref X, .int (nI i), zu] [] h := by
      rw [S_LI_forged_0 H.1.1, C_needDeed H, if_pos c]
      simp only [zbd_i, tl_n]
    rw [S_LI_forged_5 H.1.1, ix_n (by omega) (by decide), H.rp.deed hi (by decide), H.rp.deed hi (by decide), H.rp.deed hi (by decide)] at st
    rw [cN_nI (by omega)]
    by_cases c2 : S.1 (45 + 12 * i + 9) = -1
    · rw [if_pos c2]
      rw [if_pos c2] at st
      exact CA.x t H rfl st
    · rw [if_neg c2]
      refine CA.rf H ?_
      obtain ⟨a, ha, ea⟩ := (ok.2.1 i hi).1
      obtain ⟨b, hb, eb⟩ := (ok.2.2.1 i hi).2.2.1
      rw [st, if_neg c2, ea, eb, T_Port_showsAt H.sk H.rp ok.2.2.2.2.1 ha (by omega), cN_nI (by have := ok.1.2.2.2.2.1; omega), cN_nI (by omega)]
      simp only [zbd_i, tl_s]
      rw [S_LI_forged_46 H.1.1 (by omega), H.rp.deed hi (by decide)]
      unfold bI
      by_cases c3 : nI (upS S.1 a b) = S.1 (45 + 12 * i + 9) + nI 1
      · rw [if_pos c3, if_neg (fun q => q c3)]
      · rw [if_neg c3, if_pos c3]
  · rw [if_neg c]
    refine CA.x t H rfl ?_
    rw [S_LI_forged_0 H.1.1, C_needDeed H, if_neg c]
    simp only [zbd_e]
    exact evx_nil rfl
theorem R_forged (H : RI h R S K A tl T ft) (ok : Ok S) : RB z d h R 270 [.ref R, .int v] (frK S.1 S.2.2.2 v) (frV S.1 v) ((S, ls, Lo), K, A, tl, T, ft) := by
  have h8 := ok.1.2.2.2.2.2
  have h6 := ok.1.2.2.2.2.1
  unfold frK frV
  by_cases c : inR v S.2.2.2
  · rw [if_pos c]
    obtain ⟨i, hi, rfl⟩ := (inR_iff (by omega)).mp c
    have G := H.w0 (v := nI 0)
    have st : ev z d 270 0 [.ref R, .int (nI i)] [] h = ev z d 270 34 [.ref R, .int (nI i)] [.int (S.1 (45 + 12 * i + 9)), .ref R] (zwI h R 0 (nI 0)) := by
      rw [S_M_forged_0 H.1.1, R_isDeed H ok]
      simp only [zbd_i, tl_s]
      rw [S_M_forged_6 H.1.1, chk, if_pos c, T_M_of G.1.1 (by omega), G.i]
      simp only [zbd_i, tl_s]
    rw [S_M_forged_34 G.1.1] at st
    rw [cN_nI (by omega)]
    by_cases c2 : S.1 (45 + 12 * i + 9) = -1
    · rw [if_pos c2]
      rw [if_pos c2, if_neg (by decide)] at st
      exact RB.t2 (by decide) st (FZ0.tr FZ0) zI_wa G.w0
    · rw [if_neg c2]
      have G2 := G.w0 (v := nI 0)
      have o := fun c (hc : 45 + 12 * i + c < 781) => T_M_of (z := z) (d := d) G2.1.1 (k := i) (c := c) hc
      obtain ⟨a, ha, ea⟩ := (ok.2.1 i hi).1
      obtain ⟨b, hb, eb⟩ := (ok.2.2.1 i hi).2.2.1
      refine RB.s (h' := zwI (zwI h R 0 (nI 0)) R 0 (nI 0)) ?_ (FZ0.tr FZ0) zI_wa G2
      rw [st, if_neg c2, if_pos (by decide), o 0 (by omega), G2.i]
      simp only [zbd_i, tl_s]
      rw [S_M_forged_60 G2.1.1, o 7 (by omega), G2.i]
      simp only [zbd_i, tl_s]
      rw [S_M_forged_67 G2.1.1, ea, eb, T_M_upOf G2.1.1 ha h6 (by rw [G2.i]; exact ok.2.2.2.2.1) (by omega), cN_nI (by omega), cN_nI (by omega), G2.i]
      simp only [zbd_i, tl_s]
      rw [S_M_forged_70 G2.1.1, o 9 (by omega), G2.i]
      simp only [zbd_i, tl_s]
      rw [S_M_forged_77]
      unfold bI
      by_cases c3 : nI (upS S.1 a b) = S.1 (45 + 12 * i + 9) + nI 1
      · rw [if_pos c3, if_neg (fun q => q c3)]
      · rw [if_neg c3, if_pos c3]
  · rw [if_neg c]
    refine RB.t H (by decide) (w := nI 0) ?_
    rw [S_M_forged_0 H.1.1, R_isDeed H ok]
    simp only [zbd_i, tl_s]
    rw [S_M_forged_6 H.1.1, chk, if_neg c]
theorem soP_u {i : Nat} : soP P (i + 1) = if nI (upS P i (cN (P 6))) - P 6 < (soP P i).2 then (nI i, nI (upS P i (cN (P 6))) - P 6) else soP P i := rfl
theorem C_soonest (H : CI z h X S ls Lo K A tl T ft) (ok : Ok S) : CA z d h X Lo 132 [.ref X, .int v, zu, zu, zu, zu] [] 0 (soV S.1 S.2.2.1 v) ((S, ls, Lo), K, A, tl, T, ft) := by
  have h6 := ok.1.2.2.2.2.1
  obtain ⟨b, hb, eb⟩ := ok.2.2.2.2.2.1
  have cb : cN (S.1 6) = b := by rw [eb, cN_nI (by omega)]
  refine CA.rf H ?_
  unfold soV
  rw [S_LI_soonest_0]
  refine lpw (E := fun i (x : Value) => ev z d 132 8 [.ref X, .int v, .int (soP S.1 i).1, .int (soP S.1 i).2, .int (nI i), x] [] h) S.2.2.1 ?_ ?_ zu
  · intro i x hi
    refine ⟨.int (nI (upS S.1 i (cN (S.1 6))) - S.1 6), ?_⟩
    have q1 : ev z d 71 0 [.ref (X + 4), .int (nI i), .int (S.1 6), zu, zu, zu] [] h = some (.inl (some (.int (nI (upS S.1 i (cN (S.1 6)))))), h) := by
      rw [cb, eb]
      exact T_Port_showsAt H.sk H.rp ok.2.2.2.2.1 hi (by omega)
    rw [S_LI_soonest_8 H.1.1, H.rp.ci, if_neg (nI_ge hi (by omega)), H.rp.time, q1]
    simp only [zbd_i, tl_s]
    rw [S_LI_soonest_36 H.1.1, H.rp.time, nI_add, soP_u]
    by_cases c : nI (upS S.1 i (cN (S.1 6))) - S.1 6 < (soP S.1 i).2
    · rw [if_neg (Int32.not_le.mpr c), if_pos c]
    · rw [if_pos (Int32.not_lt.mp c), if_neg c]
  · intro x
    rw [S_LI_soonest_8 H.1.1, H.rp.ci, if_pos (nI_le (Nat.le_refl _) (by omega))]
    split
    · rfl
    · split <;> rfl
theorem R_soonest (H : RI h R S K A tl T ft) (ok : Ok S) : RB z d h R 273 [.ref R, .int v, zu, zu, zu, zu] 0 (soV S.1 S.2.2.1 v) ((S, ls, Lo), K, A, tl, T, ft) := by
  have h6 := ok.1.2.2.2.2.1
  obtain ⟨b, hb, eb⟩ := ok.2.2.2.2.2.1
  have cb : cN (S.1 6) = b := by rw [eb, cN_nI (by omega)]
  have G := H.w0 (v := nI 0)
  refine RB.g H ?_
  unfold soV
  rw [S_M_soonest_0 H.1.1]
  generalize zwI h R 0 (nI 0) = g at *
  have h4 : S.1 4 = nI S.2.2.1 := ok.1.2.1
  refine lpw (E := fun i (x : Value) => ev z d 273 13 [.ref R, .int v, .int (soP S.1 i).1, .int (soP S.1 i).2, .int (nI i), x] [] g) S.2.2.1 ?_ ?_ zu
  · intro i x hi
    refine ⟨.int (nI (upS S.1 i (cN (S.1 6))) - S.1 6), ?_⟩
    have q1 : ev z d 265 0 [.ref R, .int (nI i), .int (S.1 6), zu, zu] [] g = some (.inl (some (.int (nI (upS S.1 i (cN (S.1 6)))))), g) := by
      have := T_M_upOf (z := z) (d := d) G.1.1 hi h6 (by rw [G.i]; exact ok.2.2.2.2.1) (show b < 2 ^ 29 by omega)
      rw [cb, eb, this, G.i]
    rw [S_M_soonest_13 G.1.1, G.i, h4, if_neg (nI_ge hi (by omega)), q1]
    simp only [zbd_i, tl_s]
    rw [S_M_soonest_37 G.1.1, G.i, nI_add, soP_u]
    by_cases c : nI (upS S.1 i (cN (S.1 6))) - S.1 6 < (soP S.1 i).2
    · rw [if_pos c, if_pos c]
    · rw [if_neg c, if_neg c]
  · intro x
    rw [S_M_soonest_13 G.1.1, G.i, h4, if_pos (nI_le (Nat.le_refl _) (by omega))]
    split
    · rfl
    · split <;> rfl
/-! APART -/
theorem T_Port_differIn (hP : PSk h p) (H : PRp h p P np ni nd) {i j : Nat} (hi : i < ni) (hj : j < ni) : ∀ f s, s + f = 4 → ev z d 73 3 [.ref p, .ref (p + 14 + i), .ref (p + 14 + j), .int u, .int (nI s)] [] h = some (.inl (some (.int (bI (dfS P u i j f s = true)))), h)
  | 0, s, hs => by
    rw [S_Port_differIn_3 hP (PSk_o2 hP (by have := H.li; omega)), if_pos (nI_le (by omega) (by omega)), bI_f (by unfold dfS; decide)]
  | f + 1, s, hs => by
    have h6 := H.li
    have k1 : zK h (p + 14 + i) = 2 := PSk_o2 hP (by omega)
    have k2 : zK h (p + 14 + j) = 2 := PSk_o2 hP (by omega)
    rw [S_Port_differIn_3 hP k1, if_neg (nI_ge (by omega) (by decide)), nI_add]
    simp only [isB_d]
    unfold dfS
    by_cases c : isB u (nI s) = true
    · rw [if_pos c, ix_n (by omega) (by decide), H.damp (by omega), S_Ink_soaksUp_0 k1, H.ink hi (by decide)]
      simp only [zbd_i, tl_s]
      rw [S_Port_differIn_30 hP k2, ix_n (by omega) (by decide), H.damp (by omega), S_Ink_soaksUp_0 k2, H.ink hj (by decide)]
      simp only [zbd_i, tl_s]
      rw [S_Port_differIn_41, nI_add]
      by_cases c2 : sk32 P i s = sk32 P j s
      · rw [if_pos (show P (27 + 3 * i + 2) * P (11 + s) / nI 10 = P (27 + 3 * j + 2) * P (11 + s) / nI 10 from c2), T_Port_differIn hP H hi hj f (s + 1) (by omega)]
        have : (isB u (nI s) && decide (¬ sk32 P i s = sk32 P j s)) = false := by simp [c2]
        rw [this, Bool.false_or]
      · rw [if_neg (show ¬ P (27 + 3 * i + 2) * P (11 + s) / nI 10 = P (27 + 3 * j + 2) * P (11 + s) / nI 10 from c2)]
        have : (isB u (nI s) && decide (¬ sk32 P i s = sk32 P j s)) = true := by simp [c, c2]
        rw [this, Bool.true_or, bI_t rfl]
    · rw [if_neg c, T_Port_differIn hP H hi hj f (s + 1) (by omega)]
      have : (isB u (nI s) && decide (¬ sk32 P i s = sk32 P j s)) = false := by simp [c]
      rw [this, Bool.false_or]
theorem T_Port_tells_i (hP : PSk h p) (H : PRp h p P np ni nd) {i : Nat} (hi : i < ni) : ∀ m j, j + m = ni → ev z d 72 14 [.ref p, .int u, .int (nI i), .int (nI j)] [] h = if t2S P u i m j = true then ev z d 72 2 [.ref p, .int u, .int (nI (i + 1)), .int (nI ni)] [] h else some (.inl (some (.int (nI 0))), h)
  | 0, j, hj => by
    have h6 := H.li
    rw [S_Port_tellsInksApart_14 hP, H.ci, if_pos (nI_le (by omega) (by omega)), if_pos (show t2S P u i 0 j = true from rfl), nI_add, show j = ni by omega]
  | m + 1, j, hj => by
    have h6 := H.li
    rw [S_Port_tellsInksApart_14 hP, H.ci, if_neg (nI_ge (by omega) (by omega)), ix_n (by omega) (by decide), ix_n (by omega) (by decide), ix_n (by omega) (by decide), ix_n (by omega) (by decide), H.ink hi (by decide), H.ink (show j < ni by omega) (by decide), nI_add]
    unfold t2S
    by_cases c : P (27 + 3 * i + 2) = P (27 + 3 * j + 2)
    · have e : pkS P u i j = true := by unfold pkS; simp [c]
      rw [if_pos c, T_Port_tells_i hP H hi m (j + 1) (by omega), e, Bool.true_and]
    · have e : pkS P u i j = dfS P u i j 4 0 := by unfold pkS; simp [c]
      rw [if_neg c, S_Port_differIn_0, T_Port_differIn hP H hi (by omega) 4 0 rfl, e]
      simp only [zbd_i, tl_s]
      rw [S_Port_tellsInksApart_60, chk0, nI_add]
      by_cases c2 : dfS P u i j 4 0 = true
      · rw [if_pos c2, c2, T_Port_tells_i hP H hi m (j + 1) (by omega), Bool.true_and]
      · have e2 : dfS P u i j 4 0 = false := by simpa using c2
        rw [if_neg c2, e2, Bool.false_and]
        rfl
theorem T_Port_tells (hP : PSk h p) (H : PRp h p P np ni nd) : ∀ m i w3, i + m = ni → ev z d 72 2 [.ref p, .int u, .int (nI i), w3] [] h = some (.inl (some (.int (bI (t1S P u m i = true)))), h)
  | 0, i, w3, hi => by
    have h6 := H.li
    rw [S_Port_tellsInksApart_2 hP, H.ci, if_pos (nI_le (by omega) (by omega))]
    rfl
  | m + 1, i, w3, hi => by
    have h6 := H.li
    rw [S_Port_tellsInksApart_2 hP, H.ci, if_neg (nI_ge (by omega) (by omega)), nI_add, T_Port_tells_i hP H (by omega) m (i + 1) (by omega)]
    unfold t1S
    by_cases c : t2S P u i m (i + 1) = true
    · rw [if_pos c, c, T_Port_tells hP H m (i + 1) _ (by omega), Bool.true_and]
    · have e2 : t2S P u i m (i + 1) = false := by simpa using c
      rw [if_neg c, e2, Bool.false_and]
      rfl
theorem apS_u {s : Nat} : apS P ni (s + 1) = if (apS P ni s = -1 ∨ bcN s < bcN (cN (apS P ni s))) ∧ t1S P (nI s) ni 0 = true then nI s else apS P ni s := rfl
theorem apS_n : ∀ s, apS P ni s = -1 ∨ ∃ j, j < s ∧ apS P ni s = nI j
  | 0 => Or.inl rfl
  | s + 1 => by
    rw [apS_u]
    by_cases c : (apS P ni s = -1 ∨ bcN s < bcN (cN (apS P ni s))) ∧ t1S P (nI s) ni 0 = true
    · rw [if_pos c]; exact Or.inr ⟨s, by omega, rfl⟩
    · rw [if_neg c]
      rcases apS_n s with e | ⟨j, hj, e⟩
      · exact Or.inl e
      · exact Or.inr ⟨j, by omega, e⟩
theorem bcN_4 : ∀ a, a < 16 → bcN a ≤ 4 := by decide +kernel
def fwN (x : Int32) : Nat := if x = -1 then 5 else bcN (cN x)
theorem fwN_b {s : Nat} (hs : s ≤ 16) : fwN (apS P ni s) ≤ 5 ∧ (∀ t, t < 16 → ((apS P ni s = -1 ∨ bcN t < bcN (cN (apS P ni s))) ↔ bcN t < fwN (apS P ni s))) := by
  unfold fwN
  rcases apS_n (P := P) (ni := ni) s with e | ⟨j, hj, e⟩
  · rw [e, if_pos rfl]
    refine ⟨by omega, fun t ht => ⟨fun _ => ?_, fun _ => Or.inl rfl⟩⟩
    have := bcN_4 t ht
    omega
  · rw [e, if_neg (nI_ne1 (by omega)), cN_nI (by omega)]
    have := bcN_4 j (by omega)
    exact ⟨by omega, fun t ht => ⟨fun q => q.resolve_left (nI_ne1 (by omega)), fun q => Or.inr q⟩⟩
theorem C_apart (H : CI z h X S ls Lo K A tl T ft) : CA z d h X Lo 131 [.ref X, zu, zu, zu] [] 0 (apS S.1 S.2.2.1 16) ((S, ls, Lo), K, A, tl, T, ft) := by
  refine CA.rf H ?_
  rw [S_LI_apart_0]
  refine (lp (E := fun s => ev z d 131 6 [.ref X, .int (apS S.1 S.2.2.1 s), .int (nI (fwN (apS S.1 S.2.2.1 s))), .int (nI s)] [] h) 16 ?_).trans ?_
  · intro s hs
    obtain ⟨b1, b2⟩ := fwN_b (P := S.1) (ni := S.2.2.1) (s := s) (by omega)
    have b3 := bcN_4 s hs
    rw [S_LI_apart_6, if_neg (nI_ge hs (by decide)), T_bitCount (by omega), apS_u]
    simp only [zbd_i, tl_s]
    rw [S_LI_apart_16 H.1.1, nI_add]
    by_cases c : bcN s < fwN (apS S.1 S.2.2.1 s)
    · rw [if_neg (nI_ge c (by omega)), S_Port_tellsInksApart_0, T_Port_tells H.sk H.rp S.2.2.1 0 _ (by omega)]
      simp only [zbd_i, tl_s]
      rw [S_LI_apart_28, chk0, nI_add]
      by_cases c2 : t1S S.1 (nI s) S.2.2.1 0 = true
      · rw [if_pos c2, if_pos ⟨(b2 s hs).mpr c, c2⟩, T_bitCount (by omega)]
        simp only [zbd_i, tl_s]
        rw [S_LI_apart_35 rfl, nI_add]
        have : fwN (nI s) = bcN s := by
          unfold fwN
          rw [if_neg (nI_ne1 (by omega)), cN_nI (by omega)]
        rw [this]
      · rw [if_neg c2, if_neg (fun q => c2 q.2)]
    · rw [if_pos (nI_le (by omega) (by omega)), if_neg (fun q => c ((b2 s hs).mp q.1))]
  · rw [S_LI_apart_6, if_pos (by decide)]
theorem T_M_areApart (hR : RSk h R) (hi1 : zI h (R + 1) = P) {i j : Nat} (hi : i < 6) (hj : j < 6) : ∀ f s, s + f = 4 → ev z d 271 6 [.ref R, .int u, .int (nI i), .int (nI j), .int (nI 0), .int (nI s)] [] h = some (.inl (some (.int (bI (dfS P u i j f s = true)))), h) := by
  have one : ∀ f s, s + f = 4 → ev z d 271 6 [.ref R, .int u, .int (nI i), .int (nI j), .int (nI 1), .int (nI s)] [] h = some (.inl (some (.int (nI 1))), h) := by
    intro f
    induction f with
    | zero =>
      intro s hs
      rw [S_M_areApart_6 (v4 := nI 1) (Or.inr rfl), if_pos (nI_le (by omega) (by omega))]
    | succ f ih =>
      intro s hs
      rw [S_M_areApart_6 (v4 := nI 1) (Or.inr rfl), if_neg (nI_ge (by omega) (by decide)), if_neg (by decide), nI_add]
      exact ih (s + 1) (by omega)
  intro f
  induction f with
  | zero =>
    intro s hs
    rw [S_M_areApart_6 (v4 := nI 0) (Or.inl rfl), if_pos (nI_le (by omega) (by omega)), bI_f (by unfold dfS; decide)]
  | succ f ih =>
    intro s hs
    rw [S_M_areApart_6 (v4 := nI 0) (Or.inl rfl), if_neg (nI_ge (by omega) (by decide)), if_pos (by decide), T_M_isOf]
    simp only [zbd_i, tl_s]
    rw [S_M_areApart_23 hR, chk0, nI_add]
    unfold dfS
    by_cases c : isB u (nI s) = true
    · rw [if_pos c, T_M_soaked hR (by omega) (by omega), hi1]
      simp only [zbd_i, tl_s]
      rw [S_M_areApart_33 hR, T_M_soaked hR (by omega) (by omega), hi1]
      simp only [zbd_i, tl_s]
      rw [S_M_areApart_40, nI_add]
      by_cases c2 : sk32 P i s = sk32 P j s
      · rw [if_pos (show P (27 + 3 * i + 2) * P (11 + s) / nI 10 = P (27 + 3 * j + 2) * P (11 + s) / nI 10 from c2), ih (s + 1) (by omega)]
        have : (isB u (nI s) && decide (¬ sk32 P i s = sk32 P j s)) = false := by simp [c2]
        rw [this, Bool.false_or]
      · rw [if_neg (show ¬ P (27 + 3 * i + 2) * P (11 + s) / nI 10 = P (27 + 3 * j + 2) * P (11 + s) / nI 10 from c2), one f (s + 1) (by omega)]
        have : (isB u (nI s) && decide (¬ sk32 P i s = sk32 P j s)) = true := by simp [c, c2]
        rw [this, Bool.true_or, bI_t rfl]
    · rw [if_neg c, ih (s + 1) (by omega)]
      have : (isB u (nI s) && decide (¬ sk32 P i s = sk32 P j s)) = false := by simp [c]
      rw [this, Bool.false_or]
theorem R_tells_i (hR : RSk h R) (hi1 : zI h (R + 1) = P) (h4 : P 4 = nI ni) (h6 : ni ≤ 6) {i : Nat} (hi : i < ni) : ∀ m j, j + m = ni → ∃ w5, ev z d 272 61 [.ref R, .int v, .int u, .int (nI 1), .int (nI i), .int (nI j)] [] h = ev z d 272 40 [.ref R, .int v, .int u, .int (bI (t2S P u i m j = true)), .int (nI (i + 1)), w5] [] h
  | 0, j, hj => ⟨.int (nI j), by
    rw [S_M_apart_61 hR, hi1, h4, if_pos (nI_le (by omega) (by omega)), nI_add]
    rfl⟩
  | m + 1, j, hj => by
    have st : ev z d 272 61 [.ref R, .int v, .int u, .int (nI 1), .int (nI i), .int (nI j)] [] h = ev z d 272 90 [.ref R, .int v, .int u, .int (nI 1), .int (nI i), .int (nI j)] [.int (P (27 + 3 * j + 2)), .int (P (27 + 3 * i + 2))] h := by
      rw [S_M_apart_61 hR, hi1, h4, if_neg (nI_ge (by omega) (by omega)), if_neg (by decide), T_M_ofInk hR (by omega), hi1]
      simp only [zbd_i, tl_s]
      rw [S_M_apart_83 hR, T_M_ofInk hR (by omega), hi1]
      simp only [zbd_i, tl_s]
    rw [st, S_M_apart_90 hR, nI_add]
    unfold t2S
    by_cases c : P (27 + 3 * i + 2) = P (27 + 3 * j + 2)
    · have e : pkS P u i j = true := by unfold pkS; simp [c]
      rw [if_pos c, e, Bool.true_and]
      exact R_tells_i hR hi1 h4 h6 hi m (j + 1) (by omega)
    · have e : pkS P u i j = dfS P u i j 4 0 := by unfold pkS; simp [c]
      rw [if_neg c, S_M_areApart_0, T_M_areApart hR hi1 (by omega) (by omega) 4 0 rfl, e]
      simp only [zbd_i, tl_s]
      rw [S_M_apart_102, chk0, nI_add]
      by_cases c2 : dfS P u i j 4 0 = true
      · rw [if_pos c2, c2, Bool.true_and]
        exact R_tells_i hR hi1 h4 h6 hi m (j + 1) (by omega)
      · have e2 : dfS P u i j 4 0 = false := by simpa using c2
        rw [if_neg c2, e2, Bool.false_and]
        refine ⟨.int (nI (j + 1)), ?_⟩
        rw [S_M_apart_61 hR, hi1, h4]
        by_cases c3 : ni ≤ j + 1
        · rw [if_pos (nI_le c3 (by omega)), nI_add]
          rfl
        · rw [if_neg (nI_ge (by omega) (by omega)), if_pos (by decide), nI_add]
          rfl
theorem R_tells (hR : RSk h R) (hi1 : zI h (R + 1) = P) (h4 : P 4 = nI ni) (h6 : ni ≤ 6) : ∀ m i w5, i + m = ni → ∃ w3 w4 w5', ev z d 272 40 [.ref R, .int v, .int u, .int (nI 1), .int (nI i), w5] [] h = ev z d 272 9 [.ref R, .int (if t1S P u m i = true then u else v), .int (u + nI 1), w3, w4, w5'] [] h
  | 0, i, w5, hi => ⟨.int (nI 1), .int (nI i), w5, by
    rw [S_M_apart_40 hR, hi1, h4, if_pos (nI_le (by omega) (by omega)), if_neg (by decide), if_pos (show t1S P u 0 i = true from rfl)]⟩
  | m + 1, i, w5, hi => by
    obtain ⟨w5', e⟩ := R_tells_i (z := z) (d := d) (u := u) (v := v) hR hi1 h4 h6 (show i < ni by omega) m (i + 1) (by omega)
    rw [S_M_apart_40 hR, hi1, h4, if_neg (nI_ge (by omega) (by omega)), if_neg (by decide), nI_add, e]
    unfold t1S
    by_cases c : t2S P u i m (i + 1) = true
    · rw [bI_t c, c, Bool.true_and]
      exact R_tells hR hi1 h4 h6 m (i + 1) w5' (by omega)
    · have e2 : t2S P u i m (i + 1) = false := by simpa using c
      rw [bI_f c, e2, Bool.false_and]
      refine ⟨.int (nI 0), .int (nI (i + 1)), w5', ?_⟩
      rw [S_M_apart_40 hR, hi1, h4]
      by_cases c3 : ni ≤ i + 1
      · rw [if_pos (nI_le c3 (by omega)), if_pos (by decide)]
        rfl
      · rw [if_neg (nI_ge (by omega) (by omega)), if_pos (by decide), if_pos (by decide)]
        rfl
theorem R_apart (H : RI h R S K A tl T ft) (ok : Ok S) : RB z d h R 272 [.ref R, zu, zu, zu, zu, zu] 0 (apS S.1 S.2.2.1 16) ((S, ls, Lo), K, A, tl, T, ft) := by
  have h6 := ok.1.2.2.2.2.1
  have G := H.w0 (v := nI 0)
  refine RB.g H ?_
  rw [S_M_apart_0 H.1.1]
  generalize zwI h R 0 (nI 0) = g at *
  have h4 : S.1 4 = nI S.2.2.1 := ok.1.2.1
  have zr : ∀ {v u : Int32} {w5 : Value} , ev z d 272 40 [.ref R, .int v, .int u, .int (nI 0), .int (nI 0), w5] [] g = ev z d 272 9 [.ref R, .int v, .int (u + nI 1), .int (nI 0), .int (nI 0), w5] [] g := by
    intro v u w5
    rw [S_M_apart_40 G.1.1, G.i, h4]
    by_cases c3 : S.2.2.1 ≤ 0
    · rw [if_pos (nI_le c3 (by omega)), if_pos (by decide)]
    · rw [if_neg (nI_ge (by omega) (by omega)), if_pos (by decide), if_pos (by decide)]
  refine lpw (E := fun s (x : Value × Value × Value) => ev z d 272 9 [.ref R, .int (apS S.1 S.2.2.1 s), .int (nI s), x.1, x.2.1, x.2.2] [] g) 16 ?_ ?_ (zu, zu, zu)
  · intro s x hs
    obtain ⟨b1, b2⟩ := fwN_b (P := S.1) (ni := S.2.2.1) (s := s) (by omega)
    rw [S_M_apart_9, if_neg (nI_ge hs (by decide)), apS_u]
    obtain ⟨x3, x4, x5, e⟩ := R_tells (z := z) (d := d) (u := nI s) (v := apS S.1 S.2.2.1 s) G.1.1 G.i h4 h6 S.2.2.1 0 x.2.2 (by omega)
    rw [nI_add] at e
    have fin : (apS S.1 S.2.2.1 s = -1 ∨ bcN s < bcN (cN (apS S.1 S.2.2.1 s))) → (if t1S S.1 (nI s) S.2.2.1 0 = true then nI s else apS S.1 S.2.2.1 s) = if (apS S.1 S.2.2.1 s = -1 ∨ bcN s < bcN (cN (apS S.1 S.2.2.1 s))) ∧ t1S S.1 (nI s) S.2.2.1 0 = true then nI s else apS S.1 S.2.2.1 s := by
      intro q
      by_cases c : t1S S.1 (nI s) S.2.2.1 0 = true
      · rw [if_pos c, if_pos ⟨q, c⟩]
      · rw [if_neg c, if_neg (fun q => c q.2)]
    by_cases c1 : apS S.1 S.2.2.1 s = -1
    · refine ⟨(x3, x4, x5), ?_⟩
      rw [if_pos c1, e, fin (Or.inl c1)]
    · rcases apS_n (P := S.1) (ni := S.2.2.1) s with e' | ⟨j, hj, e'⟩
      · exact absurd e' c1
      · have q1 : ev z d 178 0 [.int (apS S.1 S.2.2.1 s), zu, zu] [] g = some (.inl (some (.int (nI (bcN j)))), g) := by rw [e', T_M_bitsN (by omega)]
        have bj := bcN_4 j (by omega)
        have bs := bcN_4 s hs
        rw [if_neg c1, T_M_bitsN (by omega)]
        simp only [zbd_i, tl_s]
        rw [S_M_apart_24, q1]
        simp only [zbd_i, tl_s]
        rw [S_M_apart_28]
        have cj : cN (apS S.1 S.2.2.1 s) = j := by rw [e', cN_nI (by omega)]
        by_cases c2 : bcN s < bcN j
        · refine ⟨(x3, x4, x5), ?_⟩
          rw [if_neg (nI_ge c2 (by omega)), e, fin (Or.inr (by rw [cj]; exact c2))]
        · refine ⟨(.int (nI 0), .int (nI 0), x.2.2), ?_⟩
          rw [if_pos (nI_le (by omega) (by omega)), zr, nI_add, if_neg]
          rintro ⟨q | q, -⟩
          · exact c1 q
          · rw [cj] at q; exact c2 q
  · intro x
    rw [S_M_apart_9, if_pos (by decide)]
end
