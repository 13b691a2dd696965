/-! INKS BY THE RECKONING OF JARS -/
def OkI (P : Nat → Int32) (ni : Nat) : Prop := (∀ i, i < ni → (∃ a, 1 ≤ a ∧ a ≤ 99 ∧ P (27 + 3 * i + 0) = nI a) ∧ (∃ a, a ≤ 99 ∧ P (27 + 3 * i + 1) = nI a) ∧ ∃ a, a ≤ 9 ∧ P (27 + 3 * i + 2) = nI a) ∧ ∀ k, k < 4 → ∃ a, a ≤ 9 ∧ P (11 + k) = nI a
def cN (x : Int32) : Nat := x.toNatClampNeg
theorem cN_nI {k : Nat} (h : k < 2 ^ 31) : cN (nI k) = k := nI_clamp h
theorem OkI.age {P : Nat → Int32} {ni i : Nat} (h : OkI P ni) (hi : i < ni) : P (27 + 3 * i + 0) = nI (cN (P (27 + 3 * i + 0))) ∧ 1 ≤ cN (P (27 + 3 * i + 0)) ∧ cN (P (27 + 3 * i + 0)) ≤ 99 := by
  obtain ⟨a, h1, h2, e⟩ := (h.1 i hi).1
  rw [e, cN_nI (by omega)]
  exact ⟨rfl, h1, h2⟩
theorem OkI.keeps {P : Nat → Int32} {ni i : Nat} (h : OkI P ni) (hi : i < ni) : P (27 + 3 * i + 1) = nI (cN (P (27 + 3 * i + 1))) ∧ cN (P (27 + 3 * i + 1)) ≤ 99 := by
  obtain ⟨a, h2, e⟩ := (h.1 i hi).2.1
  rw [e, cN_nI (by omega)]
  exact ⟨rfl, h2⟩
theorem OkI.soaks {P : Nat → Int32} {ni i : Nat} (h : OkI P ni) (hi : i < ni) : P (27 + 3 * i + 2) = nI (cN (P (27 + 3 * i + 2))) ∧ cN (P (27 + 3 * i + 2)) ≤ 9 := by
  obtain ⟨a, h2, e⟩ := (h.1 i hi).2.2
  rw [e, cN_nI (by omega)]
  exact ⟨rfl, h2⟩
theorem OkI.damp {P : Nat → Int32} {ni k : Nat} (h : OkI P ni) (hk : k < 4) : P (11 + k) = nI (cN (P (11 + k))) ∧ cN (P (11 + k)) ≤ 9 := by
  obtain ⟨a, h2, e⟩ := h.2 k hk
  rw [e, cN_nI (by omega)]
  exact ⟨rfl, h2⟩
/-- what an ink soaks up in a season -/
def skN (P : Nat → Int32) (i s : Nat) : Nat := cN (P (27 + 3 * i + 2)) * cN (P (11 + s)) / 10
theorem skN_le {P : Nat → Int32} {ni i s : Nat} (h : OkI P ni) (hi : i < ni) (hs : s < 4) : skN P i s ≤ 8 := by
  have h1 := (h.soaks hi).2
  have h2 := (h.damp hs).2
  unfold skN
  have : cN (P (27 + 3 * i + 2)) * cN (P (11 + s)) ≤ 9 * 9 := Nat.mul_le_mul h1 h2
  omega
theorem skN_I {P : Nat → Int32} {ni i s : Nat} (h : OkI P ni) (hi : i < ni) (hs : s < 4) : P (27 + 3 * i + 2) * P (11 + s) / nI 10 = nI (skN P i s) := by
  have h1 := h.soaks hi
  have h2 := h.damp hs
  have : cN (P (27 + 3 * i + 2)) * cN (P (11 + s)) ≤ 9 * 9 := Nat.mul_le_mul h1.2 h2.2
  unfold skN
  rw [h1.1, h2.1, pk_mul, cN_nI (by omega), cN_nI (by omega), pk_div (by omega) (by decide) (by decide)]
def upF (A : Nat) (g : Nat → Nat) : Nat → Nat → Nat → Nat
  | 0, _, t => t
  | f + 1, r, t => if A ≤ r then t else upF A g f (r + (1 + g (t % 4))) (t + 1)
/-- the time behind the season in which a sheet of an ink comes up -/
def upS (P : Nat → Int32) (i t : Nat) : Nat := upF (cN (P (27 + 3 * i + 0))) (skN P i) 99 0 t
theorem upF_le {A : Nat} {g : Nat → Nat} : ∀ f r t, upF A g f r t ≤ t + f
  | 0, r, t => Nat.le_refl _
  | f + 1, r, t => by
    unfold upF
    split
    · omega
    · have := upF_le (A := A) (g := g) f (r + (1 + g (t % 4))) (t + 1)
      omega
theorem upF_ge {A : Nat} {g : Nat → Nat} : ∀ f r t, t ≤ upF A g f r t
  | 0, r, t => Nat.le_refl _
  | f + 1, r, t => by
    unfold upF
    split
    · omega
    · have := upF_ge (A := A) (g := g) f (r + (1 + g (t % 4))) (t + 1)
      omega
theorem rem4 {t : Nat} (ht : t < 2 ^ 31) : nI t - nI t / nI 4 * nI 4 = nI (t % 4) := pk_rem ht (by decide) (by decide)
section
variable {z : ZE} {d : Nat} {h : Hp} {R p : Nat} {P : Nat → Int32} {np ni nd : Nat}
theorem T_M_up_l (hR : RSk h R) {i : Nat} (hi : i < ni) (h6 : ni ≤ 6) (hO : OkI (zI h (R + 1)) ni) {w : Value} (hw : zisL w = false) : ∀ f r t, cN (zI h (R + 1) (27 + 3 * i + 0)) ≤ r + f → r ≤ 2000 → f ≤ 99 → t + f < 2 ^ 30 → ev z d 265 5 [.ref R, .int (nI i), w, .int (nI r), .int (nI t)] [] h = some (.inl (some (.int (nI (upF (cN (zI h (R + 1) (27 + 3 * i + 0))) (skN (zI h (R + 1)) i) f r t)))), h) := by
  have ha := hO.age hi
  intro f
  induction f with
  | zero =>
    intro r t h1 h2 h3 h4
    rw [S_M_upOf_5 hR, T_M_ofInk hR (by omega)]
    simp only [zbd_i, tl_s]
    rw [S_M_upOf_12 hR, if_pos (by rw [ha.1]; exact nI_le (by omega) (by omega))]
    rfl
  | succ f ih =>
    intro r t h1 h2 h3 h4
    rw [S_M_upOf_5 hR, T_M_ofInk hR (by omega)]
    simp only [zbd_i, tl_s]
    rw [S_M_upOf_12 hR]
    unfold upF
    by_cases hc : cN (zI h (R + 1) (27 + 3 * i + 0)) ≤ r
    · rw [if_pos (by rw [ha.1]; exact nI_le hc (by omega)), if_pos hc]
    · have hm : t % 4 < 4 := Nat.mod_lt _ (by decide)
      have hs := skN_le hO hi hm
      rw [if_neg (by rw [ha.1]; exact nI_ge (by omega) (by omega)), if_neg hc, rem4 (by omega), T_M_soaked hR (by omega) (by omega), skN_I hO hi hm]
      simp only [zbd_i, tl_s, S_M_upOf_26 hw, nI_add]
      exact ih _ _ (by omega) (by omega) (by omega) (by omega)
theorem T_M_upOf (hR : RSk h R) {i t : Nat} (hi : i < ni) (h6 : ni ≤ 6) (hO : OkI (zI h (R + 1)) ni) (ht : t < 2 ^ 29) : ev z d 265 0 [.ref R, .int (nI i), .int (nI t), zu, zu] [] h = some (.inl (some (.int (nI (upS (zI h (R + 1)) i t)))), h) := by
  have ha := hO.age hi
  rw [S_M_upOf_0]
  exact T_M_up_l hR hi h6 hO zisL_i 99 0 t (by omega) (by omega) (by omega) (by omega)
theorem T_Port_up_l (hP : PSk h p) (H : PRp h p P np ni nd) (hO : OkI P ni) {i : Nat} (hi : i < ni) {w : Value} (hw : zisL w = false) : ∀ f r t c, cN (P (27 + 3 * i + 0)) ≤ r + f → r ≤ 2000 → f ≤ 99 → t + f < 2 ^ 30 → c ≤ r → ev z d 71 8 [.ref p, .int (nI i), w, .int (nI r), .int (nI t), .int (nI c)] [] h = some (.inl (some (.int (nI (upF (cN (P (27 + 3 * i + 0))) (skN P i) f r t)))), h) := by
  have ha := hO.age hi
  have h6 := H.li
  intro f
  induction f with
  | zero =>
    intro r t c h1 h2 h3 h4 h5
    rw [S_Port_showsAt_8 hP, ix_n (by omega) (by decide), H.ink hi (by decide), ix_n (by omega) (by decide), H.ink hi (by decide), if_pos (show P (27 + 3 * i + 0) ≤ nI r by rw [ha.1]; exact nI_le (by omega) (by omega)), ite_self]
    rfl
  | succ f ih =>
    intro r t c h1 h2 h3 h4 h5
    rw [S_Port_showsAt_8 hP, ix_n (by omega) (by decide), H.ink hi (by decide), ix_n (by omega) (by decide), H.ink hi (by decide)]
    unfold upF
    by_cases hc : cN (P (27 + 3 * i + 0)) ≤ r
    · rw [if_pos (show P (27 + 3 * i + 0) ≤ nI r by rw [ha.1]; exact nI_le hc (by omega)), if_pos hc, ite_self]
    · have hm : t % 4 < 4 := Nat.mod_lt _ (by decide)
      have hs := skN_le hO hi hm
      rw [if_neg (show ¬ P (27 + 3 * i + 0) ≤ nI c by rw [ha.1]; exact nI_ge (by omega) (by omega)), if_neg (show ¬ P (27 + 3 * i + 0) ≤ nI r by rw [ha.1]; exact nI_ge (by omega) (by omega)), if_neg hc, rem4 (by omega), ix_n (by omega) (by decide), ix_n hm (by decide), H.damp hm, S_Ink_soaksUp_0 (PSk_o2 hP (by omega)), H.ink hi (by decide), skN_I hO hi hm]
      simp only [zbd_i, tl_s, S_Port_showsAt_55 hw, nI_add]
      exact ih _ _ _ (by omega) (by omega) (by omega) (by omega) (by omega)
theorem T_Port_showsAt (hP : PSk h p) (H : PRp h p P np ni nd) (hO : OkI P ni) {i t : Nat} (hi : i < ni) (ht : t < 2 ^ 29) : ev z d 71 0 [.ref p, .int (nI i), .int (nI t), zu, zu, zu] [] h = some (.inl (some (.int (nI (upS P i t)))), h) := by
  have ha := hO.age hi
  rw [S_Port_showsAt_0]
  exact T_Port_up_l hP H hO hi zisL_i 99 0 t 0 (by omega) (by omega) (by omega) (by omega) (by omega)
end
