/-! TEXTS: deeds, damp, a line of a port, as the reference reads them -/
section
variable {z : ZE} {d : Nat} {h g : Hp} {R E a s w : Nat} {T P : Row} {tx : List Nat} {lo hi : Int32} {np ni nd : Nat} {w1 w4 w5 w6 w7 w8 w9 w10 : Value} {v2 v3 v6 v7 v8 v9 s0 : Int32}
theorem D175_f (hR : RSk g R) (hf : ¬ zI g R 12 = -1) : ev z d 204 175 [.ref R, w1, .int v2, .int v3, w4, w5, .int v6, .int v7, .int v8, .int v9, w10] [.int s0] g = some (.inl none, g) := by rw [S_M_deedLine_175 hR, if_neg hf]
theorem D157_f (hR : RSk g R) (hf : ¬ zI g R 12 = -1) : ev z d 204 157 [.ref R, w1, .int v2, .int v3, w4, w5, .int v6, .int v7, .int v8, w9, w10] [.int s0] g = some (.inl none, g) := by
  rw [S_M_deedLine_157 hR, T_M_maybe_f hR hf]
  simp only [zbd_i, tl_s]
  exact D175_f hR hf
theorem D139_f (hR : RSk g R) (hf : ¬ zI g R 12 = -1) : ev z d 204 139 [.ref R, w1, .int v2, .int v3, w4, w5, .int v6, .int v7, w8, w9, w10] [.int s0] g = some (.inl none, g) := by
  rw [S_M_deedLine_139 hR, T_M_maybe_f hR hf]
  simp only [zbd_i, tl_s]
  exact D157_f hR hf
theorem D127_f (hR : RSk g R) (hf : ¬ zI g R 12 = -1) : ev z d 204 127 [.ref R, w1, .int v2, .int v3, w4, w5, .int v6, w7, w8, w9, w10] [.int s0] g = some (.inl none, g) := by
  rw [S_M_deedLine_127 hR, T_M_maybe_f hR hf]
  simp only [zbd_i, tl_s]
  exact D139_f hR hf
theorem D118_f (hR : RSk g R) (hf : ¬ zI g R 12 = -1) : ev z d 204 118 [.ref R, w1, .int v2, .int v3, w4, w5, .int v6, w7, w8, w9, w10] [] g = some (.inl none, g) := by
  rw [S_M_deedLine_118 hR, T_M_after_f hR hf]
  simp only [zbd_i, tl_s]
  exact D127_f hR hf
theorem D92_f (hR : RSk g R) (hf : ¬ zI g R 12 = -1) {v5 : Int32} : ev z d 204 92 [.ref R, w1, .int v2, .int v3, w4, .int v5, w6, w7, w8, w9, w10] [.int s0] g = some (.inl none, g) := by
  rw [S_M_deedLine_92 hR, if_neg hf, T_M_after_f hR hf]
  simp only [zbd_i, tl_s]
  exact D127_f hR hf
theorem D54_f (hR : RSk g R) (hf : ¬ zI g R 12 = -1) : ev z d 204 54 [.ref R, w1, .int v2, .int v3, w4, w5, w6, w7, w8, w9, w10] [.int (nI 0)] g = some (.inl none, g) := by
  rw [S_M_deedLine_54 hR, if_pos (by decide), if_pos (by decide), if_neg hf, T_M_after_f hR hf]
  simp only [zbd_i, tl_s]
  exact D127_f hR hf
theorem D47_f (hR : RSk g R) (hf : ¬ zI g R 12 = -1) {w3 : Value} : ev z d 204 47 [.ref R, w1, .int v2, w3, w4, w5, w6, w7, w8, w9, w10] [.int s0] g = some (.inl none, g) := by
  rw [S_M_deedLine_47 hR, T_M_expects_f hR hf]
  simp only [zbd_i, tl_s]
  exact D54_f hR hf
theorem D31_f (hR : RSk g R) (hf : ¬ zI g R 12 = -1) {w2 w3 : Value} (hw : zisL w1 = false) : ev z d 204 31 [.ref R, w1, w2, w3, w4, w5, w6, w7, w8, w9, w10] [.int s0] g = some (.inl none, g) := by
  rw [S_M_deedLine_31 hR hw, T_M_after_f hR hf]
  simp only [zbd_i, tl_s]
  exact D47_f hR hf
theorem T_M_adds (hR : RSk h R) (h5 : P 5 = nI nd) (h8 : nd < 8) {u0 u1 u2 u3 u4 u5 u6 : Int32} : ev z d 205 0 [.ref R, .int u0, .int u1, .int u2, .int u3, .int u4, .int u5, .int u6, zu] [] (aH (mH h R P) R a) = some (.inl none, aH (mH h R (addD P nd u0 u1 u2 u3 u4 u5 u6)) R a) := by
  rw [S_M_adds_0 (ar hR), am, h5, T_M_lays' hR (by omega)]
  simp only [zbd_i, tl_n]
  rw [S_M_adds_16 (ar hR), T_M_lays' hR (by omega)]
  simp only [zbd_i, tl_n]
  rw [S_M_adds_24 (ar hR), T_M_lays' hR (by omega)]
  simp only [zbd_i, tl_n]
  rw [S_M_adds_32 (ar hR), T_M_lays' hR (by omega)]
  simp only [zbd_i, tl_n]
  rw [S_M_adds_41 (ar hR), T_M_lays' hR (by omega)]
  simp only [zbd_i, tl_n]
  rw [S_M_adds_50 (ar hR), T_M_lays' hR (by omega)]
  simp only [zbd_i, tl_n]
  rw [S_M_adds_59 (ar hR), T_M_lays' hR (by omega)]
  simp only [zbd_i, tl_n]
  rw [S_M_adds_69 (ar hR), am, show (up (up (up (up (up (up (up P (45 + 12 * nd + 0) u0) (45 + 12 * nd + 1) u1) (45 + 12 * nd + 2) u2) (45 + 12 * nd + 3) u3) (45 + 12 * nd + 4) u4) (45 + 12 * nd + 5) u5) (45 + 12 * nd + 6) u6) 6 = P 6 from ((if_neg (by omega)).trans ((if_neg (by omega)).trans ((if_neg (by omega)).trans ((if_neg (by omega)).trans ((if_neg (by omega)).trans ((if_neg (by omega)).trans ((if_neg (by omega)).trans rfl))))))), T_M_lays' hR (by omega)]
  simp only [zbd_i, tl_n]
  rw [S_M_adds_84 (ar hR), T_M_lays' hR (by omega)]
  simp only [zbd_i, tl_n]
  rw [S_M_adds_93 (ar hR), T_M_lays' hR (by omega)]
  simp only [zbd_i, tl_n]
  rw [S_M_adds_102 (ar hR), T_M_lays' hR (by omega)]
  simp only [zbd_i, tl_n]
  rw [S_M_adds_111 (ar hR), T_M_lays' hR (by omega)]
  simp only [zbd_i, tl_n]
  rw [S_M_adds_120 (ar hR), am, show (up (up (up (up (up (up (up (up (up (up (up (up P (45 + 12 * nd + 0) u0) (45 + 12 * nd + 1) u1) (45 + 12 * nd + 2) u2) (45 + 12 * nd + 3) u3) (45 + 12 * nd + 4) u4) (45 + 12 * nd + 5) u5) (45 + 12 * nd + 6) u6) (45 + 12 * nd + 7) (P 6)) (45 + 12 * nd + 8) (nI 0)) (45 + 12 * nd + 9) (-1)) (45 + 12 * nd + 10) (nI 0)) (45 + 12 * nd + 11) (nI 0)) 5 = nI nd from ((if_neg (by omega)).trans ((if_neg (by omega)).trans ((if_neg (by omega)).trans ((if_neg (by omega)).trans ((if_neg (by omega)).trans ((if_neg (by omega)).trans ((if_neg (by omega)).trans ((if_neg (by omega)).trans ((if_neg (by omega)).trans ((if_neg (by omega)).trans ((if_neg (by omega)).trans ((if_neg (by omega)).trans h5)))))))))))), nI_add, m_w]
  rfl
theorem T_M_deedLine2 (M : MTt h R T E) (hf : zI h R 12 = -1) (hW : WA z h) (h5 : P 5 = nI nd) (h8 : nd < 8) (ha : a ≤ E) (hs : rn cS T E a = s) : LR h R T E P (zbd (ev z d 199 0 [.ref R, .ref (z.1 6), .int (nI 0), .int (nI 99)] [] (aH (mH h R P) R a)) (fun v h' => ev z d 204 127 [.ref R, w1, .int v2, .int v3, w4, w5, .int v6, w7, w8, w9, w10] (v.toList ++ []) h') (fun e h' => evx z d 204 124 [.ref R, w1, .int v2, .int v3, w4, w5, .int v6, w7, w8, w9, w10] e h')) (lDeed2 T E (P, np, ni, nd) v2 v3 v6 s) := by
  have hE := M.2.1
  have hf' : zI (mH h R P) R 12 = -1 := (m_o (by omega)).trans hf
  have W' := WA_m (P := P) hW M.1
  unfold lDeed2
  have := T_M_after (z := z) (d := d) (lo := nI 0) (hi := nI 99) (h := mH h R P) M.mM hf' (W' 6 (by decide)) (by decide) (by decide) ha hs
  revert this
  cases pA T E (wt 6) (nI 0) (nI 99) s with
  | inl e =>
    rintro ⟨v, a', g1, g2, g3⟩
    rw [g3]
    simp only [zbd_i, tl_s]
    rw [D127_f (fr M.1) (fH_f (by omega))]
    exact ⟨a', g1, g2, rfl⟩
  | inr q4 =>
    rintro ⟨a4, g1, g2, g3⟩
    rw [g3]
    simp only [zbd_i, tl_s]
    rw [S_M_deedLine_127 (ar M.1)]
    have := T_M_maybe (z := z) (d := d) (lo := nI 0) (hi := nI 20) (df := nI 0) (h := mH h R P) M.mM hf' (W' 7 (by decide)) (by decide) (by decide) g1 g2
    show LR h R T E P _ (pB (pM T E (wt 7) (nI 0) (nI 20) (nI 0) q4.2) _)
    revert this
    cases pM T E (wt 7) (nI 0) (nI 20) (nI 0) q4.2 with
    | inl e =>
      rintro ⟨v, a', k1, k2, k3⟩
      rw [k3]
      simp only [zbd_i, tl_s]
      rw [D139_f (fr M.1) (fH_f (by omega))]
      exact ⟨a', k1, k2, rfl⟩
    | inr q5 =>
      rintro ⟨a5, k1, k2, k3⟩
      rw [k3]
      simp only [zbd_i, tl_s]
      rw [S_M_deedLine_139 (ar M.1), am, h5]
      have := T_M_maybe (z := z) (d := d) (lo := nI 0) (hi := nI nd - nI 1) (df := -1) (h := mH h R P) M.mM hf' (W' 8 (by decide)) (by decide) (by decide) k1 k2
      show LR h R T E P _ (pB (pM T E (wt 8) (nI 0) (nI nd - nI 1) (-1) q5.2) _)
      revert this
      cases pM T E (wt 8) (nI 0) (nI nd - nI 1) (-1) q5.2 with
      | inl e =>
        rintro ⟨v, a', j1, j2, j3⟩
        rw [j3]
        simp only [zbd_i, tl_s]
        rw [D157_f (fr M.1) (fH_f (by omega))]
        exact ⟨a', j1, j2, rfl⟩
      | inr q6 =>
        rintro ⟨a6, j1, j2, j3⟩
        rw [j3]
        simp only [zbd_i, tl_s]
        rw [S_M_deedLine_157 (ar M.1), am, h5]
        have := T_M_maybe (z := z) (d := d) (lo := nI 0) (hi := nI nd - nI 1) (df := -1) (h := mH h R P) M.mM hf' (W' 9 (by decide)) (by decide) (by decide) j1 j2
        show LR h R T E P _ (pB (pM T E (wt 9) (nI 0) (nI nd - nI 1) (-1) q6.2) _)
        revert this
        cases pM T E (wt 9) (nI 0) (nI nd - nI 1) (-1) q6.2 with
        | inl e =>
          rintro ⟨v, a', i1, i2, i3⟩
          rw [i3]
          simp only [zbd_i, tl_s]
          rw [D175_f (fr M.1) (fH_f (by omega))]
          exact ⟨a', i1, i2, rfl⟩
        | inr q7 =>
          rintro ⟨a7, i1, i2, i3⟩
          rw [i3]
          simp only [zbd_i, tl_s]
          rw [S_M_deedLine_175 (ar M.1), if_pos (a12 hf), T_M_adds M.1 h5 h8]
          simp only [zbd_i, tl_n]
          rw [S_M_deedLine_201]
          exact ⟨a7, i1, i2, rfl⟩
theorem T_M_deedLine (M : MTt h R T E) (hf : zI h R 12 = -1) (hW : WA z h) (h3 : P 3 = nI np) (h4 : P 4 = nI ni) (h5 : P 5 = nI nd) (h8 : nd ≤ 8) (hs : s ≤ E) : LR h R T E P (ev z d 204 0 [.ref R, .int (nI s), zu, zu, zu, zu, zu, zu, zu, zu, zu] [] (aH (mH h R P) R (tkN T E s))) (lDeed T E (P, np, ni, nd) s) := by
  have hE := M.2.1
  have hf' : zI (mH h R P) R 12 = -1 := (m_o (by omega)).trans hf
  have W' := WA_m (P := P) hW M.1
  rw [S_M_deedLine_0 (ar M.1), am, am, h5, h4]
  unfold lDeed
  by_cases hc : nd = 8
  · subst hc
    have hw : ev z d 196 0 [.ref R, .int (nI s)] [] (aH (mH h R P) R (tkN T E s)) = some (.inl none, fH (mH h R P) R (tkN T E s) s) := T_M_wrong (ar M.1) (a12 hf)
    rw [if_pos rfl, if_pos rfl, hw]
    simp only [zbd_i, tl_n]
    rw [S_M_deedLine_16 (fr M.1), T_M_after_f (fr M.1) (fH_f (by omega))]
    simp only [zbd_i, tl_s]
    rw [D31_f (fr M.1) (fH_f (by omega)) zisL_i]
    exact ⟨_, tkN_le hs, hs, rfl⟩
  · rw [if_neg (fun q => hc ((nI_eq (by omega) (by decide)).mp q)), if_neg hc]
    have := T_M_after (z := z) (d := d) (lo := nI 0) (hi := nI ni - nI 1) (h := mH h R P) M.mM hf' (W' 3 (by decide)) (by decide) (by decide) (tkN_le hs) (show rn cS T E (tkN T E s) = adv T E s from rfl)
    show LR h R T E P _ (pB (pA T E (wt 3) (nI 0) (nI ni - nI 1) (adv T E s)) _)
    revert this
    cases pA T E (wt 3) (nI 0) (nI ni - nI 1) (adv T E s) with
    | inl e =>
      rintro ⟨v, a', g1, g2, g3⟩
      rw [g3]
      simp only [zbd_i, tl_s]
      rw [D31_f (fr M.1) (fH_f (by omega)) zisL_i]
      exact ⟨a', g1, g2, rfl⟩
    | inr q1 =>
      rintro ⟨a1, g1, g2, g3⟩
      rw [g3]
      simp only [zbd_i, tl_s]
      rw [S_M_deedLine_31 (ar M.1) zisL_i, am, h3]
      have := T_M_after (z := z) (d := d) (lo := nI 0) (hi := nI np - nI 1) (h := mH h R P) M.mM hf' (W' 4 (by decide)) (by decide) (by decide) g1 g2
      show LR h R T E P _ (pB (pA T E (wt 4) (nI 0) (nI np - nI 1) q1.2) _)
      revert this
      cases pA T E (wt 4) (nI 0) (nI np - nI 1) q1.2 with
      | inl e =>
        rintro ⟨v, a', k1, k2, k3⟩
        rw [k3]
        simp only [zbd_i, tl_s]
        rw [D47_f (fr M.1) (fH_f (by omega))]
        exact ⟨a', k1, k2, rfl⟩
      | inr q2 =>
        rintro ⟨a2, k1, k2, k3⟩
        rw [k3]
        simp only [zbd_i, tl_s]
        have h2E : q2.2 ≤ E := by rw [← k2]; exact rn_le k1
        rw [S_M_deedLine_47 (ar M.1), T_M_expects (h := mH h R P) M.mM hf' (W' 5 (by decide)) (by decide) k1 k2]
        show LR h R T E P _ (pB (pW T E (wt 5) q2.2) _)
        unfold pW
        by_cases hw : isW T E q2.2 (wt 5) = true
        · rw [if_pos hw, if_pos hw]
          simp only [zbd_i, tl_s]
          rw [S_M_deedLine_54 (ar M.1), if_neg (by decide), T_M_here (h := mH h R P) M.mM (by have := tkN_le (T := T) h2E; omega)]
          simp only [zbd_i, tl_s]
          show LR h R T E P _ (pB (pN T E (nI 0) (nI np - nI 1) (adv T E q2.2)) _)
          have h3E := adv_le (T := T) h2E
          have e3 : rn cS T E (tkN T E q2.2) = adv T E q2.2 := rfl
          have e4 : rn cS T E (adv T E q2.2) = adv T E q2.2 := rn_rn
          rw [e3, S_M_deedLine_65 (ar M.1), if_neg (by decide), am, h3]
          have := T_M_figures (z := z) (d := d) (lo := nI 0) (hi := nI np - nI 1) (h := mH h R P) M.mM hf' (by decide) h3E e4
          revert this
          cases pN T E (nI 0) (nI np - nI 1) (adv T E q2.2) with
          | inl e =>
            rintro ⟨v, a', j1, j2, j3⟩
            rw [j3]
            simp only [zbd_i, tl_s]
            rw [D92_f (fr M.1) (fH_f (by omega))]
            exact ⟨a', j1, j2, rfl⟩
          | inr q3 =>
            rintro ⟨a3, j1, j2, j3⟩
            rw [j3]
            simp only [zbd_i, tl_s]
            rw [S_M_deedLine_92 (ar M.1), if_pos (a12 hf)]
            show LR h R T E P _ (if q3.1 = q2.1 then .inl (adv T E q2.2) else lDeed2 T E (P, np, ni, nd) q1.1 q2.1 q3.1 q3.2)
            by_cases he : q3.1 = q2.1
            · rw [if_pos he, if_pos he]
              have hx : ev z d 196 0 [.ref R, .int (nI (adv T E q2.2))] [] (aH (mH h R P) R a3) = some (.inl none, fH (mH h R P) R a3 (adv T E q2.2)) := T_M_wrong (ar M.1) (a12 hf)
              rw [hx]
              simp only [zbd_i, tl_n]
              rw [D118_f (fr M.1) (fH_f (by omega))]
              exact ⟨a3, j1, h3E, rfl⟩
            · rw [if_neg he, if_neg he]
              exact T_M_deedLine2 M hf hW h5 (by omega) j1 j2
        · rw [if_neg hw, if_neg hw]
          simp only [zbd_i, tl_s]
          have := D54_f (z := z) (d := d) (g := fH (mH h R P) R q2.2 q2.2) (w1 := .int (nI s)) (v2 := q1.1) (v3 := q2.1) (w4 := zu) (w5 := zu) (w6 := zu) (w7 := zu) (w8 := zu) (w9 := zu) (w10 := zu) (fr M.1) (fH_f (by omega))
          rw [this]
          exact ⟨q2.2, h2E, h2E, rfl⟩
theorem T_M_dampLine (M : MTt h R T E) (hf : zI h R 12 = -1) (hW : WA z h) (S : Nat × Nat × Nat) (ha : a ≤ E) (hs : rn cS T E a = s) : LR h R T E P (ev z d 206 0 [.ref R, zu, zu] [] (aH (mH h R P) R a)) (lDamp T E (P, S) s) := by
  have hE := M.2.1
  have hf' : zI (mH h R P) R 12 = -1 := (m_o (by omega)).trans hf
  have W' := WA_m (P := P) hW M.1
  have hsE : s ≤ E := by rw [← hs]; exact rn_le ha
  have hss : rn cS T E s = s := by rw [← hs]; exact rn_rn
  have tl : ∀ k, k < 4 → LR h R T E P (zbd (ev z d 198 0 [.ref R, .int (nI 0), .int (nI 9), zu, zu] [] (aH (mH h R P) R (tkN T E s))) (fun v h' => ev z d 206 74 [.ref R, .int (nI k), zu] (v.toList ++ []) h') (fun e h' => evx z d 206 71 [.ref R, .int (nI k), zu] e h')) (lTell T E (P, S) (11 + k) (nI 9) (adv T E s)) := by
    intro k hk
    unfold lTell
    have := T_M_figures (z := z) (d := d) (lo := nI 0) (hi := nI 9) (h := mH h R P) M.mM hf' (by decide) (tkN_le hsE) (show rn cS T E (tkN T E s) = adv T E s from rfl)
    revert this
    cases pN T E (nI 0) (nI 9) (adv T E s) with
    | inl e =>
      rintro ⟨v, a', g1, g2, g3⟩
      rw [g3]
      simp only [zbd_i, tl_s]
      rw [S_M_dampLine_74 (fr M.1), if_neg (fH_f (by omega))]
      exact ⟨a', g1, g2, rfl⟩
    | inr q =>
      rintro ⟨a', g1, g2, g3⟩
      rw [g3]
      simp only [zbd_i, tl_s]
      rw [S_M_dampLine_74 (ar M.1), if_pos (a12 hf), nI_add, ix_n (by omega) (by decide), m_w]
      exact ⟨a', g1, g2, rfl⟩
  rw [S_M_dampLine_0 (ar M.1), T_M_has (h := mH h R P) M.mM (W' 10 (by decide)) (by decide) ha hs]
  unfold lDamp
  by_cases c0 : isW T E s (wt 10) = true
  · rw [if_pos c0, if_pos c0]
    simp only [zbd_i, tl_s]
    rw [S_M_dampLine_6 (ar M.1), if_neg (by decide), if_neg (by decide)]
    exact tl 0 (by decide)
  · rw [if_neg c0, if_neg c0]
    simp only [zbd_i, tl_s]
    rw [S_M_dampLine_6 (ar M.1), if_pos (by decide), T_M_has (h := mH h R P) M.mM (W' 11 (by decide)) (by decide) hsE hss]
    by_cases c1 : isW T E s (wt 11) = true
    · rw [if_pos c1, if_pos c1]
      simp only [zbd_i, tl_s]
      rw [S_M_dampLine_19 (ar M.1), if_neg (by decide), if_neg (by decide)]
      exact tl 1 (by decide)
    · rw [if_neg c1, if_neg c1]
      simp only [zbd_i, tl_s]
      rw [S_M_dampLine_19 (ar M.1), if_pos (by decide), T_M_has (h := mH h R P) M.mM (W' 12 (by decide)) (by decide) hsE hss]
      by_cases c2 : isW T E s (wt 12) = true
      · rw [if_pos c2, if_pos c2]
        simp only [zbd_i, tl_s]
        rw [S_M_dampLine_32 (ar M.1), if_neg (by decide), if_neg (by decide)]
        exact tl 2 (by decide)
      · rw [if_neg c2, if_neg c2]
        simp only [zbd_i, tl_s]
        rw [S_M_dampLine_32 (ar M.1), if_pos (by decide), T_M_has (h := mH h R P) M.mM (W' 13 (by decide)) (by decide) hsE hss]
        by_cases c3 : isW T E s (wt 13) = true
        · rw [if_pos c3, if_pos c3]
          simp only [zbd_i, tl_s]
          rw [S_M_dampLine_45 (ar M.1), if_neg (by decide), if_neg (by decide)]
          exact tl 3 (by decide)
        · rw [if_neg c3, if_neg c3]
          simp only [zbd_i, tl_s]
          have hx : ev z d 196 0 [.ref R, .int (nI s)] [] (aH (mH h R P) R s) = some (.inl none, fH (mH h R P) R s s) := T_M_wrong (ar M.1) (a12 hf)
          rw [S_M_dampLine_45 (ar M.1), if_pos (by decide), if_pos rfl, T_M_here (h := mH h R P) M.mM (by omega), hss]
          simp only [zbd_i, tl_s]
          rw [S_M_dampLine_64 (ar M.1), hx]
          simp only [zbd_i, tl_n]
          rw [S_M_dampLine_67 (fr M.1), T_M_figures_f (fr M.1) (fH_f (by omega))]
          simp only [zbd_i, tl_s]
          rw [S_M_dampLine_74 (fr M.1), if_neg (fH_f (by omega))]
          exact ⟨s, hsE, hsE, rfl⟩
end
