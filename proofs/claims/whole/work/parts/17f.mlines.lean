/-! TEXTS: lines of a port, as the reference reads them -/
abbrev Row : Type := Nat → Int32
def up (P : Row) (k : Nat) (v : Int32) : Row := fun i => if i = k then v else P i
abbrev PSt : Type := Row × Nat × Nat × Nat
def wt (q : Nat) : List Nat := ztx.getD q []
def WA (z : ZE) (h : Hp) : Prop := ∀ q, q < 65 → WSk h (z.1 q) (wt q)
def lParty (T : Row) (E : Nat) (S : PSt) (s : Nat) : Nat ⊕ (PSt × Nat) := if S.2.1 = 6 then .inl s else pB (pN T E (nI 0) (nI 999) (adv T E s)) (fun q => .inr ((up (up (up S.1 (15 + 2 * S.2.1) q.1) (15 + 2 * S.2.1 + 1) (nI 0)) 3 (nI (S.2.1 + 1)), S.2.1 + 1, S.2.2.1, S.2.2.2), q.2))
def addI (P : Row) (ni : Nat) (v0 v1 v2 : Int32) : Row := up (up (up (up P (27 + 3 * ni + 0) v0) (27 + 3 * ni + 1) v1) (27 + 3 * ni + 2) v2) 4 (nI (ni + 1))
def lInk (T : Row) (E : Nat) (S : PSt) (s : Nat) : Nat ⊕ (PSt × Nat) := if S.2.2.1 = 6 then .inl s else pB (pA T E (wt 0) (nI 1) (nI 99) (adv T E s)) (fun q1 => pB (pM T E (wt 1) (nI 0) (nI 99) (nI 0) q1.2) (fun q2 => pB (pM T E (wt 2) (nI 0) (nI 9) (nI 0) q2.2) (fun q3 => .inr ((addI S.1 S.2.2.1 q1.1 q2.1 q3.1, S.2.1, S.2.2.1 + 1, S.2.2.2), q3.2))))
def addD (P : Row) (nd : Nat) (v0 v1 v2 v3 v4 v5 v6 : Int32) : Row := up (up (up (up (up (up (up (up (up (up (up (up (up P (45 + 12 * nd + 0) v0) (45 + 12 * nd + 1) v1) (45 + 12 * nd + 2) v2) (45 + 12 * nd + 3) v3) (45 + 12 * nd + 4) v4) (45 + 12 * nd + 5) v5) (45 + 12 * nd + 6) v6) (45 + 12 * nd + 7) (P 6)) (45 + 12 * nd + 8) (nI 0)) (45 + 12 * nd + 9) (-1)) (45 + 12 * nd + 10) (nI 0)) (45 + 12 * nd + 11) (nI 0)) 5 (nI (nd + 1))
def lDeed2 (T : Row) (E : Nat) (S : PSt) (v0 v1 v2 : Int32) (s : Nat) : Nat ⊕ (PSt × Nat) := pB (pA T E (wt 6) (nI 0) (nI 99) s) (fun q4 => pB (pM T E (wt 7) (nI 0) (nI 20) (nI 0) q4.2) (fun q5 => pB (pM T E (wt 8) (nI 0) (nI S.2.2.2 - nI 1) (-1) q5.2) (fun q6 => pB (pM T E (wt 9) (nI 0) (nI S.2.2.2 - nI 1) (-1) q6.2) (fun q7 => .inr ((addD S.1 S.2.2.2 v0 v1 v2 q4.1 q5.1 q6.1 q7.1, S.2.1, S.2.2.1, S.2.2.2 + 1), q7.2)))))
def lDeed (T : Row) (E : Nat) (S : PSt) (s : Nat) : Nat ⊕ (PSt × Nat) := if S.2.2.2 = 8 then .inl s else pB (pA T E (wt 3) (nI 0) (nI S.2.2.1 - nI 1) (adv T E s)) (fun q1 => pB (pA T E (wt 4) (nI 0) (nI S.2.1 - nI 1) q1.2) (fun q2 => pB (pW T E (wt 5) q2.2) (fun s3 => pB (pN T E (nI 0) (nI S.2.1 - nI 1) s3) (fun q3 => if q3.1 = q2.1 then .inl s3 else lDeed2 T E S q1.1 q2.1 q3.1 q3.2))))
def lTell (T : Row) (E : Nat) (S : PSt) (k : Nat) (hi : Int32) (s : Nat) : Nat ⊕ (PSt × Nat) := pB (pN T E (nI 0) hi s) (fun q => .inr ((up S.1 k q.1, S.2), q.2))
def lDamp (T : Row) (E : Nat) (S : PSt) (s : Nat) : Nat ⊕ (PSt × Nat) := if isW T E s (wt 10) = true then lTell T E S (11 + 0) (nI 9) (adv T E s) else if isW T E s (wt 11) = true then lTell T E S (11 + 1) (nI 9) (adv T E s) else if isW T E s (wt 12) = true then lTell T E S (11 + 2) (nI 9) (adv T E s) else if isW T E s (wt 13) = true then lTell T E S (11 + 3) (nI 9) (adv T E s) else .inl s
def lLine (T : Row) (E : Nat) (S : PSt) (s : Nat) : Nat ⊕ (PSt × Nat) := if isW T E s (wt 14) = true then lParty T E S s else if isW T E s (wt 3) = true then lInk T E S s else if isW T E s (wt 15) = true then lDeed T E S s else if isW T E s (wt 16) = true then lDamp T E S (adv T E s) else if isW T E s (wt 17) = true then lTell T E S 7 (nI 9) (adv T E s) else if isW T E s (wt 18) = true then lTell T E S 8 (nI 100) (adv T E s) else if isW T E s (wt 19) = true then (if S.2.2.2 = 0 then lTell T E S 6 (nI 999) (adv T E s) else .inl s) else .inl s
def mH (h : Hp) (R : Nat) (P : Row) : Hp := hI h (fun x y => if x = R + 1 then P y else zI h x y)
/-- the reference at a text of its tape -/
def MTt (h : Hp) (R : Nat) (T : Row) (E : Nat) : Prop := RSk h R ∧ E ≤ 400 ∧ zI h R 10 = nI E ∧ zI h R 9 = -1 ∧ ∀ k, k < E → zI h (R + 5) k = T k
def LR (h : Hp) (R : Nat) (T : Row) (E : Nat) (P : Row) (o : Option (zO × Hp)) (x : Nat ⊕ (PSt × Nat)) : Prop := match x with
  | .inr (S, s') => ∃ a, a ≤ E ∧ rn cS T E a = s' ∧ o = some (.inl none, aH (mH h R S.1) R a)
  | .inl e => ∃ a, a ≤ E ∧ e ≤ E ∧ o = some (.inl none, fH (mH h R P) R a e)
section
variable {z : ZE} {d : Nat} {h : Hp} {R E a s w : Nat} {T P : Row} {tx : List Nat} {lo hi : Int32} {np ni nd : Nat}
theorem m_1 : zI (mH h R P) (R + 1) = P := funext fun y => if_pos rfl
theorem m_o {x y : Nat} (hx : x ≠ R + 1) : zI (mH h R P) x y = zI h x y := if_neg hx
theorem mH_mH {Q : Row} : mH (mH h R P) R Q = mH h R Q := hI_ext (h := h) (f := fun x y => if x = R + 1 then Q y else zI (mH h R P) x y) (fun x y => by
  by_cases hx : x = R + 1
  · rw [if_pos hx, if_pos hx]
  · rw [if_neg hx, if_neg hx, m_o hx])
theorem m_w {k : Nat} {v : Int32} : zwI (aH (mH h R P) R a) (R + 1) k v = aH (mH h R (up P k v)) R a := by
  unfold aH mH
  simp only [zw_hI, hIhI, zIhI]
  refine hI_ext (fun x y => ?_)
  unfold zup up
  by_cases hx : x = R + 1
  · subst hx
    by_cases hy : y = k
    · simp [hy]
    · simp [hy]
  · simp [hx]
theorem MTt.m (M : MTt h R T E) : MTt (mH h R P) R T E := ⟨M.1, M.2.1, (m_o (by omega)).trans M.2.2.1, (m_o (by omega)).trans M.2.2.2.1, fun k hk => (m_o (by omega)).trans (M.2.2.2.2 k hk)⟩
theorem MTt.M (M : MTt h R T E) : MT h R T E := ⟨M.1, M.2.1, M.2.2.1, Or.inl ⟨M.2.2.2.1, M.2.2.2.2⟩⟩
theorem MTt.mM (M : MTt h R T E) : MT (mH h R P) R T E := M.m.M
theorem WSk_m (W : WSk h w tx) (hk : zK h (R + 1) = 20) : WSk (mH h R P) w tx := by
  obtain ⟨k, q, hr, h1, hv, hn, hl, hm, ht⟩ := W
  have hw : w ≠ R + 1 := fun e => by rw [e, hk] at k; cases k
  have hv2 : q ≠ R + 1 := fun e => by rw [e, hk] at hv; cases hv
  exact ⟨k, q, hr, (m_o hw).trans h1, hv, hn, hl, hm, fun j hj => ⟨(ht j hj).1, (m_o hv2).trans (ht j hj).2⟩⟩
theorem WA_m (hW : WA z h) (hR : RSk h R) : WA z (mH h R P) := fun q hq => WSk_m (hW q hq) (RSk_k1 hR)
theorem am {k : Nat} : zI (aH (mH h R P) R a) (R + 1) k = P k := (zI_wb (by omega)).trans (congrFun m_1 k)
theorem fm {k e : Nat} : zI (fH (mH h R P) R a e) (R + 1) k = P k := (zI_wb (by omega)).trans am
theorem ar (hR : RSk h R) : RSk (aH (mH h R P) R a) R := RSk_w (h := mH h R P) hR
theorem fr {e : Nat} (hR : RSk h R) : RSk (fH (mH h R P) R a e) R := RSk_w (ar hR)
theorem a12 (hf : zI h R 12 = -1) : zI (aH (mH h R P) R a) R 12 = -1 := (aj (by decide)).trans ((m_o (by omega)).trans hf)
theorem T_M_lays' (hR : RSk h R) {k c : Nat} {v : Int32} (hk : 45 + 12 * k + c < 781) : ev z d 180 0 [.ref R, .int (nI k), .int (nI c), .int v] [] (aH (mH h R P) R a) = some (.inl none, aH (mH h R (up P (45 + 12 * k + c) v)) R a) := by
  rw [T_M_lays (ar hR) hk, m_w]
theorem T_M_partyLine (M : MTt h R T E) (hf : zI h R 12 = -1) (h3 : P 3 = nI np) (h6 : np ≤ 6) (hs : s ≤ E) (h1 : s < E) : LR h R T E P (ev z d 200 0 [.ref R, .int (nI s), zu] [] (aH (mH h R P) R (tkN T E s))) (lParty T E (P, np, ni, nd) s) := by
  have hE := M.2.1
  rw [S_M_partyLine_0 (ar M.1), am, h3]
  unfold lParty
  by_cases hc : np = 6
  · subst hc
    have hw : ev z d 196 0 [.ref R, .int (nI s)] [] (aH (mH h R P) R (tkN T E s)) = some (.inl none, fH (mH h R P) R (tkN T E s) s) := T_M_wrong (ar M.1) (a12 hf)
    rw [if_pos rfl, if_pos rfl, hw]
    simp only [zbd_i, tl_n]
    rw [S_M_partyLine_16 (fr M.1), T_M_figures_f (fr M.1) (fH_f (by omega))]
    simp only [zbd_i, tl_s]
    rw [S_M_partyLine_24 (fr M.1) zisL_i, if_neg (fH_f (by omega))]
    exact ⟨_, tkN_le hs, hs, rfl⟩
  · rw [if_neg (fun q => hc ((nI_eq (by omega) (by decide)).mp q)), if_neg hc]
    have := T_M_figures (z := z) (d := d) (lo := nI 0) (hi := nI 999) (h := mH h R P) M.mM ((m_o (by omega)).trans hf) (by decide) (tkN_le hs) (show rn cS T E (tkN T E s) = adv T E s from rfl)
    revert this
    cases pN T E (nI 0) (nI 999) (adv T E s) with
    | inl e =>
      rintro ⟨v, a', g1, g2, g3⟩
      rw [g3]
      simp only [zbd_i, tl_s]
      rw [S_M_partyLine_24 (fr M.1) zisL_i, if_neg (fH_f (by omega))]
      exact ⟨a', g1, g2, rfl⟩
    | inr q =>
      rintro ⟨a', g1, g2, g3⟩
      rw [g3]
      simp only [zbd_i, tl_s]
      rw [S_M_partyLine_24 (ar M.1) zisL_i, if_pos (a12 hf), am, h3, pk_mul, nI_add, ix_n (by omega) (by decide), m_w, am, show up P (15 + 2 * np) q.1 3 = nI np from (if_neg (by omega)).trans h3, pk_mul, nI_add, nI_add, ix_n (by omega) (by decide), m_w, am, show up (up P (15 + 2 * np) q.1) (15 + 2 * np + 1) (nI 0) 3 = nI np from (if_neg (by omega)).trans ((if_neg (by omega)).trans h3), nI_add, m_w]
      exact ⟨a', g1, g2, rfl⟩
theorem T_M_tells (M : MTt h R T E) (hf : zI h R 12 = -1) {k : Nat} (hk : k < 781) (S : Nat × Nat × Nat) (ha : a ≤ E) (hs : rn cS T E a = s) : LR h R T E P (ev z d 207 0 [.ref R, .int (nI k), .int (nI 0), .int hi, zu] [] (aH (mH h R P) R a)) (lTell T E (P, S) k hi s) := by
  have hE := M.2.1
  rw [S_M_tells_0 (ar M.1)]
  unfold lTell
  have := T_M_figures (z := z) (d := d) (lo := nI 0) (hi := hi) (h := mH h R P) M.mM ((m_o (by omega)).trans hf) (by decide) ha hs
  revert this
  cases pN T E (nI 0) hi s with
  | inl e =>
    rintro ⟨v, a', g1, g2, g3⟩
    rw [g3]
    simp only [zbd_i, tl_s]
    rw [S_M_tells_6 (fr M.1) zisL_i, if_neg (fH_f (by omega))]
    exact ⟨a', g1, g2, rfl⟩
  | inr q =>
    rintro ⟨a', g1, g2, g3⟩
    rw [g3]
    simp only [zbd_i, tl_s]
    rw [S_M_tells_6 (ar M.1) zisL_i, if_pos (a12 hf), ix_n hk (by decide), m_w]
    exact ⟨a', g1, g2, rfl⟩
theorem T_M_inkLine (M : MTt h R T E) (hf : zI h R 12 = -1) (hW : WA z h) (h4 : P 4 = nI ni) (h6 : ni ≤ 6) (hs : s ≤ E) : LR h R T E P (ev z d 202 0 [.ref R, .int (nI s), zu, zu, zu, zu] [] (aH (mH h R P) R (tkN T E s))) (lInk T E (P, np, ni, nd) s) := by
  have hE := M.2.1
  have hf' : zI (mH h R P) R 12 = -1 := (m_o (by omega)).trans hf
  have W' := WA_m (P := P) hW M.1
  rw [S_M_inkLine_0 (ar M.1), am, h4]
  unfold lInk
  have fin : ∀ {a' e : Nat} {w1 w2 w3 w4 w5 : Value} {v : Int32}, zisL w1 = false → a' ≤ E → e ≤ E → LR h R T E P (ev z d 202 25 [.ref R, w1, w2, w3, w4, w5] [.int v] (fH (mH h R P) R a' e)) (.inl e) := by
    intro a' e w1 w2 w3 w4 w5 v hw ha' he
    rw [S_M_inkLine_25 (fr M.1) hw, T_M_maybe_f (fr M.1) (fH_f (by omega))]
    simp only [zbd_i, tl_s]
    rw [S_M_inkLine_36 (fr M.1), T_M_maybe_f (fr M.1) (fH_f (by omega))]
    simp only [zbd_i, tl_s]
    rw [S_M_inkLine_47 (fr M.1), if_neg (fH_f (by omega))]
    exact ⟨a', ha', he, rfl⟩
  by_cases hc : ni = 6
  · subst hc
    have hw : ev z d 196 0 [.ref R, .int (nI s)] [] (aH (mH h R P) R (tkN T E s)) = some (.inl none, fH (mH h R P) R (tkN T E s) s) := T_M_wrong (ar M.1) (a12 hf)
    rw [if_pos rfl, if_pos rfl, hw]
    simp only [zbd_i, tl_n]
    rw [S_M_inkLine_16 (fr M.1), T_M_after_f (fr M.1) (fH_f (by omega))]
    simp only [zbd_i, tl_s]
    exact fin zisL_i (tkN_le hs) hs
  · rw [if_neg (fun q => hc ((nI_eq (by omega) (by decide)).mp q)), if_neg hc]
    have := T_M_after (z := z) (d := d) (lo := nI 1) (hi := nI 99) (h := mH h R P) M.mM hf' (W' 0 (by decide)) (by decide) (by decide) (tkN_le hs) (show rn cS T E (tkN T E s) = adv T E s from rfl)
    revert this
    cases pA T E (wt 0) (nI 1) (nI 99) (adv T E s) with
    | inl e =>
      rintro ⟨v, a', g1, g2, g3⟩
      rw [g3]
      simp only [zbd_i, tl_s]
      exact fin zisL_i g1 g2
    | inr q1 =>
      rintro ⟨a1, g1, g2, g3⟩
      rw [g3]
      simp only [zbd_i, tl_s]
      rw [S_M_inkLine_25 (ar M.1) zisL_i]
      have := T_M_maybe (z := z) (d := d) (lo := nI 0) (hi := nI 99) (df := nI 0) (h := mH h R P) M.mM hf' (W' 1 (by decide)) (by decide) (by decide) g1 g2
      show LR h R T E P _ (pB (pM T E (wt 1) (nI 0) (nI 99) (nI 0) q1.2) _)
      revert this
      cases pM T E (wt 1) (nI 0) (nI 99) (nI 0) q1.2 with
      | inl e =>
        rintro ⟨v, a', k1, k2, k3⟩
        rw [k3]
        simp only [zbd_i, tl_s]
        rw [S_M_inkLine_36 (fr M.1), T_M_maybe_f (fr M.1) (fH_f (by omega))]
        simp only [zbd_i, tl_s]
        rw [S_M_inkLine_47 (fr M.1), if_neg (fH_f (by omega))]
        exact ⟨a', k1, k2, rfl⟩
      | inr q2 =>
        rintro ⟨a2, k1, k2, k3⟩
        rw [k3]
        simp only [zbd_i, tl_s]
        rw [S_M_inkLine_36 (ar M.1)]
        have := T_M_maybe (z := z) (d := d) (lo := nI 0) (hi := nI 9) (df := nI 0) (h := mH h R P) M.mM hf' (W' 2 (by decide)) (by decide) (by decide) k1 k2
        show LR h R T E P _ (pB (pM T E (wt 2) (nI 0) (nI 9) (nI 0) q2.2) _)
        revert this
        cases pM T E (wt 2) (nI 0) (nI 9) (nI 0) q2.2 with
        | inl e =>
          rintro ⟨v, a', j1, j2, j3⟩
          rw [j3]
          simp only [zbd_i, tl_s]
          rw [S_M_inkLine_47 (fr M.1), if_neg (fH_f (by omega))]
          exact ⟨a', j1, j2, rfl⟩
        | inr q3 =>
          rintro ⟨a3, j1, j2, j3⟩
          rw [j3]
          simp only [zbd_i, tl_s]
          rw [S_M_inkLine_47 (ar M.1), if_pos (a12 hf), am, h4, pk_mul, nI_add, nI_add, nI_add, nI_add, ix_n (by omega) (by decide), ix_n (by omega) (by decide), ix_n (by omega) (by decide), m_w, m_w, m_w, am, show up (up (up P (27 + 3 * ni + 0) q1.1) (27 + 3 * ni + 1) q2.1) (27 + 3 * ni + 2) q3.1 4 = nI ni from (if_neg (by omega)).trans ((if_neg (by omega)).trans ((if_neg (by omega)).trans h4)), nI_add, m_w]
          exact ⟨a3, j1, j2, rfl⟩
end
