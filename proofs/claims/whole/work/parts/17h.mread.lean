/-! TEXTS: a line, and all lines, of a port, as the reference reads them -/
theorem isN_nI {T : Row} {E s l m : Nat} (h : isN T E s (nI l) (nI m) = true) (hl : l < 2 ^ 31) (hm : m < 2 ^ 31) : ∃ k, l ≤ k ∧ k ≤ m ∧ tkV T E s = nI k := by
  unfold isN at h
  obtain ⟨-, h1, h2⟩ := of_decide_eq_true h
  have h0 : ¬ tkV T E s < 0 := Int32.not_lt.mpr (Int32.le_trans (Int32.not_lt.mp (nI_pos hl)) h1)
  obtain ⟨k, hk, e⟩ := nI_of h0
  rw [e] at h1 h2 ⊢
  refine ⟨k, ?_, ?_, rfl⟩
  · rcases Nat.lt_or_ge k l with q | q
    · exact absurd h1 (nI_ge q hl)
    · exact q
  · rcases Nat.lt_or_ge m k with q | q
    · exact absurd h2 (nI_ge q hk)
    · exact q
theorem isN_m1 {T : Row} {E s n : Nat} (h : isN T E s (nI 0) (nI n - nI 1) = true) (hn : n < 2 ^ 31) : ∃ k, k < n ∧ tkV T E s = nI k := by
  unfold isN at h
  obtain ⟨-, h1, h2⟩ := of_decide_eq_true h
  exact (inR_iff hn).mp ((isin_R hn).mp ⟨h1, h2⟩)
def OkE (P : Row) (nd : Nat) : Prop := ∀ i, i < nd → (∃ k, k ≤ 99 ∧ P (45 + 12 * i + 3) = nI k) ∧ (∃ k, k ≤ 20 ∧ P (45 + 12 * i + 4) = nI k) ∧ (∃ k, k ≤ 9999 ∧ P (45 + 12 * i + 7) = nI k) ∧ (∃ k, k ≤ 999 ∧ P (45 + 12 * i + 8) = nI k) ∧ (P (45 + 12 * i + 9) = -1 ∨ ∃ k, k ≤ 9999 ∧ P (45 + 12 * i + 9) = nI k) ∧ (∃ k, k ≤ 3 ∧ P (45 + 12 * i + 10) = nI k) ∧ P (45 + 12 * i + 1) ≠ P (45 + 12 * i + 2)
def OkS (P : Row) : Prop := (∃ t, t ≤ 9999 ∧ P 6 = nI t) ∧ (∃ k, k ≤ 9 ∧ P 7 = nI k) ∧ (∃ k, k ≤ 100 ∧ P 8 = nI k) ∧ (∃ k, k ≤ 60 ∧ P 9 = nI k) ∧ ∃ k, k ≤ 12 ∧ P 0 = nI k
def Ok (S : PSt) : Prop := (S.1 3 = nI S.2.1 ∧ S.1 4 = nI S.2.2.1 ∧ S.1 5 = nI S.2.2.2 ∧ S.2.1 ≤ 6 ∧ S.2.2.1 ≤ 6 ∧ S.2.2.2 ≤ 8) ∧ OkD S.1 S.2.1 S.2.2.1 S.2.2.2 ∧ OkE S.1 S.2.2.2 ∧ OkP S.1 S.2.1 ∧ OkI S.1 S.2.2.1 ∧ OkS S.1
/-- lines, one behind another -/
def rdL (T : Row) (E : Nat) : Nat → PSt → Nat → Nat ⊕ PSt
  | 0, _, s => .inl s
  | n + 1, S, s => pB (lLine T E S s) (fun q => if q.2 < E then (if isS T E q.2 (nI 59) = true then rdL T E n q.1 (adv T E q.2) else .inl q.2) else .inr q.1)
def rdP (T : Row) (E : Nat) (S : PSt) : Nat ⊕ PSt := if rn cS T E 0 < E then rdL T E 14 S (rn cS T E 0) else .inr S
theorem isS_iff {T : Row} {E s : Nat} {c : Int32} (h1 : cL c = false) (h2 : cD c = false) : isS T E s c = true ↔ s < E ∧ T s = c := by
  unfold isS
  rw [decide_eq_true_eq]
  unfold tkK
  constructor
  · intro ⟨q1, q2⟩
    by_cases hs : s < E
    · exact ⟨hs, q2⟩
    · rw [if_neg hs] at q1; exact absurd q1 (by decide)
  · intro ⟨q1, q2⟩
    rw [if_pos q1, q2, h1, h2]
    exact ⟨rfl, rfl⟩
section
variable {z : ZE} {d : Nat} {h g : Hp} {R E a s w : Nat} {T P : Row} {np ni nd : Nat}
theorem LR_k {o : Option (zO × Hp)} {x : Nat ⊕ (PSt × Nat)} {F : Option Value → Hp → Option (zO × Hp)} {G : Nat → Hp → Option (zO × Hp)} (H : LR h R T E P o x) (hF : ∀ g, F none g = some (.inl none, g)) : LR h R T E P (zbd o F G) x := by
  revert H
  cases x with
  | inl e =>
    rintro ⟨a', g1, g2, g3⟩
    rw [g3, zbd_i, hF]
    exact ⟨a', g1, g2, rfl⟩
  | inr q =>
    rintro ⟨a', g1, g2, g3⟩
    rw [g3, zbd_i, hF]
    exact ⟨a', g1, g2, rfl⟩
theorem T_M_tells_f (hR : RSk g R) (hf : ¬ zI g R 12 = -1) {k lo hi : Int32} : ev z d 207 0 [.ref R, .int k, .int lo, .int hi, zu] [] g = some (.inl none, g) := by
  rw [S_M_tells_0 hR, T_M_figures_f hR hf]
  simp only [zbd_i, tl_s]
  rw [S_M_tells_6 hR zisL_i, if_neg hf]
theorem T_M_portLine (M : MTt h R T E) (hf : zI h R 12 = -1) (hW : WA z h) (h3 : P 3 = nI np) (h4 : P 4 = nI ni) (h5 : P 5 = nI nd) (l6 : np ≤ 6) (l7 : ni ≤ 6) (l8 : nd ≤ 8) (ha : a ≤ E) (hs : rn cS T E a = s) : LR h R T E P (ev z d 208 0 [.ref R, zu] [] (aH (mH h R P) R a)) (lLine T E (P, np, ni, nd) s) := by
  have hE := M.2.1
  have hf' : zI (mH h R P) R 12 = -1 := (m_o (by omega)).trans hf
  have W' := WA_m (P := P) hW M.1
  have hsE : s ≤ E := by rw [← hs]; exact rn_le ha
  have hss : rn cS T E s = s := by rw [← hs]; exact rn_rn
  have hat : rn cS T E (tkN T E s) = adv T E s := rfl
  rw [S_M_portLine_0 (ar M.1), T_M_here (h := mH h R P) M.mM (by omega), hs]
  simp only [zbd_i, tl_s]
  rw [S_M_portLine_4 (ar M.1), T_M_has (h := mH h R P) M.mM (W' 14 (by decide)) (by decide) hsE hss]
  unfold lLine
  by_cases c0 : isW T E s (wt 14) = true
  · rw [if_pos c0, if_pos c0]
    simp only [zbd_i, tl_s]
    rw [S_M_portLine_11 (ar M.1), if_neg (by decide)]
    have h1 : s < E := by unfold isW at c0; exact (of_decide_eq_true (Bool.and_eq_true_iff.mp c0).1).1
    exact LR_k (T_M_partyLine M hf h3 l6 hsE h1) (fun g => S_M_portLine_19)
  · rw [if_neg c0, if_neg c0]
    simp only [zbd_i, tl_s]
    rw [S_M_portLine_11 (ar M.1), if_pos (by decide), T_M_has (h := mH h R P) M.mM (W' 3 (by decide)) (by decide) hsE hss]
    by_cases c1 : isW T E s (wt 3) = true
    · rw [if_pos c1, if_pos c1]
      simp only [zbd_i, tl_s]
      rw [S_M_portLine_28 (ar M.1), if_neg (by decide)]
      exact LR_k (T_M_inkLine M hf hW h4 l7 hsE) (fun g => S_M_portLine_36)
    · rw [if_neg c1, if_neg c1]
      simp only [zbd_i, tl_s]
      rw [S_M_portLine_28 (ar M.1), if_pos (by decide), T_M_has (h := mH h R P) M.mM (W' 15 (by decide)) (by decide) hsE hss]
      by_cases c2 : isW T E s (wt 15) = true
      · rw [if_pos c2, if_pos c2]
        simp only [zbd_i, tl_s]
        rw [S_M_portLine_45 (ar M.1), if_neg (by decide)]
        exact LR_k (T_M_deedLine M hf hW h3 h4 h5 l8 hsE) (fun g => S_M_portLine_53)
      · rw [if_neg c2, if_neg c2]
        simp only [zbd_i, tl_s]
        rw [S_M_portLine_45 (ar M.1), if_pos (by decide), T_M_has (h := mH h R P) M.mM (W' 16 (by decide)) (by decide) hsE hss]
        by_cases c3 : isW T E s (wt 16) = true
        · rw [if_pos c3, if_pos c3]
          simp only [zbd_i, tl_s]
          rw [S_M_portLine_62 (ar M.1), if_neg (by decide)]
          exact LR_k (T_M_dampLine M hf hW _ (tkN_le hsE) hat) (fun g => S_M_portLine_69)
        · rw [if_neg c3, if_neg c3]
          simp only [zbd_i, tl_s]
          rw [S_M_portLine_62 (ar M.1), if_pos (by decide), T_M_has (h := mH h R P) M.mM (W' 17 (by decide)) (by decide) hsE hss]
          by_cases c4 : isW T E s (wt 17) = true
          · rw [if_pos c4, if_pos c4]
            simp only [zbd_i, tl_s]
            rw [S_M_portLine_78 (ar M.1), if_neg (by decide)]
            exact LR_k (T_M_tells M hf (by decide) _ (tkN_le hsE) hat) (fun g => S_M_portLine_90)
          · rw [if_neg c4, if_neg c4]
            simp only [zbd_i, tl_s]
            rw [S_M_portLine_78 (ar M.1), if_pos (by decide), T_M_has (h := mH h R P) M.mM (W' 18 (by decide)) (by decide) hsE hss]
            by_cases c5 : isW T E s (wt 18) = true
            · rw [if_pos c5, if_pos c5]
              simp only [zbd_i, tl_s]
              rw [S_M_portLine_99 (ar M.1), if_neg (by decide)]
              exact LR_k (T_M_tells M hf (by decide) _ (tkN_le hsE) hat) (fun g => S_M_portLine_111)
            · rw [if_neg c5, if_neg c5]
              simp only [zbd_i, tl_s]
              rw [S_M_portLine_99 (ar M.1), if_pos (by decide), T_M_has (h := mH h R P) M.mM (W' 19 (by decide)) (by decide) hsE hss]
              by_cases c6 : isW T E s (wt 19) = true
              · rw [if_pos c6, if_pos c6]
                simp only [zbd_i, tl_s]
                rw [S_M_portLine_120 (ar M.1), if_neg (by decide), am, h5]
                show LR h R T E P _ (if nd = 0 then _ else _)
                by_cases c7 : nd = 0
                · rw [if_pos c7, if_pos (by rw [c7]; decide)]
                  exact LR_k (T_M_tells M hf (by decide) _ (tkN_le hsE) hat) (fun g => S_M_portLine_147)
                · have hx : ev z d 196 0 [.ref R, .int (nI s)] [] (aH (mH h R P) R (tkN T E s)) = some (.inl none, fH (mH h R P) R (tkN T E s) s) := T_M_wrong (ar M.1) (a12 hf)
                  rw [if_neg c7, if_neg (show ¬ nI nd ≤ 0 from nI_ge (b := nd) (a := 0) (by omega) (by omega)), hx]
                  simp only [zbd_i, tl_n]
                  rw [S_M_portLine_137 (fr M.1), T_M_tells_f (fr M.1) (fH_f (by omega))]
                  simp only [zbd_i, tl_n]
                  rw [S_M_portLine_147]
                  exact ⟨_, tkN_le hsE, hsE, rfl⟩
              · rw [if_neg c6, if_neg c6]
                simp only [zbd_i, tl_s]
                have hx : ev z d 196 0 [.ref R, .int (nI s)] [] (aH (mH h R P) R s) = some (.inl none, fH (mH h R P) R s s) := T_M_wrong (ar M.1) (a12 hf)
                rw [S_M_portLine_120 (ar M.1), if_pos (by decide), a11, hx]
                simp only [zbd_i, tl_n]
                rw [S_M_portLine_158]
                exact ⟨s, hsE, hsE, rfl⟩
/-- what the whole text gives -/
def RR (h : Hp) (R E : Nat) (o : Option (zO × Hp)) (x : Nat ⊕ PSt) : Prop := match x with
  | .inr S => ∃ k a, o = some (.inl (some (.int k)), aH (mH h R S.1) R a)
  | .inl e => ∃ k a P', e ≤ E ∧ o = some (.inl (some (.int k)), fH (mH h R P') R a e)
theorem fa {e b : Nat} : zwI (fH h R a e) R 11 (nI b) = fH h R b e := by
  unfold fH aH
  rw [zw_cm (Or.inr (by decide)), zw_ww]
theorem MT_f {e : Nat} (M : MT h R T E) : MT (zwI h R 12 (nI e)) R T E := MT_w M (by decide) (by decide)
theorem T_M_sk_f {e : Nat} (M : MT h R T E) (ha : a < 2 ^ 30) : ev z d 193 0 [.ref R] [] (fH h R a e) = some (.inl none, fH h R (rn cS T E a) e) := by
  have q : ∀ b, fH h R b e = aH (zwI h R 12 (nI e)) R b := fun b => by
    unfold fH aH
    exact zw_cm (Or.inr (by decide))
  rw [q, q, T_M_sk (MT_f M) ha]
theorem T_M_readP (M : MTt h R T E) (hf : zI h R 12 = -1) (hW : WA z h) (hok : ∀ S s S' s', Ok S → lLine T E S s = .inr (S', s') → Ok S') : ∀ n k, k + n = 14 → ∀ (S : PSt) (a s : Nat), Ok S → a ≤ E → rn cS T E a = s → RR h R E (ev z d 210 23 [.ref R, .int (nI 0), .int (nI 1), .int (nI k)] [] (aH (mH h R S.1) R a)) (rdL T E n S s) := by
  have hE := M.2.1
  intro n
  induction n with
  | zero =>
    intro k hk S a s hS ha hs
    obtain rfl : k = 14 := by omega
    have hsE : s ≤ E := by rw [← hs]; exact rn_le ha
    have hss : rn cS T E s = s := by rw [← hs]; exact rn_rn
    have hx : ev z d 196 0 [.ref R, .int (nI s)] [] (aH (mH h R S.1) R s) = some (.inl none, fH (mH h R S.1) R s s) := T_M_wrong (ar M.1) (a12 hf)
    rw [S_M_read_23 (ar M.1), if_neg (by decide), if_pos (a12 hf), T_M_sk (h := mH h R S.1) M.mM (by omega), hs]
    simp only [zbd_i, tl_n]
    rw [S_M_read_39 (ar M.1), if_pos (by decide), if_pos rfl, a11, hx]
    simp only [zbd_i, tl_n]
    rw [S_M_read_62 (fr M.1), T_M_sk_f (h := mH h R S.1) M.mM (by omega), hss]
    simp only [zbd_i, tl_n]
    rw [S_M_read_87 (fr M.1), if_neg (fH_f (by omega)), S_M_read_23 (fr M.1), if_pos (by decide)]
    exact ⟨_, s, S.1, hsE, rfl⟩
  | succ n ih =>
    intro k hk S a s hS ha hs
    obtain ⟨P, np, ni, nd⟩ := S
    obtain ⟨⟨h3, h4, h5, l6, l7, l8⟩, -⟩ := id hS
    have hsE : s ≤ E := by rw [← hs]; exact rn_le ha
    have hss : rn cS T E s = s := by rw [← hs]; exact rn_rn
    show RR h R E (ev z d 210 23 [.ref R, .int (nI 0), .int (nI 1), .int (nI k)] [] (aH (mH h R P) R a)) _
    rw [S_M_read_23 (ar M.1), if_neg (by decide), if_pos (a12 hf), T_M_sk (h := mH h R P) M.mM (by omega), hs]
    simp only [zbd_i, tl_n]
    rw [S_M_read_39 (ar M.1), if_pos (by decide), if_neg (fun q => absurd ((nI_eq (by omega) (by decide)).mp q) (by omega)), if_pos (by decide)]
    have := T_M_portLine (z := z) (d := d) M hf hW h3 h4 h5 l6 l7 l8 hsE hss
    have hk2 := hok (P, np, ni, nd) s
    unfold rdL
    revert this hk2
    cases lLine T E (P, np, ni, nd) s with
    | inl e =>
      rintro ⟨a', g1, g2, g3⟩ -
      rw [g3]
      simp only [zbd_i, tl_n]
      rw [S_M_read_80 (fr M.1), T_M_sk_f (h := mH h R P) M.mM (by omega)]
      simp only [zbd_i, tl_n]
      rw [S_M_read_87 (fr M.1), if_neg (fH_f (by omega)), S_M_read_23 (fr M.1), if_pos (by decide)]
      exact ⟨_, _, P, g2, rfl⟩
    | inr q =>
      obtain ⟨S', s'⟩ := q
      rintro ⟨a', g1, g2, g3⟩ hk2
      have hS' := hk2 S' s' hS rfl
      have hsE' : s' ≤ E := by rw [← g2]; exact rn_le g1
      have hss' : rn cS T E s' = s' := by rw [← g2]; exact rn_rn
      rw [g3]
      simp only [zbd_i, tl_n]
      rw [S_M_read_80 (ar M.1), T_M_sk (h := mH h R S'.1) M.mM (by omega), g2]
      simp only [zbd_i, tl_n]
      rw [S_M_read_87 (ar M.1), if_pos (a12 hf), a11, (MT_a (M.mM (P := S'.1))).e10]
      show RR h R E _ (if s' < E then _ else _)
      by_cases c1 : s' < E
      · rw [if_pos c1, if_neg (fun q => by have := (nI_eq (by omega) (by omega)).mp q; omega), T_M_isSign (h := mH h R S'.1) M.mM (by omega), hss']
        simp only [zbd_i, tl_s]
        rw [S_M_read_117 (ar M.1)]
        simp only [bI_0]
        by_cases c2 : isS T E s' (nI 59) = true
        · have c3 := (isS_iff (by decide) (by decide)).mp c2
          rw [if_pos c2, if_neg (fun q => q c3), a11, nI_add, nI_add]
          show RR h R E (ev z d 210 23 [.ref R, .int (nI 0), .int (nI 1), .int (nI (k + 1))] [] (aH (aH (mH h R S'.1) R s') R (s' + 1))) _
          rw [aa]
          refine ih (k + 1) (by omega) S' (s' + 1) _ hS' (by omega) ?_
          unfold adv tkN
          have n1 : ¬ cL (T s') = true := by rw [c3.2]; decide
          have n2 : ¬ cD (T s') = true := by rw [c3.2]; decide
          rw [if_pos c1, if_neg n1, if_neg n2]
        · have c3 : ¬ (s' < E ∧ T s' = nI 59) := fun q => c2 ((isS_iff (by decide) (by decide)).mpr q)
          have hx : ev z d 196 0 [.ref R, .int (nI s')] [] (aH (mH h R S'.1) R s') = some (.inl none, fH (mH h R S'.1) R s' s') := T_M_wrong (ar M.1) (a12 hf)
          rw [if_neg c2, if_pos c3, a11, hx]
          simp only [zbd_i, tl_n]
          rw [S_M_read_141, S_M_read_23 (fr M.1), if_neg (by decide), if_neg (fH_f (by omega))]
          exact ⟨_, _, S'.1, hsE', rfl⟩
      · rw [if_neg c1, if_pos (by congr 1; omega), S_M_read_23 (ar M.1), if_pos (by decide)]
        exact ⟨_, _, rfl⟩
end
