/-! THE REFERENCE READS A PORT'S TEXT, what no text touches -/
def Kp (P Q : Row) : Prop := ∀ i, (i = 0 ∨ i = 1 ∨ i = 2 ∨ i = 9 ∨ 141 ≤ i) → Q i = P i
section
variable {T : Row} {E s s' : Nat} {S S' : PSt}
theorem lParty_k (H : Ok S) (h : lParty T E S s = .inr (S', s')) : Kp S.1 S'.1 := by
  have l6 := H.1.2.2.2.1
  unfold lParty at h
  split at h
  · cases h
  · rename_i hc
    obtain ⟨q, -, h2⟩ := pB_inv h
    cases h2
    exact fun i hi => (up_n (by omega)).trans ((up_n (by omega)).trans (up_n (by omega)))
theorem lInk_k (H : Ok S) (h : lInk T E S s = .inr (S', s')) : Kp S.1 S'.1 := by
  have l7 := H.1.2.2.2.2.1
  unfold lInk at h
  split at h
  · cases h
  · rename_i hc
    obtain ⟨q1, -, h⟩ := pB_inv h
    obtain ⟨q2, -, h⟩ := pB_inv h
    obtain ⟨q3, -, h⟩ := pB_inv h
    cases h
    exact fun i hi => addI_o (by omega) (by omega)
theorem lDeed_k (H : Ok S) (h : lDeed T E S s = .inr (S', s')) : Kp S.1 S'.1 := by
  have l8 := H.1.2.2.2.2.2
  unfold lDeed at h
  split at h
  · cases h
  · rename_i hc
    obtain ⟨q1, -, h⟩ := pB_inv h
    obtain ⟨q2, -, h⟩ := pB_inv h
    obtain ⟨s3, -, h⟩ := pB_inv h
    obtain ⟨q3, -, h⟩ := pB_inv h
    split at h
    · cases h
    · unfold lDeed2 at h
      obtain ⟨q4, -, h⟩ := pB_inv h
      obtain ⟨q5, -, h⟩ := pB_inv h
      obtain ⟨q6, -, h⟩ := pB_inv h
      obtain ⟨q7, -, h⟩ := pB_inv h
      cases h
      exact fun i hi => addD_o (by omega) (by omega)
theorem lLine_k (H : Ok S) (h : lLine T E S s = .inr (S', s')) : Kp S.1 S'.1 := by
  have tel : ∀ k m s, m < 2 ^ 31 → 3 ≤ k → k < 15 → k ≠ 9 → lTell T E S k (nI m) s = .inr (S', s') → Kp S.1 S'.1 := by
    intro k m s hm h1 h2 h3 h
    obtain ⟨v, t, -, -, rfl⟩ := lTell_v hm h
    exact fun i hi => up_n (by omega)
  unfold lLine at h
  split at h
  · exact lParty_k H h
  · split at h
    · exact lInk_k H h
    · split at h
      · exact lDeed_k H h
      · split at h
        · unfold lDamp at h
          split at h
          · exact tel _ _ _ (by decide) (by decide) (by decide) (by decide) h
          · split at h
            · exact tel _ _ _ (by decide) (by decide) (by decide) (by decide) h
            · split at h
              · exact tel _ _ _ (by decide) (by decide) (by decide) (by decide) h
              · split at h
                · exact tel _ _ _ (by decide) (by decide) (by decide) (by decide) h
                · cases h
        · split at h
          · exact tel _ _ _ (by decide) (by decide) (by decide) (by decide) h
          · split at h
            · exact tel _ _ _ (by decide) (by decide) (by decide) (by decide) h
            · split at h
              · split at h
                · exact tel _ _ _ (by decide) (by decide) (by decide) (by decide) h
                · cases h
              · cases h
theorem rdL_k {P0 : Row} : ∀ n S s, Ok S → Kp P0 S.1 → rdL T E n S s = .inr S' → Ok S' ∧ Kp P0 S'.1
  | 0, S, s, _, _, h => by cases h
  | n + 1, S, s, H, hK, h => by
    unfold rdL at h
    obtain ⟨q, h1, h2⟩ := pB_inv h
    have hq := lLine_ok H h1
    have hk := lLine_k H h1
    have hK' : Kp P0 q.1.1 := fun i hi => (hk i hi).trans (hK i hi)
    split at h2
    · split at h2
      · exact rdL_k n _ _ hq hK' h2
      · cases h2
    · cases h2
      exact ⟨hq, hK'⟩
theorem rdP_k (H : Ok S) (h : rdP T E S = .inr S') : Ok S' ∧ Kp S.1 S'.1 := by
  unfold rdP at h
  split at h
  · exact rdL_k 14 S _ H (fun _ _ => rfl) h
  · cases h
    exact ⟨H, fun _ _ => rfl⟩
end
def RR2 (P0 : Row) (h : Hp) (R E : Nat) (o : Option (zO × Hp)) (x : Nat ⊕ PSt) : Prop := match x with
  | .inr S => ∃ k a, Ok S ∧ Kp P0 S.1 ∧ o = some (.inl (some (.int k)), aH (mH h R S.1) R a)
  | .inl e => ∃ k a P', e ≤ E ∧ Kp P0 P' ∧ o = some (.inl (some (.int k)), fH (mH h R P') R a e)
section
variable {z : ZE} {d : Nat} {h g : Hp} {R E a s w : Nat} {T P P0 : Row} {np ni nd : Nat}
theorem T_M_readK (M : MTt h R T E) (hf : zI h R 12 = -1) (hW : WA z h)  : ∀ n k, k + n = 14 → ∀ (S : PSt) (a s : Nat), Ok S → Kp P0 S.1 → a ≤ E → rn cS T E a = s → RR2 P0 h R E (ev z d 210 23 [.ref R, .int (nI 0), .int (nI 1), .int (nI k)] [] (aH (mH h R S.1) R a)) (rdL T E n S s) := by
  have hE := M.2.1
  intro n
  induction n with
  | zero =>
    intro k hk S a s hS hK ha hs
    obtain rfl : k = 14 := by omega
    have hsE : s ≤ E := by rw [← hs]; exact rn_le ha
    have hss : rn cS T E s = s := by rw [← hs]; exact rn_rn
    have hx : ev z d 196 0 [.ref R, .int (nI s)] [] (aH (mH h R S.1) R s) = some (.inl none, fH (mH h R S.1) R s s) := T_M_wrong (ar M.1) (a12 hf)
    rw [S_M_read_23 (ar M.1), if_neg (by decide), if_pos (a12 hf), T_M_sk (h := mH h R S.1) M.mM (by omega), hs]
    simp only [zbd_i, tl_n]
    rw [S_M_read_39 (ar M.1), if_pos (by decide), if_pos rfl, a11, hx]
    simp only [zbd_i, tl_n]
    rw [S_M_read_62 (fr M.1), T_M_sk_f (h := mH h R S.1) M.mM (by omega), hss]
    simp only [zbd_i, tl_n]
    rw [S_M_read_87 (fr M.1), if_neg (fH_f (by omega)), S_M_read_23 (fr M.1), if_pos (by decide)]
    exact ⟨_, s, S.1, hsE, hK, rfl⟩
  | succ n ih =>
    intro k hk S a s hS hK ha hs
    obtain ⟨P, np, ni, nd⟩ := S
    obtain ⟨⟨h3, h4, h5, l6, l7, l8⟩, -⟩ := id hS
    have hsE : s ≤ E := by rw [← hs]; exact rn_le ha
    have hss : rn cS T E s = s := by rw [← hs]; exact rn_rn
    show RR2 P0 h R E (ev z d 210 23 [.ref R, .int (nI 0), .int (nI 1), .int (nI k)] [] (aH (mH h R P) R a)) _
    rw [S_M_read_23 (ar M.1), if_neg (by decide), if_pos (a12 hf), T_M_sk (h := mH h R P) M.mM (by omega), hs]
    simp only [zbd_i, tl_n]
    rw [S_M_read_39 (ar M.1), if_pos (by decide), if_neg (fun q => absurd ((nI_eq (by omega) (by decide)).mp q) (by omega)), if_pos (by decide)]
    have := T_M_portLine (z := z) (d := d) M hf hW h3 h4 h5 l6 l7 l8 hsE hss
    have hk2 : ∀ S' s', lLine T E (P, np, ni, nd) s = .inr (S', s') → Ok S' ∧ Kp P S'.1 := fun S' s' e => ⟨lLine_ok hS e, lLine_k hS e⟩
    unfold rdL
    revert this hk2
    cases lLine T E (P, np, ni, nd) s with
    | inl e =>
      rintro ⟨a', g1, g2, g3⟩ -
      rw [g3]
      simp only [zbd_i, tl_n]
      rw [S_M_read_80 (fr M.1), T_M_sk_f (h := mH h R P) M.mM (by omega)]
      simp only [zbd_i, tl_n]
      rw [S_M_read_87 (fr M.1), if_neg (fH_f (by omega)), S_M_read_23 (fr M.1), if_pos (by decide)]
      exact ⟨_, _, P, g2, hK, rfl⟩
    | inr q =>
      obtain ⟨S', s'⟩ := q
      rintro ⟨a', g1, g2, g3⟩ hk2
      obtain ⟨hS', hK1⟩ := hk2 S' s' rfl
      have hK' : Kp P0 S'.1 := fun i hi => (hK1 i hi).trans (hK i hi)
      have hsE' : s' ≤ E := by rw [← g2]; exact rn_le g1
      have hss' : rn cS T E s' = s' := by rw [← g2]; exact rn_rn
      rw [g3]
      simp only [zbd_i, tl_n]
      rw [S_M_read_80 (ar M.1), T_M_sk (h := mH h R S'.1) M.mM (by omega), g2]
      simp only [zbd_i, tl_n]
      rw [S_M_read_87 (ar M.1), if_pos (a12 hf), a11, (MT_a (M.mM (P := S'.1))).e10]
      show RR2 P0 h R E _ (if s' < E then _ else _)
      by_cases c1 : s' < E
      · rw [if_pos c1, if_neg (fun q => by have := (nI_eq (by omega) (by omega)).mp q; omega), T_M_isSign (h := mH h R S'.1) M.mM (by omega), hss']
        simp only [zbd_i, tl_s]
        rw [S_M_read_117 (ar M.1)]
        simp only [bI_0]
        by_cases c2 : isS T E s' (nI 59) = true
        · have c3 := (isS_iff (by decide) (by decide)).mp c2
          rw [if_pos c2, if_neg (fun q => q c3), a11, nI_add, nI_add]
          show RR2 P0 h R E (ev z d 210 23 [.ref R, .int (nI 0), .int (nI 1), .int (nI (k + 1))] [] (aH (aH (mH h R S'.1) R s') R (s' + 1))) _
          rw [aa]
          refine ih (k + 1) (by omega) S' (s' + 1) _ hS' hK' (by omega) ?_
          unfold adv tkN
          have n1 : ¬ cL (T s') = true := by rw [c3.2]; decide
          have n2 : ¬ cD (T s') = true := by rw [c3.2]; decide
          rw [if_pos c1, if_neg n1, if_neg n2]
        · have c3 : ¬ (s' < E ∧ T s' = nI 59) := fun q => c2 ((isS_iff (by decide) (by decide)).mpr q)
          have hx : ev z d 196 0 [.ref R, .int (nI s')] [] (aH (mH h R S'.1) R s') = some (.inl none, fH (mH h R S'.1) R s' s') := T_M_wrong (ar M.1) (a12 hf)
          rw [if_neg c2, if_pos c3, a11, hx]
          simp only [zbd_i, tl_n]
          rw [S_M_read_141, S_M_read_23 (fr M.1), if_neg (by decide), if_neg (fH_f (by omega))]
          exact ⟨_, _, S'.1, hsE', hK', rfl⟩
      · rw [if_neg c1, if_pos (by congr 1; omega), S_M_read_23 (ar M.1), if_pos (by decide)]
        exact ⟨_, _, hS', hK', rfl⟩
/-- the whole of it -/
theorem T_M_readPort (M : MTt h R T E) (hf : zI h R 12 = -1) (hW : WA z h) {S : PSt} (hS : Ok S) : RR2 S.1 h R E (ev z d 210 0 [.ref R, .int (nI 0), zu, zu] [] (aH (mH h R S.1) R 0)) (rdP T E S) := by
  have hE := M.2.1
  have hs : rn cS T E 0 ≤ E := rn_le (by omega)
  rw [S_M_read_0 (ar M.1), T_M_sk (h := mH h R S.1) M.mM (by omega)]
  simp only [zbd_i, tl_n]
  rw [S_M_read_4 (ar M.1), a11, (MT_a (M.mM (P := S.1))).e10]
  unfold rdP
  by_cases c : rn cS T E 0 < E
  · rw [if_pos c, if_neg (fun q => by have := (nI_leI (by omega) (by omega)).mp q; omega)]
    exact T_M_readK M hf hW 14 0 rfl S (rn cS T E 0) _ hS (fun _ _ => rfl) hs rn_rn
  · rw [if_neg c, if_pos ((nI_leI (by omega) (by omega)).mpr (by omega)), S_M_read_23 (ar M.1), if_pos (by decide)]
    exact ⟨_, _, hS, fun _ _ => rfl, rfl⟩
end
