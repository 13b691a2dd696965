/-! A PORT'S TEXT as the class reads it, whole -/
theorem isW_0 {T : Row} {E s : Nat} {tx : List Nat} (h : isW T E s tx = true) (h0 : 0 < tx.length) : T s = nI (tx.getD 0 0) := by
  unfold isW at h
  have h2 := (Bool.and_eq_true_iff.mp h).2
  obtain ⟨n, hn⟩ : ∃ n, tx.length = n + 1 := ⟨tx.length - 1, by omega⟩
  rw [hn] at h2
  unfold eqF at h2
  have := of_decide_eq_true (Bool.and_eq_true_iff.mp h2).1
  rwa [Nat.add_zero] at this
theorem isW_ne {T : Row} {E s : Nat} {a b : List Nat} (h : isW T E s a = true) (ha : 0 < a.length) (hb : 0 < b.length) (h1 : a.getD 0 0 < 128 ∧ b.getD 0 0 < 128 ∧ a.getD 0 0 ≠ b.getD 0 0) : ¬ isW T E s b = true := by
  intro q
  have e := (isW_0 h ha).symm.trans (isW_0 q hb)
  exact h1.2.2 ((nI_eq (by omega) (by omega)).mp e)
section
variable {z : ZE} {d : Nat} {g g' : Hp} {r b Nb E s p : Nat} {T P : Row} {np ni nd : Nat}
/-- behind a line's method -/
theorem PO_k {o : Option (zO × Hp)} {x : Nat ⊕ (PSt × Nat)} {F : Option Value → Hp → Option (zO × Hp)} {n pc : Nat} {lc : List Value} (hh : zhh n = []) (h : PO g r T E p o x) (hF : ∀ g', F none g' = some (.inl none, g')) : PO g r T E p (zbd o F (fun e h' => evx z d n pc lc e h')) x := by
  cases x with
  | inl e =>
    obtain ⟨g', f, e1⟩ := h
    rw [e1]
    simp only [zbd_e, evx_nil (n := n) hh]
    exact ⟨g', f, rfl⟩
  | inr q =>
    obtain ⟨g', f, e1, H⟩ := h
    rw [e1]
    simp only [zbd_i, hF]
    exact ⟨g', f, rfl, H⟩
theorem T_cTime (C : CP z g r b Nb E T p) (H : PRp g p P np ni nd) (hs : s ≤ E) : PO g r T E p (ev z d 87 0 [.ref p, .ref r] [] (rdH g r T E s)) (if nd = 0 then lTell T E (P, np, ni, nd) 6 (nI 999) (adv T E s) else .inl s) := by
  have h8 := H.ld
  have O := C.1
  rw [S_PTx_readTime_0 C.sk O.sk, (rd_o C.pr).trans H.cd]
  by_cases c : nd = 0
  · rw [if_pos (by rw [c]; decide), if_pos c, T_adv O hs]
    simp only [zbd_i, tl_n]
    rw [S_PTx_readTime_15 O.sk]
    refine T_cTell C H (adv_le hs) rfl (a := p) (j := 9) ⟨⟨by omega, by omega⟩, by omega, by omega⟩ (fun v => H.wS (Or.inr (Or.inr (Or.inl ⟨rfl, rfl⟩)))) (fun v s' => ?_)
    exact S_PTx_readTime_24 C.sk
  · rw [if_neg (show ¬ nI nd ≤ 0 from nI_nle (by omega) (by omega)), if_neg c, T_refuse O]
    simp only [zbd_e, evx_nil (n := 87) rfl]
    exact ⟨g, Ft.rf, rfl⟩
theorem T_cSeason (C : CP z g r b Nb E T p) (hs : s ≤ E) : ev z d 88 0 [.ref r] [] (rdH g r T E s) = if isW T E s (wt 10) = true then some (.inl (some (.int (nI 0))), rdH g r T E (adv T E s)) else if isW T E s (wt 11) = true then some (.inl (some (.int (nI 1))), rdH g r T E (adv T E s)) else if isW T E s (wt 12) = true then some (.inl (some (.int (nI 2))), rdH g r T E (adv T E s)) else if isW T E s (wt 13) = true then some (.inl (some (.int (nI 3))), rdH g r T E (adv T E s)) else some (.inr 0, xH (rdH g r T E s) r s) := by
  have O := C.1
  rw [S_PTx_needSeason_0 O.sk, C.tk (j := 10) (by decide) (by decide) hs]
  by_cases c0 : isW T E s (wt 10) = true
  · rw [if_pos c0, if_pos c0]
    simp only [zbd_i, tl_s]
    rw [S_PTx_needSeason_6 O.sk, if_neg (by decide)]
  · rw [if_neg c0, if_neg c0]
    simp only [zbd_i, tl_s]
    rw [S_PTx_needSeason_6 O.sk, if_pos (by decide), C.tk (j := 11) (by decide) (by decide) hs]
    by_cases c1 : isW T E s (wt 11) = true
    · rw [if_pos c1, if_pos c1]
      simp only [zbd_i, tl_s]
      rw [S_PTx_needSeason_17 O.sk, if_neg (by decide)]
    · rw [if_neg c1, if_neg c1]
      simp only [zbd_i, tl_s]
      rw [S_PTx_needSeason_17 O.sk, if_pos (by decide), C.tk (j := 12) (by decide) (by decide) hs]
      by_cases c2 : isW T E s (wt 12) = true
      · rw [if_pos c2, if_pos c2]
        simp only [zbd_i, tl_s]
        rw [S_PTx_needSeason_28 O.sk, if_neg (by decide)]
      · rw [if_neg c2, if_neg c2]
        simp only [zbd_i, tl_s]
        rw [S_PTx_needSeason_28 O.sk, if_pos (by decide), C.nw (j := 13) (by decide) (by decide) hs]
        by_cases c3 : isW T E s (wt 13) = true
        · rw [if_pos c3, if_pos c3]
          simp only [zbd_i, tl_n, S_PTx_needSeason_39]
        · rw [if_neg c3, if_neg c3]
          simp only [zbd_e, evx_nil (n := 88) rfl]
theorem T_cDamp (C : CP z g r b Nb E T p) (H : PRp g p P np ni nd) (hs : s ≤ E) {w2 : Value} {pc : Nat} : PO g r T E p (zbd (ev z d 88 0 [.ref r] [] (rdH g r T E s)) (fun v h' => ev z d 83 81 [.ref p, .ref r, w2] (v.toList ++ []) h') (fun e h' => evx z d 83 pc [.ref p, .ref r, w2] e h')) (lDamp T E (P, np, ni, nd) s) := by
  have go : ∀ k, k < 4 → PO g r T E p (ev z d 83 81 [.ref p, .ref r, w2] [.int (nI k)] (rdH g r T E (adv T E s))) (lTell T E (P, np, ni, nd) (11 + k) (nI 9) (adv T E s)) := by
    intro k hk
    rw [S_PTx_readLine_81 C.sk C.1.sk]
    refine T_cTell C H (adv_le hs) rfl (a := p + 4) (j := k) ⟨⟨by omega, by omega⟩, by omega, by omega⟩ (fun v => H.w4 hk) (fun v s' => ?_)
    simp only [tl_s]
    rw [S_PTx_readLine_94 C.sk, ix_n hk (by decide)]
  rw [T_cSeason C hs]
  unfold lDamp
  by_cases c0 : isW T E s (wt 10) = true
  · rw [if_pos c0, if_pos c0]
    simp only [zbd_i, tl_s]
    exact go 0 (by decide)
  · rw [if_neg c0, if_neg c0]
    by_cases c1 : isW T E s (wt 11) = true
    · rw [if_pos c1, if_pos c1]
      simp only [zbd_i, tl_s]
      exact go 1 (by decide)
    · rw [if_neg c1, if_neg c1]
      by_cases c2 : isW T E s (wt 12) = true
      · rw [if_pos c2, if_pos c2]
        simp only [zbd_i, tl_s]
        exact go 2 (by decide)
      · rw [if_neg c2, if_neg c2]
        by_cases c3 : isW T E s (wt 13) = true
        · rw [if_pos c3, if_pos c3]
          simp only [zbd_i, tl_s]
          exact go 3 (by decide)
        · rw [if_neg c3, if_neg c3]
          simp only [zbd_e, evx_nil (n := 83) rfl]
          exact ⟨g, Ft.rf, rfl⟩
theorem T_cLine (C : CP z g r b Nb E T p) (H : PRp g p P np ni nd) (hs : s ≤ E) : PO g r T E p (ev z d 83 0 [.ref p, .ref r, zu] [] (rdH g r T E s)) (lLine T E (P, np, ni, nd) s) := by
  have O := C.1
  unfold lLine
  rw [S_PTx_readLine_0 O.sk, C.aw (j := 14) (by decide) (by decide) hs]
  simp only [zbd_i, tl_s]
  rw [S_PTx_readLine_6 O.sk]
  by_cases c0 : isW T E s (wt 14) = true
  · rw [if_neg (by rw [bI_0]; exact fun x => x c0), if_pos c0]
    exact PO_k rfl (T_cParty C H hs (isW_lt c0)) (fun g' => S_PTx_readLine_14)
  · rw [if_pos (by rw [bI_0]; exact c0), if_neg c0, C.aw (j := 3) (by decide) (by decide) hs]
    simp only [zbd_i, tl_s]
    rw [S_PTx_readLine_23 O.sk]
    by_cases c1 : isW T E s (wt 3) = true
    · rw [if_neg (by rw [bI_0]; exact fun x => x c1), if_pos c1]
      exact PO_k rfl (T_cInk C H hs) (fun g' => S_PTx_readLine_31)
    · rw [if_pos (by rw [bI_0]; exact c1), if_neg c1, C.aw (j := 15) (by decide) (by decide) hs]
      simp only [zbd_i, tl_s]
      rw [S_PTx_readLine_40 O.sk]
      by_cases c2 : isW T E s (wt 15) = true
      · rw [if_neg (by rw [bI_0]; exact fun x => x c2), if_pos c2]
        exact PO_k rfl (T_cDeed C H hs) (fun g' => S_PTx_readLine_48)
      · rw [if_pos (by rw [bI_0]; exact c2), if_neg c2, C.aw (j := 19) (by decide) (by decide) hs]
        simp only [zbd_i, tl_s]
        rw [S_PTx_readLine_57 O.sk]
        by_cases c3 : isW T E s (wt 19) = true
        · rw [if_neg (by rw [bI_0]; exact fun x => x c3), if_neg (isW_ne (b := wt 16) c3 (by decide) (by decide) (by decide)), if_neg (isW_ne (b := wt 17) c3 (by decide) (by decide) (by decide)), if_neg (isW_ne (b := wt 18) c3 (by decide) (by decide) (by decide)), if_pos c3]
          exact PO_k rfl (T_cTime C H hs) (fun g' => S_PTx_readLine_65)
        · rw [if_pos (by rw [bI_0]; exact c3), C.tk (j := 16) (by decide) (by decide) hs]
          by_cases c4 : isW T E s (wt 16) = true
          · rw [if_pos c4, if_pos c4]
            simp only [zbd_i, tl_s]
            rw [S_PTx_readLine_74 O.sk, if_neg (by decide)]
            exact T_cDamp C H (adv_le hs)
          · rw [if_neg c4, if_neg c4]
            simp only [zbd_i, tl_s]
            rw [S_PTx_readLine_74 O.sk, if_pos (by decide), C.tk (j := 17) (by decide) (by decide) hs]
            by_cases c5 : isW T E s (wt 17) = true
            · rw [if_pos c5, if_pos c5]
              simp only [zbd_i, tl_s]
              rw [S_PTx_readLine_104 O.sk, if_neg (by decide)]
              refine T_cTell C H (adv_le hs) rfl (a := p) (j := 7) ⟨⟨by omega, by omega⟩, by omega, by omega⟩ (fun v => H.wS (Or.inl ⟨rfl, rfl⟩)) (fun v s' => ?_)
              simp only [tl_s]
              exact S_PTx_readLine_115 C.sk
            · rw [if_neg c5, if_neg c5]
              simp only [zbd_i, tl_s]
              rw [S_PTx_readLine_104 O.sk, if_pos (by decide), C.nw (j := 18) (by decide) (by decide) hs]
              by_cases c6 : isW T E s (wt 18) = true
              · rw [if_pos c6, if_pos c6]
                simp only [zbd_i, tl_n]
                rw [S_PTx_readLine_127 O.sk]
                refine T_cTell C H (adv_le hs) rfl (a := p) (j := 8) ⟨⟨by omega, by omega⟩, by omega, by omega⟩ (fun v => H.wS (Or.inr (Or.inl ⟨rfl, rfl⟩))) (fun v s' => ?_)
                simp only [tl_s]
                exact S_PTx_readLine_135 C.sk
              · rw [if_neg c6, if_neg c6, if_neg c3]
                simp only [zbd_e, evx_nil (n := 83) rfl]
                exact ⟨g, Ft.rf, rfl⟩
/-- what the whole text gives -/
def PX (g : Hp) (r : Nat) (T : Row) (E p : Nat) (o : Option (zO × Hp)) (x : Nat ⊕ PSt) : Prop := match x with
  | .inr S => ∃ g' e, Ft p g g' ∧ o = some (.inl none, rdH g' r T E e) ∧ PRp g' p S.1 S.2.1 S.2.2.1 S.2.2.2
  | .inl e => ∃ g', Ft p g g' ∧ o = some (.inr 0, xH (rdH g' r T E e) r e)
def ptT (T : Row) (E : Nat) (S : PSt) : Nat ⊕ PSt := if rn cS T E 0 < E then rdL T E 14 S (rn cS T E 0) else .inr S
theorem lLine_g {S : PSt} {q : PSt × Nat} (hs : s ≤ E) (h : lLine T E S s = .inr q) : q.2 ≤ E := by
  have nG : ∀ {lo hi : Int32} {s : Nat} {q : Int32 × Nat}, s ≤ E → pN T E lo hi s = .inr q → q.2 ≤ E := by
    intro lo hi s q hs h
    have := pN_g (T := T) (lo := lo) (hi := hi) hs
    rw [h] at this
    exact this.2
  have wG : ∀ {tx : List Nat} {s s' : Nat}, s ≤ E → pW T E tx s = .inr s' → s' ≤ E := by
    intro tx s s' hs h
    unfold pW at h
    split at h
    · cases h; exact adv_le hs
    · cases h
  have aG : ∀ {tx : List Nat} {lo hi : Int32} {s : Nat} {q : Int32 × Nat}, s ≤ E → pA T E tx lo hi s = .inr q → q.2 ≤ E := by
    intro tx lo hi s q hs h
    obtain ⟨a, h1, h2⟩ := pB_inv h
    exact nG (wG hs h1) h2
  have mG : ∀ {tx : List Nat} {lo hi df : Int32} {s : Nat} {q : Int32 × Nat}, s ≤ E → pM T E tx lo hi df s = .inr q → q.2 ≤ E := by
    intro tx lo hi df s q hs h
    unfold pM at h
    split at h
    · exact nG (adv_le hs) h
    · cases h; exact hs
  have tG : ∀ {k : Nat} {hi : Int32} {s : Nat} {q : PSt × Nat}, s ≤ E → lTell T E S k hi s = .inr q → q.2 ≤ E := by
    intro k hi s q hs h
    unfold lTell at h
    obtain ⟨a, h1, h2⟩ := pB_inv h
    cases h2
    exact nG hs h1
  have a1 := adv_le (T := T) hs
  unfold lLine at h
  split at h
  · unfold lParty at h
    split at h
    · cases h
    · obtain ⟨a, h1, h2⟩ := pB_inv h
      cases h2
      exact nG a1 h1
  · split at h
    · unfold lInk at h
      split at h
      · cases h
      · obtain ⟨q1, h1, h⟩ := pB_inv h
        obtain ⟨q2, h2, h⟩ := pB_inv h
        obtain ⟨q3, h3, h⟩ := pB_inv h
        cases h
        exact mG (mG (aG a1 h1) h2) h3
    · split at h
      · unfold lDeed at h
        split at h
        · cases h
        · obtain ⟨q1, h1, h⟩ := pB_inv h
          obtain ⟨q2, h2, h⟩ := pB_inv h
          obtain ⟨s3, h3, h⟩ := pB_inv h
          obtain ⟨q3, h4, h⟩ := pB_inv h
          split at h
          · cases h
          · unfold lDeed2 at h
            obtain ⟨q4, h5, h⟩ := pB_inv h
            obtain ⟨q5, h6, h⟩ := pB_inv h
            obtain ⟨q6, h7, h⟩ := pB_inv h
            obtain ⟨q7, h8, h⟩ := pB_inv h
            cases h
            exact mG (mG (mG (aG (nG (wG (aG (aG a1 h1) h2) h3) h4) h5) h6) h7) h8
      · split at h
        · unfold lDamp at h
          split at h
          · exact tG (adv_le a1) h
          · split at h
            · exact tG (adv_le a1) h
            · split at h
              · exact tG (adv_le a1) h
              · split at h
                · exact tG (adv_le a1) h
                · cases h
        · split at h
          · exact tG a1 h
          · split at h
            · exact tG a1 h
            · split at h
              · split at h
                · exact tG a1 h
                · cases h
              · cases h
theorem T_cText_l : ∀ n k g (S : PSt) s, k + n = 14 → CP z g r b Nb E T p → PRp g p S.1 S.2.1 S.2.2.1 S.2.2.2 → s ≤ E → PX g r T E p (ev z d 82 10 [.ref p, .ref r, .int (nI k)] [] (rdH g r T E s)) (rdL T E n S s) := by
  intro n
  induction n with
  | zero =>
    intro k g S s hk C H hs
    rw [S_PTx_readInto_10 C.1.sk, if_pos (nI_le (by omega) (by omega)), T_refuse C.1]
    simp only [zbd_e, evx_nil (n := 82) rfl]
    exact ⟨g, Ft.rf, rfl⟩
  | succ n ih =>
    intro k g S s hk C H hs
    obtain ⟨P, np, ni, nd⟩ := S
    rw [S_PTx_readInto_10 C.1.sk, if_neg (nI_ge (by omega) (by decide))]
    have := T_cLine (z := z) (d := d) C H hs
    have lg := fun (q : PSt × Nat) => lLine_g (T := T) (S := (P, np, ni, nd)) (q := q) hs
    unfold rdL
    revert this lg
    cases lLine T E (P, np, ni, nd) s with
    | inl e =>
      rintro ⟨g', f, e1⟩ -
      rw [e1]
      simp only [zbd_e, evx_nil (n := 82) rfl]
      exact ⟨g', f, rfl⟩
    | inr q =>
      rintro ⟨g', f, e1, H1⟩ lg
      have hq : q.2 ≤ E := lg q rfl
      have C1 := C.fr f
      rw [e1]
      simp only [zbd_i, tl_n]
      rw [S_PTx_readInto_21 C1.1.sk, T_goesOn C1.1 hq]
      show PX g r T E p _ (if q.2 < E then _ else _)
      by_cases c1 : q.2 < E
      · rw [if_pos c1, if_pos c1]
        by_cases c2 : isS T E q.2 (nI 59) = true
        · rw [if_pos c2, if_pos c2]
          simp only [zbd_i, tl_s]
          rw [S_PTx_readInto_25, if_neg (by decide), nI_add]
          have := ih (k + 1) g' q.1 (adv T E q.2) (by omega) C1 H1 (adv_le hq)
          revert this
          cases rdL T E n q.1 (adv T E q.2) with
          | inl e =>
            rintro ⟨g2, f2, e2⟩
            exact ⟨g2, f.tr f2, e2⟩
          | inr S2 =>
            rintro ⟨g2, e, f2, e2, H2⟩
            exact ⟨g2, e, f.tr f2, e2, H2⟩
        · rw [if_neg c2, if_neg c2]
          simp only [zbd_e, evx_nil (n := 82) rfl]
          exact ⟨g', f, rfl⟩
      · rw [if_neg c1, if_neg c1]
        simp only [zbd_i, tl_s]
        rw [S_PTx_readInto_25, if_pos (by decide)]
        exact ⟨g', q.2, f, rfl, H1⟩
theorem T_cText (C : CP z g r b Nb E T p) {S : PSt} (H : PRp g p S.1 S.2.1 S.2.2.1 S.2.2.2) : PX g r T E p (ev z d 82 0 [.ref p, .ref r, zu] [] (rdH g r T E (rn cS T E 0))) (ptT T E S) := by
  rw [S_PTx_readInto_0 C.1.sk, rd_2]
  unfold ptT
  by_cases c : rn cS T E 0 < E
  · rw [if_neg (fun q => tkK_0.mp q c), if_pos c]
    exact T_cText_l 14 0 g S _ (by decide) C H (rn_le (by omega))
  · rw [if_pos (tkK_0.mpr c), if_neg c]
    exact ⟨g, _, Ft.rf, rfl, H⟩
end
