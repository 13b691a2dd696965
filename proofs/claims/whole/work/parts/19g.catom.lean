/-! CONDITIONS as the class reads them -/
def AtC (z : ZE) (r b Nb E : Nat) (T : Row) (L m : Nat) : Prop := ∀ (d : Nat) (g : Hp) (s : Nat) (cl : List Int32), CX z g r b Nb E T L → LB g L E cl → s ≤ E → cl.length ≤ s → KR g r T E L cl (ev z (d + m + 1) 27 0 [.ref L, .ref r, .int (nI (6 - m)), zu, zu] [] (rdH g r T E s)) (atm T E m s)
section
variable {z : ZE} {d : Nat} {g g' : Hp} {r b Nb E s L m : Nat} {T : Row} {cl : List Int32}
theorem CX.ls (C : CX z g r b Nb E T L) : LSk (rdH g r T E s) L E := C.2.2.1
theorem CX.tk (C : CX z g r b Nb E T L) {i j : Nat} (hi : i < 65) (e : wt i = wt j) (hs : s ≤ E) : ev z d 94 0 [.ref r, .ref (z.1 i), zu] [] (rdH g r T E s) = if isW T E s (wt j) = true then some (.inl (some (.int (nI 1))), rdH g r T E (adv T E s)) else some (.inl (some (.int (nI 0))), rdH g r T E s) := by rw [← e]; exact T_takes C.1 (C.2.1 i hi) hs
theorem T_plain_r (C : CX z g r b Nb E T L) {c1 : List Int32} (B : LB g L E (cl ++ c1)) {s1 : Nat} (h1 : (cl ++ c1).length ≤ s1) (hs1 : s1 ≤ E) {op v4 : Int32} {w2 w3 : Value} {cc : Int32} (hsg : isS T E s1 cc = true) (ho : (op = -12 ∧ ¬ v4 = 0) ∨ (op = -13 ∧ v4 = 0)) : KR g r T E L cl (ev z (d + 1) 27 137 [.ref L, .ref r, w2, w3, .int v4] [] (rdH g r T E (adv T E s1))) (pB (pSm T E (adv T E s1)) (fun x => .inr (c1 ++ (x.1 ++ [op]), x.2))) := by
  have gt := adv_gt (T := T) (isS_lt hsg)
  rw [S_LTx_readAtom_137]
  have := T_readSum (d := d + 1) (s := adv T E s1) C B (adv_le hs1) (by omega)
  have pg := pSm_g (T := T) (adv_le (T := T) hs1)
  revert this pg
  cases pSm T E (adv T E s1) with
  | inl e =>
    rintro ⟨g', f1, e1⟩ -
    rw [e1]
    simp only [zbd_e, evx_nil (n := 27) rfl]
    exact ⟨g', f1, rfl⟩
  | inr q =>
    rintro ⟨g', f1, e1, B1⟩ pg
    obtain ⟨p1, p2, p3⟩ : adv T E s1 + q.1.length ≤ q.2 ∧ adv T E s1 < q.2 ∧ q.2 ≤ E := pg
    have C1 := C.fr f1
    have l1 : (cl ++ c1 ++ q.1).length = (cl ++ c1).length + q.1.length := List.length_append
    obtain ⟨g2, f2, e2, B2⟩ := T_addCode (d := d + 1) (s := q.2) (v := op) C1 B1 (by rw [l1]; omega)
    rw [e1]
    simp only [zbd_i, tl_n]
    rw [S_LTx_readAtom_142 (C1.ls)]
    rcases ho with ⟨rfl, hv⟩ | ⟨rfl, hv⟩
    · rw [if_neg hv, e2]
      simp only [zbd_i, tl_n, S_LTx_readAtom_158]
      exact ⟨g2, f1.tr f2, rfl, by simp only [List.append_assoc] at B2 ⊢; exact B2⟩
    · rw [if_pos hv, e2]
      simp only [zbd_i, tl_n, S_LTx_readAtom_158]
      exact ⟨g2, f1.tr f2, rfl, by simp only [List.append_assoc] at B2 ⊢; exact B2⟩
theorem T_plain (C : CX z g r b Nb E T L) (B : LB g L E cl) (hs : s ≤ E) (hl : cl.length ≤ s) {v2 v3 : Int32} {w4 : Value} : KR g r T E L cl (ev z (d + 1) 27 17 [.ref L, .ref r, .int v2, .int v3, w4] [.int (nI 0)] (rdH g r T E s)) (pln T E s) := by
  have O := C.1
  unfold pln
  rw [S_LTx_readAtom_17 (N := 0) O.sk, if_pos (by decide), C.tk (j := 22) (by decide) (by decide) hs]
  by_cases c1 : isW T E s (wt 22) = true
  · have gt := adv_gt (T := T) (isW_lt c1)
    rw [if_pos c1, if_pos c1]
    simp only [zbd_i, tl_s]
    obtain ⟨g', f, e, B'⟩ := T_addCode (d := d + 1) (s := adv T E s) (v := -8) C B (by have := isW_lt c1; omega)
    rw [S_LTx_readAtom_78 C.ls O.sk, if_neg (by decide), e]
    simp only [zbd_i, tl_n, S_LTx_readAtom_87]
    exact ⟨g', f, rfl, B'⟩
  · rw [if_neg c1, if_neg c1]
    simp only [zbd_i, tl_s]
    rw [S_LTx_readAtom_78 C.ls O.sk, if_pos (by decide), C.tk (j := 23) (by decide) (by decide) hs]
    by_cases c2 : isW T E s (wt 23) = true
    · have gt := adv_gt (T := T) (isW_lt c2)
      rw [if_pos c2, if_pos c2]
      simp only [zbd_i, tl_s]
      obtain ⟨g', f, e, B'⟩ := T_addCode (d := d + 1) (s := adv T E s) (v := -9) C B (by have := isW_lt c2; omega)
      rw [S_LTx_readAtom_96 C.ls, if_neg (by decide), e]
      simp only [zbd_i, tl_n, S_LTx_readAtom_105]
      exact ⟨g', f, rfl, B'⟩
    · rw [if_neg c2, if_neg c2]
      simp only [zbd_i, tl_s]
      rw [S_LTx_readAtom_96 C.ls, if_pos (by decide)]
      have := T_readSum (d := d + 1) C B hs hl
      have pg := pSm_g (T := T) hs
      revert this pg
      cases pSm T E s with
      | inl e =>
        rintro ⟨g', f1, e1⟩ -
        rw [e1]
        simp only [zbd_e, evx_nil (n := 27) rfl]
        exact ⟨g', f1, rfl⟩
      | inr q =>
        rintro ⟨g', f1, e1, B1⟩ pg
        obtain ⟨p1, p2, p3⟩ : s + q.1.length ≤ q.2 ∧ s < q.2 ∧ q.2 ≤ E := pg
        have C1 := C.fr f1
        have l1 : (cl ++ q.1).length = cl.length + q.1.length := List.length_append
        have back : ∀ {o : Option (zO × Hp)} {x : CR}, KR g' r T E L cl o x → KR g r T E L cl o x := by
          intro o x k
          cases x with
          | inl e => obtain ⟨g2, f2, e2⟩ := k; exact ⟨g2, f1.tr f2, e2⟩
          | inr y => obtain ⟨g2, f2, e2, b2⟩ := k; exact ⟨g2, f1.tr f2, e2, b2⟩
        rw [e1]
        simp only [zbd_i, tl_n]
        rw [S_LTx_readAtom_113 (N := 0) C1.1.sk, T_atSign C1.1]
        simp only [zbd_i, tl_s]
        rw [S_LTx_readAtom_119 (N := 0) C1.1.sk zisL_i, T_needS C1.1 p3, T_needS C1.1 p3]
        show KR g r T E L cl _ (if isS T E q.2 (nI 60) = true then _ else _)
        by_cases c3 : isS T E q.2 (nI 60) = true
        · rw [if_neg (by rw [bI_0]; exact fun x => x c3), if_pos c3, if_pos c3]
          simp only [zbd_i, tl_n]
          exact back (T_plain_r C1 B1 (by omega) p3 c3 (Or.inl ⟨rfl, by rw [bI_t c3]; decide⟩))
        · rw [if_pos (by rw [bI_0]; exact c3), if_neg c3]
          by_cases c4 : isS T E q.2 (nI 62) = true
          · rw [if_pos c4, if_pos c4]
            simp only [zbd_i, tl_n]
            exact back (T_plain_r C1 B1 (by omega) p3 c4 (Or.inr ⟨rfl, by rw [bI_f c3]; decide⟩))
          · rw [if_neg c4, if_neg c4]
            simp only [zbd_e, evx_nil (n := 27) rfl]
            exact ⟨g', f1, rfl⟩
theorem KR_bk {o : Option (zO × Hp)} {x : CR} (f1 : Fz L g g') (k : KR g' r T E L cl o x) : KR g r T E L cl o x := by
  cases x with
  | inl e => obtain ⟨g2, f2, e2⟩ := k; exact ⟨g2, f1.tr f2, e2⟩
  | inr y => obtain ⟨g2, f2, e2, b2⟩ := k; exact ⟨g2, f1.tr f2, e2, b2⟩
/-- the loop of conditions: an or that waits is w -/
def owc (w : Nat) : List Int32 := if w = 0 then [] else [-15]
def cnd (T : Row) (E : Nat) (a : Nat → CR) (f1 f2 w s : Nat) : CR := pB (andL T E a f1 s) (fun q1 => pB (orL T E a f2 q1.2) (fun q2 => .inr (q1.1 ++ (owc w ++ q2.1), q2.2)))
theorem T_cond_l (A : AtC z r b Nb E T L m) : ∀ n s k w f1 f2 g cl, E - s ≤ n → E - s ≤ f1 → E - s ≤ f2 → k < s → s ≤ E → w ≤ 1 → cl.length + w ≤ s → CX z g r b Nb E T L → LB g L E cl → KR g r T E L cl (ev z (d + m + 1) 26 11 [.ref L, .ref r, .int (nI (6 - m)), .int (nI w), .int (nI k)] [] (rdH g r T E s)) (cnd T E (atm T E m) f1 f2 w s) := by
  intro n
  induction n with
  | zero =>
    intro s k w f1 f2 g cl hn h1 h2 hk hs hw hl C B
    have hE := C.2.2.2.1
    have nw : ∀ tx, ¬ isW T E s tx = true := fun tx q => by have := isW_lt q; omega
    have a0 : andL T E (atm T E m) f1 s = .inr ([], s) := by
      cases f1 with
      | zero => rfl
      | succ f1 => exact if_neg (nw _)
    have o0 : orL T E (atm T E m) f2 s = .inr ([], s) := by
      cases f2 with
      | zero => rfl
      | succ f2 => exact if_neg (nw _)
    unfold cnd
    rw [a0]
    show KR g r T E L cl _ (pB (orL T E (atm T E m) f2 s) _)
    rw [o0, S_LTx_readCondition_11 (N := 0) C.1.sk, if_neg (nI_ge (by omega) (by decide)), C.tk (j := 25) (by decide) (by decide) hs, if_neg (nw _)]
    simp only [zbd_i, tl_s]
    rw [S_LTx_readCondition_25 C.ls C.1.sk, if_pos (by decide)]
    by_cases cw : w = 0
    · subst cw
      rw [if_pos (by decide), C.tk (j := 26) (by decide) (by decide) hs, if_neg (nw _)]
      simp only [zbd_i, tl_s]
      rw [S_LTx_readCondition_59, if_pos (by decide)]
      exact ⟨g, Fz.rf, rfl, by simp only [owc, if_true, List.append_nil]; exact B⟩
    · obtain rfl : w = 1 := by omega
      obtain ⟨g', f, e, B'⟩ := T_addCode (d := d + m + 1) (s := s) (v := -15) C B (by omega)
      rw [if_neg (by decide), e]
      simp only [zbd_i, tl_n]
      rw [S_LTx_readCondition_53 (N := 0) (C.fr f).1.sk, (C.fr f).tk (j := 26) (by decide) (by decide) hs, if_neg (nw _)]
      simp only [zbd_i, tl_s]
      rw [S_LTx_readCondition_59, if_pos (by decide)]
      exact ⟨g', f, rfl, B'⟩
  | succ n ih =>
    intro s k w f1 f2 g cl hn h1 h2 hk hs hw hl C B
    have hE := C.2.2.2.1
    rw [S_LTx_readCondition_11 (N := 0) C.1.sk, if_neg (nI_ge (by omega) (by decide)), C.tk (j := 25) (by decide) (by decide) hs]
    by_cases c1 : isW T E s (wt 25) = true
    · have gt := adv_gt (T := T) (isW_lt c1)
      obtain ⟨f1', rfl⟩ : ∃ f, f1 = f + 1 := ⟨f1 - 1, by have := isW_lt c1; omega⟩
      rw [if_pos c1]
      simp only [zbd_i, tl_s]
      rw [S_LTx_readCondition_25 C.ls C.1.sk, if_neg (by decide)]
      have := A d g (adv T E s) cl C B (adv_le hs) (by omega)
      have pg := atm_g (T := T) m (adv T E s) (adv_le (T := T) hs)
      unfold cnd andL
      rw [if_pos c1]
      revert this pg
      cases atm T E m (adv T E s) with
      | inl e =>
        rintro ⟨g', f, e1⟩ -
        rw [e1]
        simp only [zbd_e, evx_nil (n := 26) rfl]
        exact ⟨g', f, rfl⟩
      | inr q =>
        rintro ⟨g', f, e1, B1⟩ pg
        obtain ⟨p1, p2, p3⟩ : adv T E s + q.1.length ≤ q.2 ∧ adv T E s < q.2 ∧ q.2 ≤ E := pg
        have C1 := C.fr f
        have l1 : (cl ++ q.1).length = cl.length + q.1.length := List.length_append
        obtain ⟨g2, f2', e2, B2⟩ := T_addCode (d := d + m + 1) (s := q.2) (v := -14) C1 B1 (by rw [l1]; omega)
        have l2 : (cl ++ q.1 ++ [-14]).length = cl.length + q.1.length + 1 := by rw [List.length_append, l1]; rfl
        rw [e1]
        simp only [zbd_i, tl_n]
        rw [S_LTx_readCondition_34 C1.ls, e2]
        simp only [zbd_i, tl_n, S_LTx_readCondition_40, nI_add]
        have := ih q.2 (k + 1) w f1' f2 g2 _ (by omega) (by omega) (by omega) (by omega) p3 hw (by rw [l2]; omega) (C1.fr f2') B2
        have := KR_inr (c0 := q.1 ++ [-14]) (cl := cl) (f.tr f2') (by rw [← List.append_assoc]; exact this)
        unfold cnd at this
        show KR g r T E L cl _ (pB (pB (andL T E (atm T E m) f1' q.2) _) _)
        revert this
        cases andL T E (atm T E m) f1' q.2 with
        | inl e => exact fun t => t
        | inr q1 =>
          show KR g r T E L cl _ (pB (pB (orL T E (atm T E m) f2 q1.2) _) _) → KR g r T E L cl _ (pB (orL T E (atm T E m) f2 q1.2) _)
          cases orL T E (atm T E m) f2 q1.2 with
          | inl e => exact fun t => t
          | inr q2 =>
            rintro ⟨g3, f3, e3, B3⟩
            exact ⟨g3, f3, e3, by simp only [List.append_assoc, List.cons_append, List.nil_append] at B3 ⊢; exact B3⟩
    · have a0 : andL T E (atm T E m) f1 s = .inr ([], s) := by
        cases f1 with
        | zero => rfl
        | succ f1 => exact if_neg c1
      rw [if_neg c1]
      simp only [zbd_i, tl_s]
      rw [S_LTx_readCondition_25 C.ls C.1.sk, if_pos (by decide)]
      unfold cnd
      rw [a0]
      show KR g r T E L cl _ (pB (orL T E (atm T E m) f2 s) _)
      /- behind the or that waited -/
      have go : ∀ g1, Fz L g g1 → LB g1 L E (cl ++ owc w) → KR g r T E L cl (zbd (ev z (d + m + 1) 94 0 [.ref r, .ref (z.1 35), zu] [] (rdH g1 r T E s)) (fun v h' => ev z (d + m + 1) 26 59 [.ref L, .ref r, .int (nI (6 - m)), .int (nI w), .int (nI k)] (v.toList ++ []) h') (fun e h' => evx z (d + m + 1) 26 56 [.ref L, .ref r, .int (nI (6 - m)), .int (nI w), .int (nI k)] e h')) (pB (orL T E (atm T E m) f2 s) (fun q2 => .inr ([] ++ (owc w ++ q2.1), q2.2))) := by
        intro g1 f B1
        have C1 := C.fr f
        have lw : (cl ++ owc w).length ≤ cl.length + w := by
          rw [List.length_append]
          unfold owc
          split
          · simp
          · simp; omega
        rw [C1.tk (j := 26) (by decide) (by decide) hs]
        by_cases c2 : isW T E s (wt 26) = true
        · have gt := adv_gt (T := T) (isW_lt c2)
          obtain ⟨f2', rfl⟩ : ∃ f, f2 = f + 1 := ⟨f2 - 1, by have := isW_lt c2; omega⟩
          rw [if_pos c2]
          simp only [zbd_i, tl_s]
          rw [S_LTx_readCondition_59, if_neg (by decide)]
          have := A d g1 (adv T E s) _ C1 B1 (adv_le hs) (by omega)
          have pg := atm_g (T := T) m (adv T E s) (adv_le (T := T) hs)
          unfold orL evy
          rw [if_pos c2]
          revert this pg
          cases atm T E m (adv T E s) with
          | inl e =>
            rintro ⟨g2, f2, e1⟩ -
            rw [e1]
            simp only [zbd_e, evx_nil (n := 26) rfl]
            exact ⟨g2, f.tr f2, rfl⟩
          | inr q =>
            rintro ⟨g2, f3, e1, B2⟩ pg
            obtain ⟨p1, p2, p3⟩ : adv T E s + q.1.length ≤ q.2 ∧ adv T E s < q.2 ∧ q.2 ≤ E := pg
            have l1 : (cl ++ owc w ++ q.1).length = (cl ++ owc w).length + q.1.length := List.length_append
            rw [e1]
            simp only [zbd_i, tl_n, S_LTx_readCondition_71, nI_add]
            have := ih q.2 (k + 1) 1 E f2' g2 _ (by omega) (by omega) (by omega) (by omega) p3 (by omega) (by rw [l1]; omega) (C1.fr f3) B2
            have := KR_inr (c0 := owc w ++ q.1) (cl := cl) (f.tr f3) (by rw [← List.append_assoc]; exact this)
            unfold cnd at this
            show KR g r T E L cl _ (pB (pB (pB (andL T E (atm T E m) E q.2) _) _) _)
            revert this
            cases andL T E (atm T E m) E q.2 with
            | inl e => exact fun t => t
            | inr q1 =>
              show KR g r T E L cl _ (pB (pB (orL T E (atm T E m) f2' q1.2) _) _) → KR g r T E L cl _ (pB (pB (orL T E (atm T E m) f2' q1.2) _) _)
              cases orL T E (atm T E m) f2' q1.2 with
              | inl e => exact fun t => t
              | inr q2 =>
                rintro ⟨g3, f4, e3, B3⟩
                refine ⟨g3, f4, e3, ?_⟩
                have o1 : owc 1 = [-15] := rfl
                rw [o1] at B3
                simp only [List.append_assoc, List.cons_append, List.nil_append] at B3 ⊢
                exact B3
        · have o0 : orL T E (atm T E m) f2 s = .inr ([], s) := by
            cases f2 with
            | zero => rfl
            | succ f2 => exact if_neg c2
          rw [if_neg c2, o0]
          simp only [zbd_i, tl_s]
          rw [S_LTx_readCondition_59, if_pos (by decide)]
          exact ⟨g1, f, rfl, by simp only [List.append_nil, List.nil_append]; exact B1⟩
      by_cases cw : w = 0
      · subst cw
        rw [if_pos (by decide)]
        exact go g Fz.rf (by simp only [owc, if_true, List.append_nil]; exact B)
      · obtain rfl : w = 1 := by omega
        obtain ⟨g', f, e, B'⟩ := T_addCode (d := d + m + 1) (s := s) (v := -15) C B (by omega)
        rw [if_neg (by decide), e]
        simp only [zbd_i, tl_n]
        rw [S_LTx_readCondition_53 (N := 0) (C.fr f).1.sk]
        exact go g' f B'
theorem T_cond (A : AtC z r b Nb E T L m) (C : CX z g r b Nb E T L) (B : LB g L E cl) (hs : s ≤ E) (hl : cl.length ≤ s) : KR g r T E L cl (ev z (d + m + 1) 26 0 [.ref L, .ref r, .int (nI (6 - m)), zu, zu] [] (rdH g r T E s)) (smy T E (atm T E m) s) := by
  rw [S_LTx_readCondition_0]
  have := A d g s cl C B hs hl
  have pg := atm_g (T := T) m s hs
  unfold smy evy
  revert this pg
  cases atm T E m s with
  | inl e =>
    rintro ⟨g', f, e1⟩ -
    rw [e1]
    simp only [zbd_e, evx_nil (n := 26) rfl]
    exact ⟨g', f, rfl⟩
  | inr q =>
    rintro ⟨g', f, e1, B1⟩ pg
    obtain ⟨p1, p2, p3⟩ : s + q.1.length ≤ q.2 ∧ s < q.2 ∧ q.2 ≤ E := pg
    have l1 : (cl ++ q.1).length = cl.length + q.1.length := List.length_append
    rw [e1]
    simp only [zbd_i, tl_n, S_LTx_readCondition_6]
    have := T_cond_l (d := d) A E q.2 0 0 E E g' _ (by omega) (by omega) (by omega) (by omega) p3 (by omega) (by rw [l1]; omega) (C.fr f) B1
    have := KR_inr (c0 := q.1) (cl := cl) f this
    unfold cnd at this
    show KR g r T E L cl _ (pB (pB (andL T E (atm T E m) E q.2) _) _)
    revert this
    cases andL T E (atm T E m) E q.2 with
    | inl e => exact fun t => t
    | inr q1 =>
      show KR g r T E L cl _ (pB (pB (orL T E (atm T E m) E q1.2) _) _) → KR g r T E L cl _ (pB (orL T E (atm T E m) E q1.2) _)
      cases orL T E (atm T E m) E q1.2 with
      | inl e => exact fun t => t
      | inr q2 =>
        rintro ⟨g3, f4, e3, B3⟩
        refine ⟨g3, f4, e3, ?_⟩
        have o0 : owc 0 = [] := rfl
        rw [o0] at B3
        simp only [List.append_assoc, List.nil_append] at B3 ⊢
        exact B3
end
