/-! ATOMS, LINES, THE TEXT OF A LAW as the class reads them -/
section
variable {z : ZE} {d : Nat} {g g' : Hp} {r b Nb E s L m : Nat} {T : Row} {cl : List Int32}
theorem CX.aw (C : CX z g r b Nb E T L) {i j : Nat} (hi : i < 65) (e : wt i = wt j) (hs : s ≤ E) : ev z d 92 0 [.ref r, .ref (z.1 i), zu] [] (rdH g r T E s) = some (.inl (some (.int (bI (isW T E s (wt j))))), rdH g r T E s) := by rw [← e]; exact T_atWord C.1 (C.2.1 i hi) hs
theorem T_atomC : ∀ m, m ≤ 6 → AtC z r b Nb E T L m := by
  intro m
  induction m with
  | zero =>
    intro _ d g s cl C B hs hl
    have O := C.1
    rw [S_LTx_readAtom_0 (N := 0) O.sk, C.aw (j := 24) (by decide) (by decide) hs]
    simp only [zbd_i, tl_s]
    rw [S_LTx_readAtom_6 (N := 0) O.sk]
    unfold atm
    by_cases c1 : isW T E s (wt 24) = true
    · rw [if_neg (by rw [bI_0]; exact fun x => x c1), if_neg (by decide), T_refuse O, if_pos c1]
      simp only [zbd_e, evx_nil (n := 27) rfl]
      exact ⟨g, Fz.rf, rfl⟩
    · rw [if_pos (by rw [bI_0]; exact c1), T_atSign O, if_neg c1]
      simp only [zbd_i, tl_s]
      by_cases c2 : isS T E s (nI 40) = true
      · rw [S_LTx_readAtom_17 (N := 0) O.sk, if_neg (by rw [bI_0]; exact fun x => x c2), if_neg (by decide), T_refuse O, if_pos c2]
        simp only [zbd_e, evx_nil (n := 27) rfl]
        exact ⟨g, Fz.rf, rfl⟩
      · rw [if_neg c2, bI_f c2]
        exact T_plain C B hs hl
  | succ m ih =>
    intro hm d g s cl C B hs hl
    have A := ih (by omega)
    have O := C.1
    have l6 : nI (6 - (m + 1)) < nI 6 := nI_lt (by omega) (by decide)
    have e6 : nI (6 - (m + 1)) + nI 1 = nI (6 - m) := by rw [nI_add]; congr 1; omega
    show KR g r T E L cl (ev z (d + m + 1 + 1) 27 0 [.ref L, .ref r, .int (nI (6 - (m + 1))), zu, zu] [] (rdH g r T E s)) _
    rw [S_LTx_readAtom_0 (N := 0) O.sk, C.aw (j := 24) (by decide) (by decide) hs]
    simp only [zbd_i, tl_s]
    rw [S_LTx_readAtom_6 (N := 0) O.sk]
    unfold atm
    by_cases c1 : isW T E s (wt 24) = true
    · have gt := adv_gt (T := T) (isW_lt c1)
      rw [if_neg (by rw [bI_0]; exact fun x => x c1), if_pos l6, T_adv O hs, if_pos c1]
      simp only [zbd_i, tl_n]
      rw [S_LTx_readAtom_34, if_neg (by rw [bI_0]; exact fun x => x c1), e6]
      have := A d g (adv T E s) cl C B (adv_le hs) (by omega)
      have pg := atm_g (T := T) m (adv T E s) (adv_le (T := T) hs)
      revert this pg
      cases atm T E m (adv T E s) with
      | inl e =>
        rintro ⟨g', f, e1⟩ -
        rw [e1]
        simp only [zbd_e, evx_nil (n := 27) rfl]
        exact ⟨g', f, rfl⟩
      | inr q =>
        rintro ⟨g', f, e1, B1⟩ pg
        obtain ⟨p1, p2, p3⟩ : adv T E s + q.1.length ≤ q.2 ∧ adv T E s < q.2 ∧ q.2 ≤ E := pg
        have C1 := C.fr f
        have l1 : (cl ++ q.1).length = cl.length + q.1.length := List.length_append
        obtain ⟨g2, f2, e2, B2⟩ := T_addCode (d := d + m + 1 + 1) (s := q.2) (v := -16) C1 B1 (by rw [l1]; omega)
        rw [e1]
        simp only [zbd_i, tl_n]
        rw [S_LTx_readAtom_46 C1.ls, e2]
        simp only [zbd_i, tl_n, S_LTx_readAtom_52]
        exact ⟨g2, f.tr f2, rfl, by rw [List.append_assoc] at B2; exact B2⟩
    · rw [if_pos (by rw [bI_0]; exact c1), T_atSign O, if_neg c1]
      simp only [zbd_i, tl_s]
      by_cases c2 : isS T E s (nI 40) = true
      · have gt := adv_gt (T := T) (isS_lt c2)
        rw [S_LTx_readAtom_17 (N := 0) O.sk, if_neg (by rw [bI_0]; exact fun x => x c2), if_pos l6, T_adv O hs, if_pos c2]
        simp only [zbd_i, tl_n]
        rw [S_LTx_readAtom_34, if_pos (by rw [bI_0]; exact c1), e6]
        have := T_cond (d := d) (s := adv T E s) A C B (adv_le hs) (by omega)
        have pg := smy_g (T := T) (fun s hs => atm_g (T := T) m s hs) (adv_le (T := T) hs)
        revert this pg
        cases smy T E (atm T E m) (adv T E s) with
        | inl e =>
          rintro ⟨g', f, e1⟩ -
          rw [e1]
          simp only [zbd_e, evx_nil (n := 27) rfl]
          exact ⟨g', f, rfl⟩
        | inr q =>
          rintro ⟨g', f, e1, B1⟩ pg
          obtain ⟨p1, p2, p3⟩ : adv T E s + q.1.length ≤ q.2 ∧ adv T E s < q.2 ∧ q.2 ≤ E := pg
          have C1 := C.fr f
          rw [e1]
          simp only [zbd_i, tl_n]
          rw [S_LTx_readAtom_63 (N := 0) C1.1.sk, T_needS C1.1 p3]
          show KR g r T E L cl _ (if isS T E q.2 (nI 41) = true then _ else _)
          by_cases c3 : isS T E q.2 (nI 41) = true
          · rw [if_pos c3, if_pos c3]
            simp only [zbd_i, tl_n, S_LTx_readAtom_69]
            exact ⟨g', f, rfl, B1⟩
          · rw [if_neg c3, if_neg c3]
            simp only [zbd_e, evx_nil (n := 27) rfl]
            exact ⟨g', f, rfl⟩
      · rw [if_neg c2, bI_f c2]
        exact T_plain C B hs hl
end
/-! lines -/
def cdL : List LN → List Int32
  | [] => []
  | l :: ls => l.2.2 ++ cdL ls
theorem cdL_a : ∀ (a b : List LN), cdL (a ++ b) = cdL a ++ cdL b
  | [], b => rfl
  | l :: a, b => by
    show l.2.2 ++ cdL (a ++ b) = (l.2.2 ++ cdL a) ++ cdL b
    rw [cdL_a a b, List.append_assoc]
def ln0 : LN := (0, 0, [])
/-- a law: its lines and codes -/
def LL (g : Hp) (L E : Nat) (ls : List LN) : Prop := LB g L E (cdL ls) ∧ zI g L 5 = nI ls.length ∧ ∀ j, j < ls.length → zI g (L + 1) j = (ls.getD j ln0).1 ∧ zI g (L + 2) j = (ls.getD j ln0).2.1 ∧ zI g (L + 3) j = nI (cdL (ls.take (j + 1))).length
abbrev Ly (L : Nat) : Nat → Prop := fun x => L ≤ x ∧ x ≤ L + 5
def LR2 (g : Hp) (r : Nat) (T : Row) (E L : Nat) (ls : List LN) (o : Option (zO × Hp)) (x : Nat ⊕ List LN) : Prop := match x with
  | .inr l2 => ∃ g' e, Fr (Ly L) g g' ∧ o = some (.inl none, rdH g' r T E e) ∧ LL g' L E (ls ++ l2)
  | .inl e => ∃ g', Fr (Ly L) g g' ∧ o = some (.inr 0, xH (rdH g' r T E e) r e)
section
variable {z : ZE} {d : Nat} {g g' : Hp} {r b Nb E s L m : Nat} {T : Row} {cl : List Int32} {ls : List LN}
theorem Lzy {x : Nat} (h : Lz L x) : Ly L x := by rcases h with rfl | rfl <;> exact ⟨by omega, by omega⟩
theorem CX.fy (C : CX z g r b Nb E T L) (hr : ¬ Ly L r) (hb : ¬ Ly L b) (f : Fr (Ly L) g g') : CX z g' r b Nb E T L := by
  obtain ⟨h1, h2, h3, h4, h5, h6, h7, h8⟩ := C
  refine ⟨RdT_fr f hr hb h1, WA_fr f (fun x q => ?_) h2, LSk_fr f h3, h4, h5, h6, h7, h8⟩
  have q' : x = L ∨ x = L + 1 ∨ x = L + 2 ∨ x = L + 3 ∨ x = L + 4 ∨ x = L + 5 := by have := q.1; have := q.2; omega
  rcases q' with rfl | rfl | rfl | rfl | rfl | rfl
  · rw [LSk_K h3]; decide
  · rw [LSk_a2k h3]; decide
  · rw [LSk_a3k h3]; decide
  · rw [LSk_a4k h3]; decide
  · rw [LSk_a6k h3]; decide
  · rw [LSk_a0k h3]; decide
theorem T_needKind (C : CX z g r b Nb E T L) (hs : s ≤ E) : ev z d 25 0 [.ref r] [] (rdH g r T E s) = match lwK T E s with
    | .inr q => some (.inl (some (.int q.1)), rdH g r T E q.2)
    | .inl e => some (.inr 0, xH (rdH g r T E e) r e) := by
  have O := C.1
  have nw : ev z d 95 0 [.ref r, .ref (z.1 33)] [] (rdH g r T E s) = if isW T E s (wt 28) = true then some (.inl none, rdH g r T E (adv T E s)) else some (.inr 0, xH (rdH g r T E s) r s) := T_needW O (C.2.1 33 (by decide)) hs
  rw [S_LTx_needKind_0 O.sk, C.tk (j := 20) (by decide) (by decide) hs]
  unfold lwK
  by_cases c1 : isW T E s (wt 20) = true
  · rw [if_pos c1, if_pos c1]
    simp only [zbd_i, tl_s]
    rw [S_LTx_needKind_6 O.sk, if_neg (by decide)]
  · rw [if_neg c1, if_neg c1]
    simp only [zbd_i, tl_s]
    rw [S_LTx_needKind_6 O.sk, if_pos (by decide), C.tk (j := 27) (by decide) (by decide) hs]
    by_cases c2 : isW T E s (wt 27) = true
    · rw [if_pos c2, if_pos c2]
      simp only [zbd_i, tl_s]
      rw [S_LTx_needKind_17 O.sk, if_neg (by decide)]
    · rw [if_neg c2, if_neg c2]
      simp only [zbd_i, tl_s]
      rw [S_LTx_needKind_17 O.sk, if_pos (by decide), nw]
      by_cases c3 : isW T E s (wt 28) = true
      · rw [if_pos c3, if_pos c3]
        simp only [zbd_i, tl_n, S_LTx_needKind_28]
      · rw [if_neg c3, if_neg c3]
        simp only [zbd_e, evx_nil (n := 25) rfl]
theorem getD_ll {l : List LN} {v : LN} {j : Nat} (hj : j < l.length) : (l ++ [v]).getD j ln0 = l.getD j ln0 := by
  simp [List.getD_eq_getElem?_getD, List.getElem?_append_left hj]
theorem getD_rl {l : List LN} {v : LN} : (l ++ [v]).getD l.length ln0 = v := by
  simp [List.getD_eq_getElem?_getD]
theorem T_addLine (C : CX z g r b Nb E T L) (hr : ¬ Ly L r) {k n : Int32} {c : List Int32} (B : LB g L E (cdL ls ++ c)) (h5 : zI g L 5 = nI ls.length) (hj : ∀ j, j < ls.length → zI g (L + 1) j = (ls.getD j ln0).1 ∧ zI g (L + 2) j = (ls.getD j ln0).2.1 ∧ zI g (L + 3) j = nI (cdL (ls.take (j + 1))).length) (hl : ls.length < 12) : ∃ g', Fr (Ly L) g g' ∧ ev z d 20 0 [.ref L, .int k, .int n] [] (rdH g r T E s) = some (.inl none, rdH g' r T E s) ∧ LL g' L E (ls ++ [(k, n, c)]) := by
  have h3 := C.2.2.1
  have rn0 : ∀ i, i ≤ 5 → L + i ≠ r := fun i hi e => hr ⟨by omega, by omega⟩
  have rL : L ≠ r := fun e => hr ⟨by omega, by omega⟩
  have e5 : zI (rdH g r T E s) L 5 = nI ls.length := (rd_o rL).trans h5
  have e1 : zI (rdH g r T E s) L 1 = nI (cdL ls ++ c).length := (rd_o rL).trans B.2.1
  have ec : cdL (ls ++ [(k, n, c)]) = cdL ls ++ c := by
    rw [cdL_a]
    show cdL ls ++ (c ++ []) = _
    rw [List.append_nil]
  refine ⟨zwI (zwI (zwI (zwI g (L + 1) ls.length k) (L + 2) ls.length n) (L + 3) ls.length (nI (cdL ls ++ c).length)) L 5 (nI (ls.length + 1)), ?_, ?_, ?_⟩
  · exact Fr.a (Fr.a (Fr.a (Fr.w ⟨by omega, by omega⟩) ⟨by omega, by omega⟩) ⟨by omega, by omega⟩) ⟨by omega, by omega⟩
  · rw [S_Law_addLine_0 (C.ls), e5, if_neg (nI_ge hl (by decide)), ix_n hl (by decide), ix_n hl (by decide), ix_n hl (by decide), e1, nI_add, rd_wI (rn0 1 (by decide)), rd_wI (rn0 2 (by decide)), rd_wI (rn0 3 (by decide)), rd_wI rL]
  · refine ⟨⟨h3, ?_, fun j hj' => ?_⟩, ?_, fun j hj' => ?_⟩
    · rw [ec, zI_wj (by decide), zI_wb (by omega), zI_wb (by omega), zI_wb (by omega)]
      exact B.2.1
    · rw [ec] at hj' ⊢
      rw [zI_wb (by omega), zI_wb (by omega), zI_wb (by omega), zI_wb (by omega)]
      exact B.2.2 j hj'
    · rw [zI_wa, List.length_append]; rfl
    · rw [List.length_append] at hj'
      have hj2 : j < ls.length + 1 := hj'
      by_cases q : j = ls.length
      · subst q
        rw [getD_rl]
        refine ⟨?_, ?_, ?_⟩
        · rw [zI_wb (by omega), zI_wb (by omega), zI_wb (by omega), zI_wa]
        · rw [zI_wb (by omega), zI_wb (by omega), zI_wa]
        · rw [zI_wb (by omega), zI_wa, List.take_of_length_le (by simp), ec]
      · have := hj j (by omega)
        rw [getD_ll (by omega), List.take_append_of_le_length (by omega)]
        refine ⟨?_, ?_, ?_⟩
        · rw [zI_wb (by omega), zI_wb (by omega), zI_wb (by omega), zI_wn (by omega)]; exact this.1
        · rw [zI_wb (by omega), zI_wb (by omega), zI_wn (by omega), zI_wb (by omega)]; exact this.2.1
        · rw [zI_wb (by omega), zI_wn (by omega), zI_wb (by omega), zI_wb (by omega)]; exact this.2.2
/-- a line -/
theorem T_readL (C : CX z g r b Nb E T L) (hr : ¬ Ly L r) (hb : ¬ Ly L b) : ∀ n g s (ls : List LN), ls.length + n = 12 → CX z g r b Nb E T L → LL g L E ls → s ≤ E → (cdL ls).length ≤ s → ∀ w3 w4 : Value, LR2 g r T E L ls (ev z (d + 7) 24 10 [.ref L, .ref r, .int (nI ls.length), w3, w4] [] (rdH g r T E s)) (lwR T E n s) := by
  intro n
  induction n with
  | zero =>
    intro g s ls hn C H hs hl w3 w4
    rw [S_LTx_readInto_10 (N := 0) C.1.sk, if_pos (nI_le (by omega) (by omega)), T_refuse C.1]
    simp only [zbd_e, evx_nil (n := 24) rfl]
    exact ⟨g, Fr.rf, rfl⟩
  | succ n ih =>
    intro g s ls hn C H hs hl w3 w4
    rw [S_LTx_readInto_10 (N := 0) C.1.sk, if_neg (nI_ge (by omega) (by decide)), T_needKind C hs]
    unfold lwR lwL
    have kg : ∀ q, lwK T E s = .inr q → s < q.2 ∧ q.2 ≤ E := by
      intro q hq
      unfold lwK at hq
      repeat' split at hq
      all_goals first | (cases hq; exact ⟨adv_gt (isW_lt ‹_›), adv_le hs⟩) | cases hq
    revert kg
    cases lwK T E s with
    | inl e =>
      intro _
      simp only [zbd_e, evx_nil (n := 24) rfl]
      exact ⟨g, Fr.rf, rfl⟩
    | inr k =>
      intro kg
      obtain ⟨k1, k2⟩ := kg k rfl
      simp only [zbd_i, tl_s]
      rw [S_LTx_readInto_20 (N := 0) C.1.sk, T_needN C.1 k2]
      show LR2 g r T E L ls _ (pB (pB (pN T E (nI 0) (nI 40) k.2) _) _)
      unfold pN
      by_cases c1 : isN T E k.2 (nI 0) (nI 40) = true
      · rw [if_pos c1, if_pos c1]
        have gt := adv_gt (T := T) (isN_lt c1)
        have le := adv_le (T := T) k2
        simp only [zbd_i, tl_s]
        rw [S_LTx_readInto_28 (N := 0) C.1.sk, C.tk (j := 29) (by decide) (by decide) le]
        generalize hv : tkV T E k.2 = nv
        generalize ha : adv T E k.2 = s2 at gt le
        /- behind the line -/
        have go : ∀ (g1 : Hp) (c : List Int32) (s3 : Nat), Fz L g g1 → LB g1 L E (cdL ls ++ c) → s2 + c.length ≤ s3 → s3 ≤ E → LR2 g r T E L ls (zbd (ev z (d + 7) 20 0 [.ref L, .int k.1, .int nv] [] (rdH g1 r T E s3)) (fun v h' => ev z (d + 7) 24 52 [.ref L, .ref r, .int (nI ls.length), .int k.1, .int nv] (v.toList ++ []) h') (fun e h' => evx z (d + 7) 24 49 [.ref L, .ref r, .int (nI ls.length), .int k.1, .int nv] e h')) (if s3 < E then (if isS T E s3 (nI 59) = true then pB (lwR T E n (adv T E s3)) (fun l2 => .inr ((k.1, nv, c) :: l2)) else .inl s3) else .inr [(k.1, nv, c)]) := by
          intro g1 c s3 f B1 h3 h4
          have C1 := C.fr f
          obtain ⟨h5, h6⟩ := H.2
          have nz : ∀ i, 1 ≤ i → i ≤ 4 → ¬ Lz L (L + i) := fun i h1 h2 q => by rcases q with q | q <;> omega
          have j5 : zI g1 L 5 = nI ls.length := (f.2 5 (by decide)).trans h5
          have jj : ∀ j, j < ls.length → zI g1 (L + 1) j = (ls.getD j ln0).1 ∧ zI g1 (L + 2) j = (ls.getD j ln0).2.1 ∧ zI g1 (L + 3) j = nI (cdL (ls.take (j + 1))).length := by
            intro j hj
            rw [f.1.i (nz 1 (by decide) (by decide)), f.1.i (nz 2 (by decide) (by decide)), f.1.i (nz 3 (by decide) (by decide))]
            exact h6 j hj
          obtain ⟨g2, f2, e2, H2⟩ := T_addLine (d := d + 7) (s := s3) (k := k.1) (n := nv) C1 hr B1 j5 jj (by omega)
          have C2 := C1.fy hr hb f2
          have ff : Fr (Ly L) g g2 := (f.1.mo (fun x q => Lzy q)).tr f2
          rw [e2]
          simp only [zbd_i, tl_n]
          rw [S_LTx_readInto_52 (N := 0) C2.1.sk, T_goesOn C2.1 h4]
          by_cases c2 : s3 < E
          · rw [if_pos c2, if_pos c2]
            by_cases c3 : isS T E s3 (nI 59) = true
            · have gt3 := adv_gt (T := T) c2
              rw [if_pos c3, if_pos c3]
              simp only [zbd_i, tl_s]
              rw [S_LTx_readInto_56, if_neg (by decide), nI_add]
              have l2 : (ls ++ [(k.1, nv, c)]).length = ls.length + 1 := by simp
              have lc : (cdL (ls ++ [(k.1, nv, c)])).length = (cdL ls).length + c.length := by
                rw [cdL_a, List.length_append]
                show _ + (c ++ []).length = _
                rw [List.append_nil]
              have := ih g2 (adv T E s3) (ls ++ [(k.1, nv, c)]) (by rw [l2]; omega) C2 H2 (adv_le h4) (by rw [lc]; omega) (.int k.1) (.int nv)
              rw [l2] at this
              revert this
              cases lwR T E n (adv T E s3) with
              | inl e =>
                rintro ⟨g3, f3, e3⟩
                exact ⟨g3, ff.tr f3, e3⟩
              | inr l3 =>
                rintro ⟨g3, e, f3, e3, H3⟩
                exact ⟨g3, e, ff.tr f3, e3, by rw [List.append_assoc] at H3; exact H3⟩
            · rw [if_neg c3, if_neg c3]
              simp only [zbd_e, evx_nil (n := 24) rfl]
              exact ⟨g2, ff, rfl⟩
          · rw [if_neg c2, if_neg c2]
            simp only [zbd_i, tl_s]
            rw [S_LTx_readInto_56, if_pos (by decide)]
            exact ⟨g2, s3, ff, rfl, H2⟩
        show LR2 g r T E L ls _ (pB (if isW T E s2 (wt 29) = true then _ else _) _)
        by_cases c2 : isW T E s2 (wt 29) = true
        · have gt2 := adv_gt (T := T) (isW_lt c2)
          rw [if_pos c2, if_pos c2]
          simp only [zbd_i, tl_s]
          rw [S_LTx_readInto_36 C.ls, if_neg (by decide)]
          have := T_cond (z := z) (d := d) (s := adv T E s2) (T_atomC 6 (Nat.le_refl 6)) C H.1 (adv_le le) (by omega)
          have pg := smy_g (T := T) (fun s hs => atm_g (T := T) 6 s hs) (adv_le (T := T) le)
          revert this pg
          cases smy T E (atm T E 6) (adv T E s2) with
          | inl e =>
            rintro ⟨g', f, e1⟩ -
            have e1' : ev z (d + 7) 26 0 [.ref L, .ref r, .int (nI 0), zu, zu] [] (rdH g r T E (adv T E s2)) = some (.inr 0, xH (rdH g' r T E e) r e) := e1
            rw [e1']
            simp only [zbd_e, evx_nil (n := 24) rfl]
            exact ⟨g', f.1.mo (fun x q => Lzy q), rfl⟩
          | inr q =>
            rintro ⟨g', f, e1, B1⟩ pg
            obtain ⟨p1, p2, p3⟩ : adv T E s2 + q.1.length ≤ q.2 ∧ adv T E s2 < q.2 ∧ q.2 ≤ E := pg
            have e1' : ev z (d + 7) 26 0 [.ref L, .ref r, .int (nI 0), zu, zu] [] (rdH g r T E (adv T E s2)) = some (.inl none, rdH g' r T E q.2) := e1
            rw [e1']
            simp only [zbd_i, tl_n]
            rw [S_LTx_readInto_45 (C.fr f).ls]
            exact go g' q.1 q.2 f B1 (by omega) p3
        · rw [if_neg c2, if_neg c2]
          simp only [zbd_i, tl_s]
          rw [S_LTx_readInto_36 C.ls, if_pos (by decide)]
          exact go g [] s2 Fz.rf (by rw [List.append_nil]; exact H.1) (by simp) le
      · rw [if_neg c1, if_neg c1]
        simp only [zbd_e, evx_nil (n := 24) rfl]
        exact ⟨g, Fr.rf, rfl⟩
end
