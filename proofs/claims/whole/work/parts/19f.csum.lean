/-! THE LAW'S TEXT as the class reads it -/
def LB (g : Hp) (L N : Nat) (cl : List Int32) : Prop := LSk g L N ∧ zI g L 1 = nI cl.length ∧ ∀ j, j < cl.length → zI g (L + 5) j = cl.getD j 0
def CX (z : ZE) (g : Hp) (r b Nb E : Nat) (T : Row) (L : Nat) : Prop := RdT g r b Nb E T ∧ WA z g ∧ LSk g L E ∧ E ≤ 400 ∧ (r ≠ L ∧ r ≠ L + 5 ∧ b ≠ L ∧ b ≠ L + 5)
abbrev Lz (L : Nat) : Nat → Prop := fun x => x = L ∨ x = L + 5
def Fz (L : Nat) (g g' : Hp) : Prop := Fr (Lz L) g g' ∧ ∀ y, y ≠ 1 → zI g' L y = zI g L y
theorem Fz.rf {L : Nat} {g : Hp} : Fz L g g := ⟨Fr.rf, fun _ _ => rfl⟩
theorem Fz.tr {L : Nat} {g g1 g2 : Hp} (a : Fz L g g1) (b : Fz L g1 g2) : Fz L g g2 := ⟨a.1.tr b.1, fun y hy => (b.2 y hy).trans (a.2 y hy)⟩
def KR (g : Hp) (r : Nat) (T : Row) (E L : Nat) (cl : List Int32) (o : Option (zO × Hp)) (x : CR) : Prop := match x with
  | .inr q => ∃ g', Fz L g g' ∧ o = some (.inl none, rdH g' r T E q.2) ∧ LB g' L E (cl ++ q.1)
  | .inl e => ∃ g', Fz L g g' ∧ o = some (.inr 0, xH (rdH g' r T E e) r e)
section
variable {z : ZE} {d : Nat} {g g' : Hp} {r b Nb E s L : Nat} {T : Row} {cl : List Int32}
theorem RdT_fr {A : Nat → Prop} (f : Fr A g g') (hr : ¬ A r) (hb : ¬ A b) (O : RdT g r b Nb E T) : RdT g' r b Nb E T := by
  obtain ⟨h1, h2, h3, h4, h5, h6⟩ := O
  exact ⟨RdSk_fr f h1, by rw [f.i hr]; exact h2, h3, h4, h5, by rw [f.i hb]; exact h6⟩
theorem CX.fr (C : CX z g r b Nb E T L) (f : Fz L g g') : CX z g' r b Nb E T L := by
  replace f := f.1
  obtain ⟨h1, h2, h3, h4, h5, h6, h7, h8⟩ := C
  refine ⟨RdT_fr f (fun q => by rcases q with q | q <;> contradiction) (fun q => by rcases q with q | q <;> contradiction) h1, WA_fr f (fun x q => ?_) h2, LSk_fr f h3, h4, h5, h6, h7, h8⟩
  rcases q with rfl | rfl
  · rw [LSk_K h3]; decide
  · rw [LSk_a0k h3]; decide
theorem rd_wI {a j : Nat} {v : Int32} (ha : a ≠ r) : zwI (rdH g r T E s) a j v = rdH (zwI g a j v) r T E s := by
  show hI g (zup (rdF (zI g) r T E s) a j v) = hI g (rdF (zup (zI g) a j v) r T E s)
  refine hI_ext (fun x y => ?_)
  unfold rdF zup
  by_cases hx : x = r
  · have : ¬ x = a := fun e => ha (e.symm.trans hx)
    simp [this]
  · by_cases hy : x = a ∧ y = j
    · simp [hx, hy, ha]
    · simp [hx, hy]
theorem getD_l {l : List Int32} {v : Int32} {j : Nat} (hj : j < l.length) : (l ++ [v]).getD j 0 = l.getD j 0 := by
  simp [List.getD_eq_getElem?_getD, List.getElem?_append_left hj]
theorem getD_r {l : List Int32} {v : Int32} : (l ++ [v]).getD l.length 0 = v := by
  simp [List.getD_eq_getElem?_getD]
theorem T_addCode (C : CX z g r b Nb E T L) (B : LB g L E cl) (hl : cl.length < E) {v : Int32} : ∃ g', Fz L g g' ∧ ev z d 19 0 [.ref L, .int v] [] (rdH g r T E s) = some (.inl none, rdH g' r T E s) ∧ LB g' L E (cl ++ [v]) := by
  obtain ⟨h1, h2, h3, h4, h5, h6, h7, h8⟩ := C
  obtain ⟨b1, b2, b3⟩ := B
  have e1 : zI (rdH g r T E s) L 1 = nI cl.length := (rd_o (Ne.symm h5)).trans b2
  refine ⟨zwI (zwI g (L + 5) cl.length v) L 1 (nI (cl.length + 1)), ⟨Fr.a (Fr.w (Or.inr rfl)) (Or.inl rfl), fun y hy => (zI_wj hy).trans (zI_wb (by omega))⟩, ?_, ?_⟩
  · rw [S_Law_addCode_0 (show LSk (rdH g r T E s) L E from h3), e1, if_neg (nI_ge hl (by omega)), ix_n hl (by omega), nI_add, rd_wI (Ne.symm h6), rd_wI (Ne.symm h5)]
  · refine ⟨h3, ?_, fun j hj => ?_⟩
    · rw [zI_wa, List.length_append]; rfl
    · rw [List.length_append] at hj
      have hj' : j < cl.length + 1 := hj
      rw [zI_wb (by omega)]
      by_cases c : j = cl.length
      · subst c; rw [zI_wa, getD_r]
      · rw [zI_wn (by omega), getD_l (by omega)]; exact b3 j (by omega)
/-- a result's continuation -/
theorem KR_inr {x : CR} {o : Option (zO × Hp)} (f : Fz L g g') {c0 : List Int32} (k : KR g' r T E L (cl ++ c0) o x) : KR g r T E L cl o (pB x (fun q => .inr (c0 ++ q.1, q.2))) := by
  cases x with
  | inl e =>
    obtain ⟨g2, f2, e2⟩ := k
    exact ⟨g2, f.tr f2, e2⟩
  | inr q =>
    obtain ⟨g2, f2, e2, b2⟩ := k
    exact ⟨g2, f.tr f2, e2, by rw [List.append_assoc] at b2; exact b2⟩
theorem T_factAt (C : CX z g r b Nb E T L) (hs : s ≤ E) : ev z d 30 0 [.ref r] [] (rdH g r T E s) = some (.inl (some (.int (match fW T E s with
    | some k => nI k
    | none => -1))), rdH g r T E s) := by
  obtain ⟨O, hW, -⟩ := C
  have q : ∀ i j, i < 65 → wt i = wt j → ev z d 92 0 [.ref r, .ref (z.1 i), zu] [] (rdH g r T E s) = some (.inl (some (.int (bI (isW T E s (wt j))))), rdH g r T E s) := fun i j hi e => by rw [← e]; exact T_atWord O (hW i hi) hs
  rw [S_LTx_factAtWord_0 O.sk, q 39 15 (by decide) (by decide)]
  simp only [zbd_i, tl_s]
  rw [S_LTx_factAtWord_6 O.sk, q 40 3 (by decide) (by decide)]
  simp only [zbd_i, tl_s, bI_0]
  rw [S_LTx_factAtWord_17 O.sk, q 41 6 (by decide) (by decide)]
  simp only [zbd_i, tl_s, bI_0]
  rw [S_LTx_factAtWord_28 O.sk, q 31 20 (by decide) (by decide)]
  simp only [zbd_i, tl_s, bI_0]
  rw [S_LTx_factAtWord_39 O.sk, q 42 21 (by decide) (by decide)]
  simp only [zbd_i, tl_s, bI_0]
  rw [S_LTx_factAtWord_50 O.sk, q 43 16 (by decide) (by decide)]
  simp only [zbd_i, tl_s, bI_0]
  rw [S_LTx_factAtWord_61 O.sk, q 44 17 (by decide) (by decide)]
  simp only [zbd_i, tl_s, S_LTx_factAtWord_72, bI_0]
  unfold fW
  by_cases c0 : isW T E s (wt 15) = true
  · rw [if_neg (fun x => x c0), if_pos c0]
  · rw [if_pos c0, if_neg c0]
    by_cases c1 : isW T E s (wt 3) = true
    · rw [if_neg (fun x => x c1), if_pos c1]
    · rw [if_pos c1, if_neg c1]
      by_cases c2 : isW T E s (wt 6) = true
      · rw [if_neg (fun x => x c2), if_pos c2]
      · rw [if_pos c2, if_neg c2]
        by_cases c3 : isW T E s (wt 20) = true
        · rw [if_neg (fun x => x c3), if_pos c3]
        · rw [if_pos c3, if_neg c3]
          by_cases c4 : isW T E s (wt 21) = true
          · rw [if_neg (fun x => x c4), if_pos c4]
          · rw [if_pos c4, if_neg c4]
            by_cases c5 : isW T E s (wt 16) = true
            · rw [if_neg (fun x => x c5), if_pos c5]
            · rw [if_pos c5, if_neg c5]
              by_cases c6 : isW T E s (wt 17) = true
              · rw [if_neg (fun x => x c6), if_pos c6]
              · rw [if_pos c6, if_neg c6]
theorem fW_n (h : tkK T E s = nI 2) : fW T E s = none := by
  have q : ∀ tx, isW T E s tx = true → False := by
    intro tx hx
    unfold isW at hx
    have a := of_decide_eq_true (Bool.and_eq_true_iff.mp hx).1
    have b := (tkK_1 (T := T)).mpr ⟨a.1, a.2.1⟩
    rw [h] at b
    exact absurd b (by decide)
  unfold fW
  repeat' split
  all_goals first | rfl | exact (q _ ‹_›).elim
theorem pPt_s {k : Nat} (h : fW T E s = some k) : pPt T E s = .inr ((-1) - nI k, adv T E s) := by
  unfold pPt
  by_cases c : tkK T E s = nI 2
  · rw [fW_n c] at h; cases h
  · rw [if_neg c, h]
theorem pPt_n (h : fW T E s = none) : pPt T E s = pN T E (nI 0) (nI 999) s := by
  unfold pPt
  by_cases c : tkK T E s = nI 2
  · rw [if_pos c]
  · rw [if_neg c, h]
    unfold pN isN
    rw [if_neg (fun q => c (of_decide_eq_true q).1)]
/-- behind a part of a sum: it is added, by + behind an earlier one, and the loop goes on -/
def QR (z : ZE) (d : Nat) (g : Hp) (r : Nat) (T : Row) (E L : Nat) (cl : List Int32) (v2 : Int32) (x : Nat ⊕ (Int32 × Nat)) (o : Option (zO × Hp)) : Prop := match x with
  | .inl e => ∃ g', Fz L g g' ∧ o = some (.inr 0, xH (rdH g' r T E e) r e)
  | .inr q => ∃ g' w, Fz L g g' ∧ LB g' L E (cl ++ [q.1]) ∧ o = (if v2 ≤ 0 then ev z d 28 2 [.ref L, .ref r, .int (v2 + nI 1), w] [] (rdH g' r T E q.2) else zbd (ev z d 19 0 [.ref L, .int (-11)] [] (rdH g' r T E q.2)) (fun v h' => ev z d 28 76 [.ref L, .ref r, .int v2, w] (v.toList ++ []) h') (fun e h' => evx z d 28 73 [.ref L, .ref r, .int v2, w] e h'))
theorem T_readPart (C : CX z g r b Nb E T L) (B : LB g L E cl) (hs : s ≤ E) (hl : cl.length ≤ s) {v2 : Int32} {w3 : Value} : QR z d g r T E L cl v2 (pPt T E s) (zbd (ev z d 30 0 [.ref r] [] (rdH g r T E s)) (fun v h' => ev z d 28 34 [.ref L, .ref r, .int v2, w3] (v.toList ++ []) h') (fun e h' => evx z d 28 31 [.ref L, .ref r, .int v2, w3] e h')) := by
  have O := C.1
  rw [T_factAt C hs]
  simp only [zbd_i, tl_s]
  rw [S_LTx_readSum_34 (N := 0) O.sk]
  have k9 : ∀ k, fW T E s = some k → k < 9 ∧ s < E := by
    intro k hk
    unfold fW at hk
    repeat' split at hk
    all_goals first | (cases hk; exact ⟨by decide, isW_lt ‹_›⟩) | cases hk
  have hn := pPt_n (T := T) (E := E) (s := s)
  have hk := fun k => pPt_s (T := T) (E := E) (s := s) (k := k)
  revert k9 hn hk
  cases fW T E s with
  | none =>
    intro _ hn _
    rw [hn rfl, if_pos rfl, T_needN O hs]
    unfold pN
    by_cases c2 : isN T E s (nI 0) (nI 999) = true
    · have lt := isN_lt c2
      have gt := adv_gt (T := T) lt
      rw [if_pos c2, if_pos c2]
      simp only [zbd_i, tl_s]
      obtain ⟨g', f, e, B'⟩ := T_addCode (d := d) (s := adv T E s) (v := tkV T E s) C B (by omega)
      rw [S_LTx_readSum_49 (show LSk (rdH g r T E (adv T E s)) L E from C.2.2.1), e]
      simp only [zbd_i, tl_n]
      rw [S_LTx_readSum_52 (show LSk (rdH g' r T E (adv T E s)) L E from (C.fr f).2.2.1)]
      exact ⟨g', _, f, B', rfl⟩
    · rw [if_neg c2, if_neg c2]
      simp only [zbd_e, evx_nil (n := 28) rfl]
      exact ⟨g, Fz.rf, rfl⟩
  | some k =>
    intro k9 _ hk
    have k9 := k9 k rfl
    have gt := adv_gt (T := T) k9.2
    rw [hk k rfl, if_neg (nI_ne1 (by omega)), T_adv O hs]
    simp only [zbd_i, tl_n]
    obtain ⟨g', f, e, B'⟩ := T_addCode (d := d) (s := adv T E s) (v := (-1) - nI k) C B (by omega)
    rw [S_LTx_readSum_59 (show LSk (rdH g r T E (adv T E s)) L E from C.2.2.1), e]
    simp only [zbd_i, tl_n]
    rw [S_LTx_readSum_66 (show LSk (rdH g' r T E (adv T E s)) L E from (C.fr f).2.2.1)]
    exact ⟨g', _, f, B', rfl⟩
theorem T_readSum_l : ∀ f s k g cl w, E - s ≤ f → 0 < k → 2 * k ≤ s + 1 → s ≤ E → cl.length ≤ s → CX z g r b Nb E T L → LB g L E cl → KR g r T E L cl (ev z d 28 2 [.ref L, .ref r, .int (nI k), w] [] (rdH g r T E s)) (sumL T E f s) := by
  intro f
  induction f with
  | zero =>
    intro s k g cl w hn h0 hk hs hl C B
    have O := C.1
    have hE := C.2.2.2.1
    rw [S_LTx_readSum_2 (N := 0) O.sk, if_neg (nI_ge (by omega) (by decide)), if_neg (nI_ne0 h0 (by omega)), T_atSign O]
    simp only [zbd_i, tl_s]
    rw [S_LTx_readSum_19 (N := 0) O.sk, if_pos (by rw [bI_0]; exact fun q => by have := isS_lt q; omega)]
    exact ⟨g, Fz.rf, rfl, by rw [List.append_nil]; exact B⟩
  | succ f ih =>
    intro s k g cl w hn h0 hk hs hl C B
    have O := C.1
    have hE := C.2.2.2.1
    rw [S_LTx_readSum_2 (N := 0) O.sk, if_neg (nI_ge (by omega) (by decide)), if_neg (nI_ne0 h0 (by omega)), T_atSign O]
    simp only [zbd_i, tl_s]
    rw [S_LTx_readSum_19 (N := 0) O.sk]
    simp only [bI_0]
    unfold sumL
    by_cases c : isS T E s (nI 43) = true
    · have gt := adv_gt (T := T) (isS_lt c)
      rw [if_neg (fun q => q c), if_pos c, if_neg (nI_nle h0 (by omega)), T_adv O hs]
      simp only [zbd_i, tl_n, S_LTx_readSum_30]
      have := T_readPart (d := d) (s := adv T E s) (v2 := nI k) (w3 := w) C B (adv_le hs) (by omega)
      have pg := pPt_g (T := T) (adv_le (T := T) hs)
      revert this pg
      cases pPt T E (adv T E s) with
      | inl e =>
        rintro ⟨g', f1, e1⟩ -
        rw [e1]
        exact ⟨g', f1, rfl⟩
      | inr q =>
        rintro ⟨g', w', f1, B1, e1⟩ pg
        have pg' : adv T E s < q.2 ∧ q.2 ≤ E := pg
        have C1 := C.fr f1
        have l1 : (cl ++ [q.1]).length = cl.length + 1 := by simp
        rw [e1, if_neg (nI_nle h0 (by omega))]
        obtain ⟨g2, f2, e2, B2⟩ := T_addCode (d := d) (s := q.2) (v := -11) C1 B1 (by simp only [l1]; omega)
        rw [e2]
        simp only [zbd_i, tl_n, S_LTx_readSum_76, nI_add]
        have l2 : (cl ++ [q.1] ++ [-11]).length = cl.length + 2 := by simp
        have := ih q.2 (k + 1) g2 _ w' (by omega) (by omega) (by omega) pg'.2 (by simp only [l2]; omega) (C1.fr f2) B2
        have := KR_inr (c0 := [q.1] ++ [-11]) (cl := cl) (f1.tr f2) (by rw [← List.append_assoc]; exact this)
        show KR g r T E L cl _ (pB (sumL T E f q.2) _)
        revert this
        cases sumL T E f q.2 with
        | inl e => exact fun t => t
        | inr x => exact fun t => t
    · rw [if_pos c, if_neg c]
      exact ⟨g, Fz.rf, rfl, by rw [List.append_nil]; exact B⟩
theorem T_readSum (C : CX z g r b Nb E T L) (B : LB g L E cl) (hs : s ≤ E) (hl : cl.length ≤ s) : KR g r T E L cl (ev z d 28 0 [.ref L, .ref r, zu, zu] [] (rdH g r T E s)) (pSm T E s) := by
  rw [S_LTx_readSum_0, S_LTx_readSum_2 (N := 0) C.1.sk, if_neg (nI_ge (by decide) (by decide)), if_pos nI_0, if_pos (by rw [nI_0]; decide)]
  have := T_readPart (d := d) (v2 := nI 0) (w3 := zu) C B hs hl
  have pg := pPt_g (T := T) hs
  unfold pSm
  revert this pg
  cases pPt T E s with
  | inl e =>
    rintro ⟨g', f1, e1⟩ -
    rw [e1]
    exact ⟨g', f1, rfl⟩
  | inr q =>
    rintro ⟨g', w, f1, B1, e1⟩ pg
    have pg' : s < q.2 ∧ q.2 ≤ E := pg
    have l1 : (cl ++ [q.1]).length = cl.length + 1 := by simp
    rw [e1, if_pos (by rw [nI_0]; decide), nI_add]
    have := T_readSum_l (d := d) E q.2 1 g' _ w (by omega) (by omega) (by omega) pg'.2 (by simp only [l1]; omega) (C.fr f1) B1
    have := KR_inr (c0 := [q.1]) (cl := cl) f1 this
    show KR g r T E L cl _ (pB (sumL T E E q.2) _)
    revert this
    cases sumL T E E q.2 with
    | inl e => exact fun t => t
    | inr x => exact fun t => t
end
