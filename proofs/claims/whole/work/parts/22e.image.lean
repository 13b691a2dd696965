/-! THE IMAGE in both; the state stays well -/
section
variable {z : ZE} {d : Nat} {h h' : Hp} {X R a : Nat} {S S1 : PSt} {P f : Row} {K : Option Img} {A : List PSt} {tl : Nat} {T : Row} {ft : Int32} {ls : List LN} {Lo : Option Nat} {q : Img}
theorem C_image (H : CI z h X S ls Lo K A tl T ft) (ok : Ok S) : ∃ h', ev z d 152 0 [.ref X] [] h = some (.inl none, h') ∧ Fr (fun x => X ≤ x ∧ x < X + 433) h h' ∧ CI z h' X S ls Lo (some (S, ls, Lo)) A tl T ft := by
  have H0 := H
  obtain ⟨⟨x1, x2, x3⟩, p1, ct, f1, k1, nx, n1, n2, n3, n4, n5⟩ := H
  have hP := XSk_P5 x1
  obtain ⟨g, fg, Tg, zg, eg⟩ := T_become (z := z) (d := d) (p := X + 60) (q := X + 4) hP (by omega) ok p1.1 p1.2.1
  obtain ⟨⟨y1, y2, y3⟩, y4, y5, y6, y7⟩ := CI_bec H0 (by omega) (by omega) fg hP
  have Pg : PL g (X + 4) S.1 S.2.1 S.2.2.1 S.2.2.2 Lo ls := y7 (by omega) x3.1 p1
  have Pn : PL g (X + 60) S.1 S.2.1 S.2.2.1 S.2.2.2 Lo ls := PL.mk fg p1 x3.1 (by omega) Tg zg
  rw [S_LI_image_0 x1, eg]
  simp only [zbd_i, tl_n]
  rw [S_LI_image_11 y1]
  have fG : Fr (fun x => x = X) g (zwI g X 6 (nI 1)) := Fr.w rfl
  have pl : ∀ {p : Nat} {P : Row} {np ni nd : Nat} {Lo' : Option Nat} {ls' : List LN}, X < p → (∀ L, Lo' = some L → X + 433 ≤ L) → PL g p P np ni nd Lo' ls' → PL (zwI g X 6 (nI 1)) p P np ni nd Lo' ls' := fun hp hL Q => Q.fr fG (fun x y => by omega) (fun x L y e => by have := hL L e; omega)
  refine ⟨_, rfl, (fg.mo (fun x y => by obtain ⟨a1, a2⟩ := y; omega)).tr (fG.mo (fun x y => by omega)), ⟨XSk_w0 y1, WA_fr fG (fun x q => by rw [q, XSk_K y1]; decide) y2, x3.1, fun q L e1 e2 => ?_⟩, pl (by omega) x3.1 Pg, ⟨?_, y4.2.1, fun k hk => ?_⟩, ?_, ⟨zI_wa, pl (by omega) x3.1 Pn⟩, nx, n1, ?_, ?_, n4, fun a S' e => ?_⟩
  · have e3 := Option.some.inj e1
    subst e3
    exact x3.1 L e2
  · rw [zI_wj (by decide)]; exact y4.1
  · rw [zI_wb (by omega)]; exact y4.2.2 k hk
  · rw [zI_wb (by omega)]; exact y5
  · rw [zI_wj (by decide), y6]; exact n2
  · rw [zI_wj (by decide), y6]; exact n3
  · have hm : (nx + 11 - a) % 12 < 12 := Nat.mod_lt _ (by decide)
    exact pl (by omega) x3.1 (y7 (by omega) x3.1 (n5 a S' e))
theorem C_back0 (H : CI z h X S ls Lo none A tl T ft) : ev z d 153 0 [.ref X] [] h = some (.inl (some (.int (nI 0))), h) := by
  have k := H.2.2.2.2.1
  rw [S_LI_back_0 H.1.1, show zI h X 6 = nI 0 from k]
  exact if_pos rfl
theorem C_back (H : CI z h X S ls Lo (some q) A tl T ft) (ok : Ok q.1) : ∃ h', ev z d 153 0 [.ref X] [] h = some (.inl (some (.int (nI 1))), h') ∧ Fr (fun x => X ≤ x ∧ x < X + 433) h h' ∧ CI z h' X q.1 q.2.1 q.2.2 (some q) [] tl T ft := by
  have H0 := H
  obtain ⟨⟨x1, x2, x3⟩, p1, ct, f1, ⟨k1, k2⟩, nx, n1, n2, n3, n4, n5⟩ := H
  have hP := XSk_P3 x1
  have hq : ∀ L, q.2.2 = some L → X + 433 ≤ L := fun L e => x3.2 q L rfl e
  obtain ⟨g, fg, Tg, zg, eg⟩ := T_become (z := z) (d := d) (p := X + 4) (q := X + 60) hP (by omega) ok k2.1 k2.2.1
  obtain ⟨⟨y1, y2, y3⟩, y4, y5, y6, y7⟩ := CI_bec H0 (by omega) (by omega) fg hP
  have Pg : PL g (X + 60) q.1.1 q.1.2.1 q.1.2.2.1 q.1.2.2.2 q.2.2 q.2.1 := y7 (by omega) hq k2
  have Pn : PL g (X + 4) q.1.1 q.1.2.1 q.1.2.2.1 q.1.2.2.2 q.2.2 q.2.1 := PL.mk fg k2 hq (by omega) Tg zg
  rw [S_LI_back_0 x1, k1, if_neg (by decide), eg]
  simp only [zbd_i, tl_n]
  rw [S_LI_back_20 y1, S_LI_forgetActs_0 y1]
  simp only [zbd_i, tl_n, S_LI_back_24]
  have fG : Fr (fun x => x = X) g (zwI g X 8 (nI 0)) := Fr.w rfl
  have pl : ∀ {p : Nat} {P : Row} {np ni nd : Nat} {Lo' : Option Nat} {ls' : List LN}, X < p → (∀ L, Lo' = some L → X + 433 ≤ L) → PL g p P np ni nd Lo' ls' → PL (zwI g X 8 (nI 0)) p P np ni nd Lo' ls' := fun hp hL Q => Q.fr fG (fun x y => by omega) (fun x L y e => by have := hL L e; omega)
  refine ⟨_, rfl, (fg.mo (fun x y => by obtain ⟨a1, a2⟩ := y; omega)).tr (fG.mo (fun x y => by omega)), ⟨XSk_w0 y1, WA_fr fG (fun x q => by rw [q, XSk_K y1]; decide) y2, hq, x3.2⟩, pl (by omega) hq Pn, ⟨?_, y4.2.1, fun k hk => ?_⟩, ?_, ⟨?_, pl (by omega) hq Pg⟩, nx, n1, ?_, zI_wa, by decide, fun a S' e => ?_⟩
  · rw [zI_wj (by decide)]; exact y4.1
  · rw [zI_wb (by omega)]; exact y4.2.2 k hk
  · rw [zI_wb (by omega)]; exact y5
  · rw [zI_wj (by decide), y6]; exact k1
  · rw [zI_wj (by decide), y6]; exact n2
  · cases e
theorem cp_all {Q : Row} (hQ : ∀ i, 781 ≤ i → f i = Q i) (hP : ∀ i, i < 781 → P i = Q i) : cp P f 0 781 = Q := by
  refine up_cg (fun i => ?_)
  unfold cp
  by_cases c : i < 781
  · rw [if_pos (by omega), Nat.sub_zero]; exact hP i c
  · rw [if_neg (by omega)]; exact hQ i (by omega)
theorem R_image (H : RI h R S K A tl T ft) : ∃ h', ev z d 302 0 [.ref R, zu] [] h = some (.inl none, h') ∧ Fr (Rz R) h h' ∧ RI h' R S (some (S, ls, Lo)) A tl T ft := by
  rw [S_M_image_0 H.1.1]
  have H1 := H.s (Rs.w (j := 0) (v := nI 0) (by decide))
  have f0 : Fr (Rz R) h (zwI h R 0 (nI 0)) := Fr.w ⟨by omega, by omega⟩
  clear H
  generalize zwI h R 0 (nI 0) = g at *
  obtain ⟨⟨r1, r2, r3⟩, ⟨t1, t2, t3⟩, f1, -, a1, a2, a3⟩ := H1
  have lpp : ev z d 302 7 [.ref R, .int (nI 0)] [] g = some (.inl none, zwI (vH g (R + 2) (cp S.1 (zI g (R + 2)) 0 781)) R 3 (nI 1)) := by
    have e0 : g = vH g (R + 2) (cp S.1 (zI g (R + 2)) 0 0) := by rw [cpy_0, v_id]
    conv => lhs; rw [e0]
    refine (lp (E := fun k => ev z d 302 7 [.ref R, .int (nI k)] [] (vH g (R + 2) (cp S.1 (zI g (R + 2)) 0 k))) 781 ?_).trans ?_
    · intro k hk
      have := cpy_s (P := S.1) (f := zI g (R + 2)) (o := 0) (k := k)
      rw [Nat.zero_add] at this
      rw [S_M_image_7 (vr r1), if_neg (nI_ge hk (by decide)), ix_n hk (by decide), ix_n (by omega) (by decide), v_o (show R + 1 ≠ R + 2 by omega), r2, v_w, this, nI_add]
    · rw [S_M_image_7 (vr r1), if_pos (by decide)]
  refine ⟨_, lpp, f0.tr (Fr.a (v_f ⟨by omega, by omega⟩) ⟨by omega, by omega⟩), ?_⟩
  generalize hG : zwI (vH g (R + 2) (cp S.1 (zI g (R + 2)) 0 781)) R 3 (nI 1) = G
  have fG : Fr (Rz R) g G := by rw [← hG]; exact Fr.a (v_f ⟨by omega, by omega⟩) ⟨by omega, by omega⟩
  have o : ∀ x, x ≠ R → x ≠ R + 2 → zI G x = zI g x := fun x h1 h2 => by rw [← hG]; exact (funext fun y => zI_wb h1).trans (v_o h2)
  have qj : ∀ y, y ≠ 3 → zI G R y = zI g R y := fun y hy => by rw [← hG]; exact (zI_wj hy).trans (congrFun (v_o (by omega)) y)
  have q3 : zI G R 3 = nI 1 := by rw [← hG]; exact zI_wa
  have q2 : zI G (R + 2) = cp S.1 (zI g (R + 2)) 0 781 := by rw [← hG]; exact (funext fun y => zI_wb (by omega)).trans v_1
  clear hG
  refine ⟨⟨RSk_fr fG r1, (o _ (by omega) (by omega)).trans r2, (qj 19 (by decide)).trans r3⟩, ⟨(qj 8 (by decide)).trans t1, t2, fun k hk => by rw [o _ (by omega) (by omega)]; exact t3 k hk⟩, (qj 12 (by decide)).trans f1, ⟨q3, fun i hi => ?_⟩, (qj 6 (by decide)).trans a1, a2, fun a S' e i hi => by rw [o _ (by omega) (by omega)]; exact a3 a S' e i hi⟩
  rw [q2]
  unfold cp
  rw [if_pos (by omega), Nat.sub_zero]
theorem R_back0 (H : RI h R S none A tl T ft) : ev z d 303 0 [.ref R, zu] [] h = some (.inl (some (.int (nI 0))), zwI h R 0 (nI 0)) ∧ RI (zwI h R 0 (nI 0)) R S none A tl T ft := by
  refine ⟨?_, H.s (Rs.w (by decide))⟩
  have k := H.2.2.2.1
  rw [S_M_back_0 H.1.1, show zI h R 3 = nI 0 from k]
  exact if_pos rfl
theorem R_back (H : RI h R S (some q) A tl T ft) (ok : OkA S ls (some q) A) : ∃ h', ev z d 303 0 [.ref R, zu] [] h = some (.inl (some (.int (nI 1))), h') ∧ Fr (Rz R) h h' ∧ RI h' R q.1 (some q) [] tl T ft := by
  rw [S_M_back_0 H.1.1, H.2.2.2.1.1, if_neg (by decide)]
  have H1 := H.s (Rs.w (j := 0) (v := nI 0) (by decide))
  have f0 : Fr (Rz R) h (zwI h R 0 (nI 0)) := Fr.w ⟨by omega, by omega⟩
  clear H
  generalize zwI h R 0 (nI 0) = g at *
  obtain ⟨⟨r1, r2, r3⟩, ⟨t1, t2, t3⟩, f1, ⟨k1, k2⟩, a1, a2, a3⟩ := H1
  have row : cp (zI g (R + 2)) (zI g (R + 1)) 0 781 = q.1.1 := by
    refine cp_all (fun i hi => ?_) k2
    rw [r2, ok.1.2.2 i hi, (ok.2.1 q rfl).2.2 i hi]
  have lpp : ev z d 303 16 [.ref R, .int (nI 0)] [] g = some (.inl (some (.int (nI 1))), zwI (vH g (R + 1) q.1.1) R 6 (nI 0)) := by
    have e0 : g = vH g (R + 1) (cp (zI g (R + 2)) (zI g (R + 1)) 0 0) := by rw [cpy_0, v_id]
    conv => lhs; rw [e0]
    refine (lp (E := fun k => ev z d 303 16 [.ref R, .int (nI k)] [] (vH g (R + 1) (cp (zI g (R + 2)) (zI g (R + 1)) 0 k))) 781 ?_).trans ?_
    · intro k hk
      have := cpy_s (P := zI g (R + 2)) (f := zI g (R + 1)) (o := 0) (k := k)
      rw [Nat.zero_add] at this
      rw [S_M_back_16 (vr r1), if_neg (nI_ge hk (by decide)), ix_n hk (by decide), ix_n (by omega) (by decide), v_o (show R + 2 ≠ R + 1 by omega), v_w, this, nI_add]
    · rw [S_M_back_16 (vr r1), if_pos (by decide), row]
  refine ⟨_, lpp, f0.tr (Fr.a (v_f ⟨by omega, by omega⟩) ⟨by omega, by omega⟩), ?_⟩
  generalize hG : zwI (vH g (R + 1) q.1.1) R 6 (nI 0) = G
  have fG : Fr (Rz R) g G := by rw [← hG]; exact Fr.a (v_f ⟨by omega, by omega⟩) ⟨by omega, by omega⟩
  have o : ∀ x, x ≠ R → x ≠ R + 1 → zI G x = zI g x := fun x h1 h2 => by rw [← hG]; exact (funext fun y => zI_wb h1).trans (v_o h2)
  have qj : ∀ y, y ≠ 6 → zI G R y = zI g R y := fun y hy => by rw [← hG]; exact (zI_wj hy).trans (congrFun (v_o (by omega)) y)
  have q6 : zI G R 6 = nI 0 := by rw [← hG]; exact zI_wa
  have q1 : zI G (R + 1) = q.1.1 := by rw [← hG]; exact (funext fun y => zI_wb (by omega)).trans v_1
  clear hG
  exact ⟨⟨RSk_fr fG r1, q1, (qj 19 (by decide)).trans r3⟩, ⟨(qj 8 (by decide)).trans t1, t2, fun k hk => by rw [o _ (by omega) (by omega)]; exact t3 k hk⟩, (qj 12 (by decide)).trans f1, ⟨(qj 3 (by decide)).trans k1, fun i hi => by rw [o _ (by omega) (by omega)]; exact k2 i hi⟩, q6, by decide, fun a S' e => by cases e⟩
/-! the state stays well -/
theorem OkA.rm (ok : OkA S ls K A) : OkA S ls K (rmA S A) := by
  refine ⟨ok.1, ok.2.1, fun S' hS => ?_⟩
  unfold rmA at hS
  rcases List.mem_cons.mp hS with e | e
  · subst e
    exact ⟨ok.1.1, fun i _ => rfl⟩
  · exact ok.2.2 S' (List.mem_of_mem_take e)
/-- an act: the law's part of the row stays -/
theorem OkA.act (ok : OkA S ls K A) (h1 : Ok S1) (h2 : ∀ i, (i = 1 ∨ i = 2 ∨ 381 ≤ i) → S1.1 i = S.1 i) (h3 : OkL S1.1 ls) : OkA S1 ls K A :=
  ⟨⟨h1, h3, fun i hi => (h2 i (by omega)).trans (ok.1.2.2 i hi)⟩, ok.2.1, fun S' hS => ⟨(ok.2.2 S' hS).1, fun i hi => ((ok.2.2 S' hS).2 i hi).trans (h2 i hi).symm⟩⟩
theorem OkA.im (ok : OkA S ls K A) : OkA S ls (some (S, ls, Lo)) A :=
  ⟨ok.1, fun q e => by have e1 := Option.some.inj e; subst e1; exact ok.1, ok.2.2⟩
theorem OkA.bk (ok : OkA S ls (some q) A) : OkA q.1 q.2.1 (some q) [] :=
  ⟨ok.2.1 q rfl, ok.2.1, fun S' hS => by cases hS⟩
theorem OkA.un (ok : OkA S ls K (S1 :: A)) (h3 : OkL S1.1 ls) : OkA S1 ls K A :=
  OkA.act ⟨ok.1, ok.2.1, fun S' hS => ok.2.2 S' (List.mem_cons_of_mem _ hS)⟩ (ok.2.2 S1 List.mem_cons_self).1 (ok.2.2 S1 List.mem_cons_self).2 h3
end
