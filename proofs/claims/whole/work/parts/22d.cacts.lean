/-! THE CLASS: remembering, undoing, the image; the reference's image -/
section
variable {z : ZE} {d : Nat} {h h' : Hp} {X R a : Nat} {S S1 : PSt} {P f : Row} {K : Option Img} {A : List PSt} {tl : Nat} {T : Row} {ft : Int32} {ls : List LN} {Lo : Option Nat}
/-- a port of the class becomes another; what else the class's picture says stays -/
theorem CI_bec (H : CI z h X S ls Lo K A tl T ft) {p : Nat} (hp : X + 4 ≤ p) (hp2 : p + 28 ≤ X + 433) (f : Fr (Pz p) h h') (hPp : PSk h p) : (XSk h' X ∧ WA z h' ∧ LA X Lo K) ∧ CT h' X tl T ∧ zI h' (X + 2) 6 = ft ∧ zI h' X = zI h X ∧ (∀ {q : Nat} {Q : Row} {np ni nd : Nat} {Lo' : Option Nat} {ls' : List LN}, q + 28 ≤ p ∨ p + 28 ≤ q → (∀ L, Lo' = some L → X + 433 ≤ L) → PL h q Q np ni nd Lo' ls' → PL h' q Q np ni nd Lo' ls') := by
  obtain ⟨⟨x1, x2, x3⟩, -, ⟨t1, t2, t3⟩, f1, -, -⟩ := H
  have n : ∀ j, j < 4 → ¬ Pz p (X + j) := fun j hj q => by obtain ⟨q1, q2⟩ := q; omega
  have n0 : ¬ Pz p X := n 0 (by decide)
  refine ⟨⟨XSk_fr f n0 x1, WA_fr f (fun x q => Pz_k hPp q) x2, x3⟩, ⟨by rw [f.i n0]; exact t1, t2, fun k hk => by rw [f.i (n 1 (by decide))]; exact t3 k hk⟩, by rw [f.i (n 2 (by decide))]; exact f1, f.i n0, fun hq hL G => G.fr f (fun x y => by obtain ⟨y1, y2⟩ := y; omega) (fun x L y e => by obtain ⟨y1, y2⟩ := y; have := hL L e; omega)⟩
theorem PL.mk {p q : Nat} {P : Row} {np ni nd : Nat} (f : Fr (Pz p) h h') (G : PL h q P np ni nd Lo ls) (hL : ∀ L, Lo = some L → X + 433 ≤ L) (hp2 : p + 28 ≤ X + 433) (T : PT h' p P np ni nd) (e : zR h' p 12 = Lo) : PL h' p P np ni nd Lo ls := by
  refine ⟨T, e, ?_, fun L e => Or.inl (by have := hL L e; omega)⟩
  have W := G.2.2.1
  cases Lo with
  | none => exact W
  | some L =>
    obtain ⟨E, W, w1⟩ := W
    have := hL L rfl
    exact ⟨E, W.fr f (fun x y => by obtain ⟨y1, y2⟩ := y; omega), w1⟩
theorem C_remember (H : CI z h X S ls Lo K A tl T ft) (ok : Ok S) : ∃ h', ev z d 162 0 [.ref X] [] h = some (.inl none, h') ∧ Fr (fun x => X ≤ x ∧ x < X + 433) h h' ∧ CI z h' X S ls Lo K (rmA S A) tl T ft := by
  have H0 := H
  obtain ⟨⟨x1, x2, x3⟩, p1, ct, f1, k1, nx, n1, n2, n3, n4, n5⟩ := H
  have hP := XSk_P7 x1 nx n1
  obtain ⟨g, fg, Tg, zg, eg⟩ := T_become (z := z) (d := d) (p := X + 97 + 28 * nx) (q := X + 4) hP (by omega) ok p1.1 p1.2.1
  obtain ⟨⟨y1, y2, y3⟩, y4, y5, y6, y7⟩ := CI_bec H0 (by omega) (by omega) fg hP
  have Pg : PL g (X + 4) S.1 S.2.1 S.2.2.1 S.2.2.2 Lo ls := y7 (by omega) x3.1 p1
  have Pn : PL g (X + 97 + 28 * nx) S.1 S.2.1 S.2.2.1 S.2.2.2 Lo ls := PL.mk fg p1 x3.1 (by omega) Tg zg
  have Kg : KC g X K := by
    cases K with
    | none => show zI g X 6 = _; rw [y6]; exact k1
    | some q => exact ⟨by rw [y6]; exact k1.1, y7 (by omega) (fun L e => x3.2 q L rfl e) k1.2⟩
  have Ag : ∃ nx', nx' < 12 ∧ zI g X 9 = nI nx' := ⟨nx, n1, by rw [y6]; exact n2⟩
  rw [S_LI_rememberAct_0 x1, n2, ix_n n1 (by decide), eg]
  simp only [zbd_i, tl_n]
  rw [S_LI_rememberAct_16 y1, y6, n2, n3, nI_add, nI_add, pk_rem (by omega) (by decide) (by decide)]
  have em : (if nI 12 < nI (A.length + 1) then nI 12 else nI (A.length + 1)) = nI (min 12 (A.length + 1)) := mn_nI (a := 12) (x := A.length + 1) (by decide) (by omega)
  rw [em]
  generalize hG : zwI (zwI g X 9 (nI ((nx + 1) % 12))) X 8 (nI (min 12 (A.length + 1))) = G
  have fG : Fr (fun x => x = X) g G := by rw [← hG]; exact Fr.a (Fr.w rfl) rfl
  have G8 : zI G X 8 = nI (min 12 (A.length + 1)) := by rw [← hG, zI_wa]
  have G9 : zI G X 9 = nI ((nx + 1) % 12) := by rw [← hG, zI_wj (by decide), zI_wa]
  have Gj : ∀ y, y ≠ 8 → y ≠ 9 → zI G X y = zI g X y := fun y h1 h2 => by rw [← hG, zI_wj h1, zI_wj h2]
  have XG : XSk G X := by rw [← hG]; exact XSk_w0 (XSk_w0 y1)
  clear hG
  have pl : ∀ {p : Nat} {P : Row} {np ni nd : Nat} {Lo' : Option Nat} {ls' : List LN}, X < p → (∀ L, Lo' = some L → X + 433 ≤ L) → PL g p P np ni nd Lo' ls' → PL G p P np ni nd Lo' ls' := fun hp hL Q => Q.fr fG (fun x y => by omega) (fun x L y e => by have := hL L e; omega)
  refine ⟨G, rfl, (fg.mo (fun x y => by obtain ⟨a1, a2⟩ := y; omega)).tr (fG.mo (fun x y => by omega)), ⟨XG, WA_fr fG (fun x q => by rw [q, XSk_K y1]; decide) y2, y3⟩, pl (by omega) x3.1 Pg, ⟨?_, y4.2.1, fun k hk => ?_⟩, ?_, ?_, (nx + 1) % 12, by omega, G9, ?_, ?_, fun a S' e => ?_⟩
  · rw [Gj 1 (by decide) (by decide)]; exact y4.1
  · rw [fG.i (by omega)]; exact y4.2.2 k hk
  · rw [fG.i (by omega)]; exact y5
  · cases K with
    | none => show zI G X 6 = _; rw [Gj 6 (by decide) (by decide)]; exact Kg
    | some q => exact ⟨by rw [Gj 6 (by decide) (by decide)]; exact Kg.1, pl (by omega) (fun L e => x3.2 q L rfl e) Kg.2⟩
  · rw [G8]
    unfold rmA
    rw [List.length_cons, List.length_take]
    congr 1
    omega
  · unfold rmA
    rw [List.length_cons, List.length_take]
    omega
  · unfold rmA at e
    cases a with
    | zero =>
      have e1 : S = S' := Option.some.inj e
      subst e1
      rw [show ((nx + 1) % 12 + 11 - 0) % 12 = nx by omega]
      exact pl (by omega) x3.1 Pn
    | succ a =>
      have e1 : (A.take 11)[a]? = some S' := e
      have la : a < 11 := by
        rcases Nat.lt_or_ge a 11 with q | q
        · exact q
        · rw [List.getElem?_take, if_neg (by omega)] at e1; cases e1
      rw [List.getElem?_take, if_pos la] at e1
      rw [show ((nx + 1) % 12 + 11 - (a + 1)) % 12 = (nx + 11 - a) % 12 by omega]
      have ne : (nx + 11 - a) % 12 ≠ nx := by omega
      exact pl (by omega) x3.1 (y7 (by omega) x3.1 (n5 a S' e1))
theorem C_undo0 (H : CI z h X S ls Lo K [] tl T ft) : ev z d 151 0 [.ref X] [] h = some (.inl (some (.int (nI 0))), h) := by
  obtain ⟨nx, -, -, n3, -⟩ := H.2.2.2.2.2
  rw [S_LI_undo_0 H.1.1, n3]
  exact if_pos rfl
theorem C_undo (H : CI z h X S ls Lo K (S1 :: A) tl T ft) (ok : OkA S ls K (S1 :: A)) : ∃ h', ev z d 151 0 [.ref X] [] h = some (.inl (some (.int (nI 1))), h') ∧ Fr (fun x => X ≤ x ∧ x < X + 433) h h' ∧ CI z h' X S1 ls Lo K A tl T ft := by
  obtain ⟨⟨x1, x2, x3⟩, p1, ⟨t1, t2, t3⟩, f1, k1, nx, n1, n2, n3, n4, n5⟩ := H
  rw [List.length_cons] at n3 n4
  have m12 : (nx + 12 - 1) % 12 < 12 := Nat.mod_lt _ (by decide)
  rw [S_LI_undo_0 x1, n3, n2, if_neg (nI_ne0 (by omega) (by omega)), nI_add, pk_sub (by omega), pk_sub (by omega), pk_rem (by omega) (by decide) (by decide), ix_n m12 (by decide), Nat.add_sub_cancel]
  generalize hG : zwI (zwI h X 9 (nI ((nx + 12 - 1) % 12))) X 8 (nI A.length) = G
  have fG : Fr (fun x => x = X) h G := by rw [← hG]; exact Fr.a (Fr.w rfl) rfl
  have G8 : zI G X 8 = nI A.length := by rw [← hG, zI_wa]
  have G9 : zI G X 9 = nI ((nx + 12 - 1) % 12) := by rw [← hG, zI_wj (by decide), zI_wa]
  have Gj : ∀ y, y ≠ 8 → y ≠ 9 → zI G X y = zI h X y := fun y h1 h2 => by rw [← hG, zI_wj h1, zI_wj h2]
  have XG : XSk G X := by rw [← hG]; exact XSk_w0 (XSk_w0 x1)
  clear hG
  have pl : ∀ {p : Nat} {P : Row} {np ni nd : Nat} {Lo' : Option Nat} {ls' : List LN}, X < p → (∀ L, Lo' = some L → X + 433 ≤ L) → PL h p P np ni nd Lo' ls' → PL G p P np ni nd Lo' ls' := fun hp hL Q => Q.fr fG (fun x y => by omega) (fun x L y e => by have := hL L e; omega)
  have e0 : (nx + 11 - 0) % 12 = (nx + 12 - 1) % 12 := by omega
  have Q1 : PL G (X + 97 + 28 * ((nx + 12 - 1) % 12)) S1.1 S1.2.1 S1.2.2.1 S1.2.2.2 Lo ls := by
    rw [← e0]
    exact pl (by omega) x3.1 (n5 0 S1 rfl)
  have HG : CI z G X S ls Lo K A tl T ft := by
    refine ⟨⟨XG, WA_fr fG (fun x q => by rw [q, XSk_K x1]; decide) x2, x3⟩, pl (by omega) x3.1 p1, ⟨by rw [Gj 1 (by decide) (by decide)]; exact t1, t2, fun k hk => by rw [fG.i (by omega)]; exact t3 k hk⟩, by rw [fG.i (by omega)]; exact f1, ?_, (nx + 12 - 1) % 12, m12, G9, G8, by omega, fun a S' e => ?_⟩
    · cases K with
      | none => show zI G X 6 = _; rw [Gj 6 (by decide) (by decide)]; exact k1
      | some q => exact ⟨by rw [Gj 6 (by decide) (by decide)]; exact k1.1, pl (by omega) (fun L e => x3.2 q L rfl e) k1.2⟩
    · have la : a < A.length := by
        rcases Nat.lt_or_ge a A.length with q | q
        · exact q
        · rw [List.getElem?_eq_none q] at e; cases e
      have := n5 (a + 1) S' e
      rw [show (nx + 11 - (a + 1)) % 12 = ((nx + 12 - 1) % 12 + 11 - a) % 12 by omega] at this
      exact pl (by omega) x3.1 this
  obtain ⟨g, fg, Tg, zg, eg⟩ := T_become (z := z) (d := d) (p := X + 4) (q := X + 97 + 28 * ((nx + 12 - 1) % 12)) (XSk_P3 XG) (by omega) (ok.2.2 S1 List.mem_cons_self).1 Q1.1 Q1.2.1
  obtain ⟨y1, y4, y5, y6, y7⟩ := CI_bec HG (by omega) (by omega) fg (XSk_P3 XG)
  rw [eg]
  simp only [zbd_i, tl_n, S_LI_undo_51]
  refine ⟨g, rfl, (fG.mo (fun x y => by omega)).tr (fg.mo (fun x y => by obtain ⟨a1, a2⟩ := y; omega)), y1, PL.mk fg Q1 x3.1 (by omega) Tg zg, y4, y5, ?_, ?_⟩
  · have k2 := HG.2.2.2.2.1
    cases K with
    | none => show zI g X 6 = _; rw [y6]; exact k2
    | some q => exact ⟨by rw [y6]; exact k2.1, y7 (by omega) (fun L e => x3.2 q L rfl e) k2.2⟩
  · obtain ⟨nx', m1, m2, m3, m4, m5⟩ := HG.2.2.2.2.2
    exact ⟨nx', m1, by rw [y6]; exact m2, by rw [y6]; exact m3, m4, fun a S' e => y7 (by omega) x3.1 (m5 a S' e)⟩
end
