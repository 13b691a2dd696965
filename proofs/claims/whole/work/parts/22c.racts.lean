/-! THE REFERENCE: remembering, undoing, the image, over the invariant -/
abbrev Rz (R : Nat) : Nat → Prop := fun x => R ≤ x ∧ x < R + 11
def cq (f P : Row) (o k : Nat) : Row := fun y => if y < k then f (o + y) else P y
section
variable {z : ZE} {d : Nat} {h h' : Hp} {X R a o k : Nat} {S S1 : PSt} {P f : Row} {K : Option Img} {A : List PSt} {tl : Nat} {T : Row} {ft : Int32} {ls : List LN}
theorem cq_0 : cq f P o 0 = P := funext fun y => if_neg (by omega)
theorem cq_s : up (cq f P o k) k (f (o + k)) = cq f P o (k + 1) := by
  refine up_cg (fun i => ?_)
  unfold up cq
  by_cases c : i = k
  · rw [if_pos c, if_pos (by omega), c]
  · rw [if_neg c]
    by_cases c2 : i < k
    · rw [if_pos c2, if_pos (by omega)]
    · rw [if_neg c2, if_neg (by omega)]
theorem RI.a4 {B : List PSt} (H : RI h R S K A tl T ft) (hl : B.length ≤ 12) (hf : ∀ a S', B[a]? = some S' → ∀ i, i < 381 → f (381 * (B.length - 1 - a) + i) = S'.1 i) : RI (zwI (vH h (R + 4) f) R 6 (nI B.length)) R S K B tl T ft := by
  obtain ⟨⟨r1, r2, r3⟩, ⟨t1, t2, t3⟩, f1, k1, -, -, -⟩ := H
  have o : ∀ x, x ≠ R → x ≠ R + 4 → zI (zwI (vH h (R + 4) f) R 6 (nI B.length)) x = zI h x := fun x h1 h2 => (funext fun y => zI_wb h1).trans (v_o h2)
  have q : ∀ y, y ≠ 6 → zI (zwI (vH h (R + 4) f) R 6 (nI B.length)) R y = zI h R y := fun y hy => (zI_wj hy).trans (congrFun (v_o (by omega)) y)
  refine ⟨⟨RSk_w (vr r1), (o _ (by omega) (by omega)).trans r2, (q 19 (by decide)).trans r3⟩, ⟨(q 8 (by decide)).trans t1, t2, fun k hk => by rw [o _ (by omega) (by omega)]; exact t3 k hk⟩, (q 12 (by decide)).trans f1, ?_, zI_wa, hl, fun a S' e i hi => ?_⟩
  · cases K with
    | none => exact (q 3 (by decide)).trans k1
    | some p => exact ⟨(q 3 (by decide)).trans k1.1, fun i hi => by rw [o _ (by omega) (by omega)]; exact k1.2 i hi⟩
  · rw [zI_wb (by omega), v_1]
    exact hf a S' e i hi
theorem fz {j : Nat} {v : Int32} : Fr (Rz R) h (zwI (vH h (R + 4) f) R j v) := Fr.a (v_f ⟨by omega, by omega⟩) ⟨by omega, by omega⟩
theorem R_push (H : RI h R S K A tl T ft) (hl : A.length < 12) : ∃ h', ev z d 239 52 [.ref R, .int (nI 0)] [] h = some (.inl none, h') ∧ Fr (Rz R) h h' ∧ RI h' R S K (S :: A) tl T ft := by
  refine ⟨_, T_M_rem_c H.1.1 hl H.2.2.2.2.1, fz, ?_⟩
  have := RI.a4 (B := S :: A) (f := cp (zI h (R + 1)) (zI h (R + 4)) (381 * A.length) 381) H (by rw [List.length_cons]; omega) (fun a S' e i hi => ?_)
  · exact this
  · rw [List.length_cons]
    unfold cp
    cases a with
    | zero =>
      have e1 : S = S' := Option.some.inj e
      subst e1
      rw [if_pos (by omega), H.1.2.1, show 381 * (A.length + 1 - 1 - 0) + i - 381 * A.length = i by omega]
    | succ a =>
      have e1 : A[a]? = some S' := e
      have la : a < A.length := by
        rcases Nat.lt_or_ge a A.length with q | q
        · exact q
        · rw [List.getElem?_eq_none q] at e1; cases e1
      rw [if_neg (by omega), show A.length + 1 - 1 - (a + 1) = A.length - 1 - a by omega]
      exact H.2.2.2.2.2.2 a S' e1 i hi
theorem R_remember (H : RI h R S K A tl T ft) : ∃ h', ev z d 239 0 [.ref R, zu] [] h = some (.inl none, h') ∧ Fr (Rz R) h h' ∧ RI h' R S K (rmA S A) tl T ft := by
  have hl := H.2.2.2.2.2.1
  have h6 := H.2.2.2.2.1
  rw [S_M_remembers_0 H.1.1, h6]
  unfold rmA
  by_cases c : A.length = 12
  · rw [if_pos (by rw [c]), T_M_rem_s H.1.1 (by rw [h6, c])]
    have l11 : (A.take 11).length = 11 := by rw [List.length_take]; omega
    have H1 := RI.a4 (B := A.take 11) (f := shA (zI h (R + 4)) 4191) H (by omega) (fun a S' e i hi => by
      have la : a < 11 := by
        rcases Nat.lt_or_ge a 11 with q | q
        · exact q
        · rw [List.getElem?_eq_none (by omega)] at e; cases e
      have e1 : A[a]? = some S' := by rw [List.getElem?_take, if_pos la] at e; exact e
      have := H.2.2.2.2.2.2 a S' e1 i hi
      rw [l11]
      unfold shA
      rw [if_pos (by omega), ← this]
      congr 1
      omega)
    rw [l11] at H1
    obtain ⟨h', e, f', H2⟩ := R_push (z := z) (d := d) H1 (by omega)
    exact ⟨h', e, fz.tr f', H2⟩
  · rw [if_neg (fun q => c ((nI_eq (by omega) (by decide)).mp q)), List.take_of_length_le (by omega)]
    exact R_push H (by omega)
theorem R_undo0 (H : RI h R S K [] tl T ft) : ev z d 301 0 [.ref R, zu] [] h = some (.inl (some (.int (nI 0))), zwI h R 0 (nI 0)) ∧ RI (zwI h R 0 (nI 0)) R S K [] tl T ft := by
  refine ⟨?_, H.s (Rs.w (by decide))⟩
  rw [S_M_undo_0 H.1.1, H.2.2.2.2.1]
  exact if_pos rfl
theorem R_undo (H : RI h R S K (S1 :: A) tl T ft) (ok : OkA S ls K (S1 :: A)) : ∃ h', ev z d 301 0 [.ref R, zu] [] h = some (.inl (some (.int (nI 1))), h') ∧ Fr (Rz R) h h' ∧ RI h' R S1 K A tl T ft := by
  have H0 := H
  obtain ⟨⟨r1, r2, r3⟩, ⟨t1, t2, t3⟩, f1, k1, a1, a2, a3⟩ := H
  rw [List.length_cons] at a1 a2
  rw [S_M_undo_0 r1, a1, if_neg (nI_ne0 (by omega) (by omega)), pk_sub (by omega), Nat.add_sub_cancel]
  generalize hg : zwI (zwI h R 0 (nI 0)) R 6 (nI A.length) = g
  have fg : Fr (fun x => x = R) h g := by rw [← hg]; exact Fr.a (Fr.w rfl) rfl
  have g6 : zI g R 6 = nI A.length := by rw [← hg, zI_wa]
  have gj : ∀ y, y ≠ 0 → y ≠ 6 → zI g R y = zI h R y := fun y h1 h2 => by rw [← hg, zI_wj h2, zI_wj h1]
  have gx : ∀ x, x ≠ R → zI g x = zI h x := fun x hx => fg.i hx
  have Rg : RSk g R := RSk_fr fg r1
  clear hg
  have row : cq (zI h (R + 4)) S.1 (381 * A.length) 381 = S1.1 := by
    refine up_cg (fun i => ?_)
    unfold cq
    by_cases c : i < 381
    · rw [if_pos c]
      have := a3 0 S1 rfl i c
      rw [List.length_cons] at this
      exact this
    · rw [if_neg c]
      exact ((ok.2.2 S1 List.mem_cons_self).2 i (by omega)).symm
  have lpp : ev z d 301 26 [.ref R, .int (nI 0)] [] g = some (.inl (some (.int (nI 1))), vH g (R + 1) S1.1) := by
    have e0 : g = vH g (R + 1) (cq (zI h (R + 4)) S.1 (381 * A.length) 0) := by rw [cq_0, ← r2, ← gx (R + 1) (by omega), v_id]
    conv => lhs; rw [e0]
    refine (lp (E := fun k => ev z d 301 26 [.ref R, .int (nI k)] [] (vH g (R + 1) (cq (zI h (R + 4)) S.1 (381 * A.length) k))) 381 ?_).trans ?_
    · intro k hk
      rw [S_M_undo_26 (vr Rg), if_neg (nI_ge hk (by decide)), v_o (show R ≠ R + 1 by omega), g6, pk_mul, nI_add, ix_n (by omega) (by decide), ix_n (by omega) (by decide), v_o (show R + 4 ≠ R + 1 by omega), gx (R + 4) (by omega), v_w, cq_s, nI_add]
    · rw [S_M_undo_26 (vr Rg), if_pos (by decide), row]
  refine ⟨_, lpp, (fg.mo (fun x y => ⟨by omega, by omega⟩)).tr (v_f ⟨by omega, by omega⟩), ?_⟩
  have o : ∀ x, x ≠ R + 1 → zI (vH g (R + 1) S1.1) x = zI g x := fun x hx => v_o hx
  refine ⟨⟨vr Rg, v_1, ?_⟩, ⟨?_, t2, fun k hk => ?_⟩, ?_, ?_, ?_, by omega, fun a S' e i hi => ?_⟩
  · rw [o R (by omega), gj 19 (by decide) (by decide)]; exact r3
  · rw [o R (by omega), gj 8 (by decide) (by decide)]; exact t1
  · rw [o _ (by omega), gx _ (by omega)]; exact t3 k hk
  · rw [o R (by omega), gj 12 (by decide) (by decide)]; exact f1
  · cases K with
    | none => show zI _ R 3 = _; rw [o R (by omega), gj 3 (by decide) (by decide)]; exact k1
    | some p =>
      refine ⟨?_, fun i hi => ?_⟩
      · rw [o R (by omega), gj 3 (by decide) (by decide)]; exact k1.1
      · rw [o _ (by omega), gx _ (by omega)]; exact k1.2 i hi
  · rw [o R (by omega)]; exact g6
  · rw [o _ (by omega), gx _ (by omega)]
    have := a3 (a + 1) S' e i hi
    rw [List.length_cons, show A.length + 1 - 1 - (a + 1) = A.length - 1 - a by omega] at this
    exact this
end
