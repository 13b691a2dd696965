/-! PORT: the call in the class -/
section
variable {z : ZE} {d : Nat} {h h' g : Hp} {X R p : Nat} {S S1 : PSt} {K : Option Img} {A : List PSt} {tl : Nat} {T : Row} {ft : Int32} {ls : List LN} {Lo : Option Nat} {P Q : Row} {np ni nd m k r b Nb E s : Nat} {u v w : Int32}
theorem LwP_c (W : LwP h Lo P ls) (e : Q 1 = P 1) : LwP h Lo Q ls := by
  cases Lo with
  | none => exact ⟨e.trans W.1, W.2⟩
  | some L =>
    obtain ⟨E, W, w1⟩ := W
    exact ⟨E, W, e.trans w1⟩
/-- the draft has read a text: it becomes the port -/
theorem C_port_b (H : CI z g X S ls Lo K A tl T ft) (ok : Ok S) (ok1 : Ok S1) (hK : Kp S.1 S1.1) (Rp : PRp g (X + 32) S1.1 S1.2.1 S1.2.2.1 S1.2.2.2) (Bk : BKp g (X + 32) S.1) (zL : zR g (X + 32) 12 = Lo) (c : ¬ S.1 0 = nI 12) : ∃ h', ev z d 103 42 [.ref X] [] g = some (.inl (some (.int (S.1 0 + nI 1))), h') ∧ Fr (fun x => X ≤ x ∧ x < X + 433) g h' ∧ CI z h' X (poS S S1) ls Lo K [] tl T ft := by
  obtain ⟨-, -, -, -, k0, hk0, e0⟩ := ok.2.2.2.2.2
  have k12 : k0 < 12 := by
    rcases Nat.lt_or_ge k0 12 with q | q
    · exact q
    · have : k0 = 12 := by omega
      rw [this] at e0
      exact absurd e0 c
  have x1 := H.1.1
  have P4 := XSk_P4 x1
  have fw : Fr (fun x => x = X + 32) g (zwI g (X + 32) 11 (S.1 0 + nI 1)) := Fr.w rfl
  have H2 := H.dz (fw.mo (fun x q => Or.inl (by omega)))
  have Rp2 : PRp (zwI g (X + 32) 11 (S.1 0 + nI 1)) (X + 32) (poS S S1).1 S1.2.1 S1.2.2.1 S1.2.2.2 := Rp.wS (Or.inr (Or.inr (Or.inr (Or.inr ⟨rfl, rfl⟩))))
  have Bk2 : BKp (zwI g (X + 32) 11 (S.1 0 + nI 1)) (X + 32) (poS S S1).1 := BKp_c9 (Bk.fr fw (fun x q => by omega)) (fun i hi => (up_n (by omega)).trans (hK i (by omega)))
  have okn : Ok (poS S S1) := Ok_0 ok1 ⟨k0 + 1, by omega, by rw [e0, nI_add]⟩
  have e11 : zI g (X + 32) 11 = S.1 0 := (Rp.texts).trans (hK 0 (Or.inl rfl))
  have st : ev z d 103 42 [.ref X] [] g = zbd (ev z d 48 0 [.ref (X + 4), .ref (X + 32), zu] [] (zwI g (X + 32) 11 (S.1 0 + nI 1))) (fun v h' => ev z d 103 86 [.ref X] (v.toList ++ []) h') (fun e h' => evx z d 103 83 [.ref X] e h') := by
    rw [S_LI_port_42 x1, H.rp.texts, e11, e0, if_pos (nI_lt k12 (by decide))]
  have zL2 : zR (zwI g (X + 32) 11 (S.1 0 + nI 1)) (X + 32) 12 = Lo := zL
  generalize zwI g (X + 32) 11 (S.1 0 + nI 1) = G at *
  obtain ⟨h1, f1, T1, z1, e1⟩ := T_become (z := z) (d := d) (p := X + 4) (q := X + 32) H2.sk (by omega) okn ⟨XSk_P4 H2.1.1, Rp2, Bk2⟩ zL2
  have W2 : LwP G Lo (poS S S1).1 ls := LwP_c H2.2.1.2.2.1 (show up S1.1 0 (S.1 0 + nI 1) 1 = S.1 1 from (up_n (by decide)).trans (hK 1 (by omega)))
  have N := H2.new f1 T1 z1 W2
  have y1 : XSk h1 X := N.1.1
  refine ⟨zwI h1 X 8 (nI 0), ?_, Fr.a ((fw.mo (fun x q => by omega)).tr (f1.mo (fun x q => by obtain ⟨q1, q2⟩ := q; omega))) ⟨by omega, by omega⟩, N⟩
  rw [st, e1]
  simp only [zbd_i, tl_n]
  rw [S_LI_port_86 y1, S_LI_forgetActs_0 y1]
  simp only [zbd_i, tl_n]
  rw [S_LI_port_90 N.1.1, N.rp.texts]
  show some (Sum.inl (some (Value.int (up S1.1 0 (S.1 0 + nI 1) 0))), _) = _
  rw [up_a]
theorem C_port (t : Tp h) (H : CI z h X S ls Lo K A tl T ft) (ok : OkA S ls K A) (hT : zI h (X + 1) = T) : CA z d h X Lo 103 [.ref X] [0, 3] (poK T tl S) (S.1 0 + nI 1) (poQ S ls Lo K A tl T) := by
  have oks := ok.1.1
  obtain ⟨h1, e1, C1, r1, O1, m1⟩ := C_reader (z := z) (d := d) H hT
  have C2 := C1.cut (m := 0) (Nat.zero_le _)
  have f2 : Fr (fun x => x = X) h1 (zwI h1 X 1 (nI 0)) := Fr.w rfl
  have r2 := rd_keep r1 f2 (by omega)
  have O2 := O1.kp f2 (by omega) (by omega)
  have st : ev z d 103 0 [.ref X] [] h = zbd (ev z d 48 0 [.ref (X + 32), .ref (X + 4), zu] [] (zwI h1 X 1 (nI 0))) (fun v h' => ev z d 103 31 [.ref X] (v.toList ++ []) h') (fun e h' => evx z d 103 28 [.ref X] e h') := by
    rw [S_LI_port_0 H.1.1, H.2.2.1.1, e1]
    simp only [zbd_i, tl_n]
    rw [S_LI_port_15 C1.1.1]
  have M2 : Mv (Xz X Lo) 0 0 h (zwI h1 X 1 (nI 0)) := (m1.mo (fun x q => Or.inl (by omega)) (Nat.le_refl _) (Nat.le_refl _)).tr ((Mv.fr f2).mo (fun x q => Or.inl (by omega)) (Nat.le_refl _) (Nat.le_refl _))
  clear f2 O1 r1 m1 C1 e1
  generalize zwI h1 X 1 (nI 0) = h2 at *
  obtain ⟨g, fg, Tg, zg, eg⟩ := T_become (z := z) (d := d) (p := X + 32) (q := X + 4) (XSk_P4 C2.1.1) (by omega) oks C2.2.1.1 C2.2.1.2.1
  have Cg := C2.dz (fg.mo (fun x q => Or.inl (by obtain ⟨q1, q2⟩ := q; omega)))
  have rg := rd_keep r2 fg (fun q => by obtain ⟨q1, q2⟩ := q; omega)
  have Og := O2.kp fg (fun q => by obtain ⟨q1, q2⟩ := q; omega) (fun q => by obtain ⟨q1, q2⟩ := q; omega)
  have Mg : Mv (Xz X Lo) 0 0 h g := M2.tr ((Mv.fr fg).mo (fun x q => Or.inl (by obtain ⟨q1, q2⟩ := q; omega)) (Nat.le_refl _) (Nat.le_refl _))
  have X1 := T_cText (z := z) (d := d) (g := g) (r := X + 2) (b := X + 1) (Nb := 400) (E := tl) (T := T) (p := X + 32) ⟨Og, Cg.1.2.1, XSk_P4 Cg.1.1, fun q => by obtain ⟨q1, q2⟩ := q; omega, fun q => by obtain ⟨q1, q2⟩ := q; omega⟩ (S := S) Tg.2.1
  rw [rg] at X1
  have st2 : ev z d 103 0 [.ref X] [] h = zbd (ev z d 82 0 [.ref (X + 32), .ref (X + 2), zu] [] g) (fun v h' => ev z d 103 42 [.ref X] (v.toList ++ []) h') (fun e h' => evx z d 103 39 [.ref X] e h') := by
    rw [st, eg]
    simp only [zbd_i, tl_n]
    rw [S_LI_port_31 Cg.1.1]
  have rk : ∀ S1, rdP T tl S = .inr S1 → Ok S1 ∧ Kp S.1 S1.1 := fun S1 e => rdP_k oks e
  have hrd : rdP T tl S = ptT T tl S := rfl
  rw [hrd] at rk
  unfold poK poQ
  revert X1 rk
  cases ptT T tl S with
  | inl e =>
    rintro ⟨g', ft, eq⟩ -
    have fz : Fr (Dz X Lo) g g' := ft.1.mo (fun x q => Or.inl (by obtain ⟨⟨q1, q2⟩, -, -⟩ := q; omega))
    have f5 : Fr (fun x => x = X + 2) g' (zwI (rdH g' (X + 2) T tl e) (X + 2) 6 (nI e)) := Fr.a fr_rd rfl
    have G5 := (Cg.dz fz).r2 f5
    rw [zI_wa] at G5
    have M5 : Mv (Xz X Lo) 0 0 h (zwI (rdH g' (X + 2) T tl e) (X + 2) 6 (nI e)) := (Mg.tr ((Mv.fr fz).mo (fun x q => Dz_X q) (Nat.le_refl _) (Nat.le_refl _))).tr ((Mv.fr f5).mo (fun x q => Or.inl (by omega)) (Nat.le_refl _) (Nat.le_refl _))
    refine ⟨xH (rdH g' (X + 2) T tl e) (X + 2) e, ?_, (M5.tr Mv.nw).mo (fun _ q => q) (by decide) (by decide), G5.nw (M5.2.2.2.1 t)⟩
    rw [st2, eq]
    simp only [zbd_e]
    exact evx_nil rfl
  | inr S1 =>
    rintro ⟨g', e, ft, eq, Rp⟩ rk
    obtain ⟨ok1, hK⟩ := rk S1 rfl
    have fz : Fr (Dz X Lo) g g' := ft.1.mo (fun x q => Or.inl (by obtain ⟨⟨q1, q2⟩, -, -⟩ := q; omega))
    have f5 : Fr (fun x => x = X + 2) g' (rdH g' (X + 2) T tl e) := fr_rd
    have C4 := Cg.dz fz
    have G5 := C4.r2 f5
    have j6 : zI (rdH g' (X + 2) T tl e) (X + 2) 6 = -1 := (rd_f (by decide) (by decide) (by decide) (by decide)).trans C4.2.2.2.1
    rw [j6] at G5
    have M5 : Mv (Xz X Lo) 0 0 h (rdH g' (X + 2) T tl e) := (Mg.tr ((Mv.fr fz).mo (fun x q => Dz_X q) (Nat.le_refl _) (Nat.le_refl _))).tr ((Mv.fr f5).mo (fun x q => Or.inl (by omega)) (Nat.le_refl _) (Nat.le_refl _))
    have Rp5 : PRp (rdH g' (X + 2) T tl e) (X + 32) S1.1 S1.2.1 S1.2.2.1 S1.2.2.2 := Rp.fr f5 (fun x q => by omega)
    have Bk5 : BKp (rdH g' (X + 2) T tl e) (X + 32) S.1 := (Tg.2.2.fr ft.1 (fun x q => ⟨q.2.1, q.2.2⟩)).fr f5 (fun x q => by omega)
    have z5 : zR (rdH g' (X + 2) T tl e) (X + 32) 12 = Lo := by
      show zR g' (X + 32) 12 = Lo
      rw [ft.2]
      exact zg
    have q1 : ev z d 103 0 [.ref X] [] h = ev z d 103 42 [.ref X] [] (rdH g' (X + 2) T tl e) := by
      rw [st2, eq]
      simp only [zbd_i, tl_n]
    generalize rdH g' (X + 2) T tl e = G at *
    by_cases c : S.1 0 = nI 12
    · simp only [if_pos c]
      refine ⟨znw G 0 6, ?_, (M5.tr Mv.nw).mo (fun _ q => q) (by decide) (by decide), G5.nw (M5.2.2.2.1 t)⟩
      rw [q1, S_LI_port_42 G5.1.1, G5.rp.texts, c, if_neg (by decide)]
      rfl
    · simp only [if_neg c]
      obtain ⟨h', e', f', C'⟩ := C_port_b (z := z) (d := d) G5 oks ok1 hK Rp5 Bk5 z5 c
      exact ⟨h', by rw [q1, e']; rfl, (M5.tr ((Mv.fr f').mo (fun x q => Or.inl q) (Nat.le_refl _) (Nat.le_refl _))).mo (fun _ q => q) (by decide) (by decide), C'⟩
theorem O_port (ok : OkA S ls K A) : OV (poQ S ls Lo K A tl T) := by
  have rk : ∀ S1, rdP T tl S = .inr S1 → Ok S1 ∧ Kp S.1 S1.1 := fun S1 e => rdP_k ok.1.1 e
  have hrd : rdP T tl S = ptT T tl S := rfl
  rw [hrd] at rk
  unfold poQ
  revert rk
  cases ptT T tl S with
  | inl e => exact fun _ => ok
  | inr S1 =>
    intro rk
    obtain ⟨ok1, hK⟩ := rk S1 rfl
    obtain ⟨-, -, -, -, k0, hk0, e0⟩ := ok.1.1.2.2.2.2.2
    by_cases c : S.1 0 = nI 12
    · simp only [if_pos c]
      exact ok
    · simp only [if_neg c]
      have k12 : k0 < 12 := by
        rcases Nat.lt_or_ge k0 12 with q | q
        · exact q
        · have : k0 = 12 := by omega
          rw [this] at e0
          exact absurd e0 c
      have n : ∀ i, (i = 1 ∨ i = 2 ∨ 381 ≤ i) → (poS S S1).1 i = S.1 i := fun i hi => (up_n (by omega)).trans (hK i (by omega))
      exact ⟨⟨Ok_0 ok1 ⟨k0 + 1, by omega, by rw [e0, nI_add]⟩, OkL_cg ok.1.2.1 n, fun i hi => (n i (by omega)).trans (ok.1.2.2 i hi)⟩, ok.2.1, fun S' q => by cases q⟩
end
