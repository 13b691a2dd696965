/-! LAW in the class: the call -/
section
variable {z : ZE} {d : Nat} {h h' g : Hp} {X R p : Nat} {S S1 : PSt} {K : Option Img} {A : List PSt} {tl : Nat} {T : Row} {ft : Int32} {ls l2 : List LN} {Lo Lo2 : Option Nat} {P Q : Row} {np ni nd m k r b Nb E s c L : Nat} {u v w : Int32} {B : Nat → Prop}
theorem Mv.below (M : Mv (fun x => B x ∨ m ≤ x) c s h h') (hm : zT h ≤ m) : Mv B c s h h' := ⟨M.1, fun x hx hB => M.2.1 x hx (fun q => q.elim hB (fun q => by omega)), M.2.2⟩
theorem C_law_k (K4 : LSk h L tl) {x : Nat} (hx : Ly L x) : zK h x ≠ 12 ∧ zK h x ≠ 27 := by
  obtain ⟨q1, q2⟩ := hx
  rcases (by omega : x = L ∨ x = L + 1 ∨ x = L + 2 ∨ x = L + 3 ∨ x = L + 4 ∨ x = L + 5) with rfl | rfl | rfl | rfl | rfl | rfl
  · rw [LSk_K K4]; decide
  · rw [LSk_a2k K4]; decide
  · rw [LSk_a3k K4]; decide
  · rw [LSk_a4k K4]; decide
  · rw [LSk_a6k K4]; decide
  · rw [LSk_a0k K4]; decide
/-- the law is read: it becomes the port's -/
theorem C_law_b (H : CI z g X S ls Lo K A tl T ft) (hl : X + 433 ≤ L) (LG : LL g L m l2) (hm : m ≤ 400) (e : lwT Q m = .inr l2) : ∃ h', ev z d 104 40 [.ref X, .ref L] [] g = some (.inl (some (.int (nI l2.length))), h') ∧ Fr (fun x => X ≤ x ∧ x < X + 433) g h' ∧ CI z h' X (laS S Q m l2.length) l2 (some L) K [] tl T ft := by
  have x1 := H.1.1
  have f6 : Fr (fun x => x = X + 4) g (zwR g (X + 4) 12 (some L)) := Fr.wR rfl
  have zg : zR (zwR g (X + 4) 12 (some L)) (X + 4) 12 = some L := by
    show zup (zR g) (X + 4) 12 (some L) (X + 4) 12 = _
    unfold zup
    exact if_pos ⟨rfl, rfl⟩
  have R0 : PRp (zwR g (X + 4) 12 (some L)) (X + 4) S.1 S.2.1 S.2.2.1 S.2.2.2 := PRp_zI rfl H.rp
  have B0 : BKp (zwR g (X + 4) 12 (some L)) (X + 4) S.1 := H.2.1.1.2.2
  have s6 : PSk (zwR g (X + 4) 12 (some L)) (X + 4) := PSk_fr f6 H.sk
  have y1 : XSk (zwR g (X + 4) 12 (some L)) X := XSk_fr f6 (by omega) x1
  have L6 : LL (zwR g (X + 4) 12 (some L)) L m l2 := LL_f4 f6 (fun x q => by omega) LG
  have st := La_40 (z := z) (d := d) (h := g) (L := L) x1
  generalize zwR g (X + 4) 12 (some L) = h6 at *
  have Tn : PT h6 (X + 4) (laS S Q m l2.length).1 S.2.1 S.2.2.1 S.2.2.2 := ⟨s6, R0.cg9 (fun k a b c d => la_o hm b c (Or.inl (by omega))), B0.cg (fun k a => la_o hm (by omega) (by omega) (Or.inl (by omega)))⟩
  have okl := lwT_ok e
  have W : LwP h6 (some L) (laS S Q m l2.length).1 l2 := ⟨m, ⟨L6, hm, okl.1, okl.2, lwT_n e⟩, la_1⟩
  have N := H.newL (f6.mo (fun x q => ⟨by omega, by omega⟩)) Tn zg W (fun L0 e0 => by have := Option.some.inj e0; omega)
  have f7 : Fr (fun x => x = X) h6 (zwI h6 X 8 (nI 0)) := Fr.w rfl
  have L7 : LL (zwI h6 X 8 (nI 0)) L m l2 := LL_f4 f7 (fun x q => by omega) L6
  refine ⟨zwI h6 X 8 (nI 0), ?_, (f6.mo (fun x q => by omega)).tr (f7.mo (fun x q => by omega)), N⟩
  rw [st, S_LI_forgetActs_0 y1]
  simp only [zbd_i, tl_n]
  rw [La_52 (LSk_K L7.1.1), L7.2.1]
theorem C_law (t : Tp h) (H : CI z h X S ls Lo K A tl T ft) (ok : OkA S ls K A) (hT : zI h (X + 1) = T) : ∃ L, CA z (d + 7) h X Lo 104 [.ref X, zu] [0] (laK T tl) (laV T tl) (laQ S ls Lo K A tl T L) := by
  have t4 : tl ≤ 400 := H.2.2.1.2.1
  obtain ⟨h1, e1, C1, r1, O1, m1⟩ := C_reader (z := z) (d := d + 7) H hT
  have t1 : Tp h1 := m1.2.2.2.1 t
  have xl := t1.xl C1.1.1
  have lt1 := C1.lt t1
  obtain ⟨L, eL⟩ : ∃ L, L = zT h1 := ⟨_, rfl⟩
  rw [← eL] at xl lt1
  have hL0 : zT h ≤ L := by rw [eL]; exact m1.2.2.1
  have C2 := C1.nw (k := 4) (n := 7) t1
  have k2 : zK (znw h1 4 7) L = 4 := by rw [eL]; exact if_pos rfl
  have T2 : zT (znw h1 4 7) = L + 1 := by rw [eL]; rfl
  have m2 : Mv (fun x => x = L) 1 7 h1 (znw h1 4 7) := Mv.nw
  have l15 := La_15 (z := z) (d := d + 7) (h := h1) (X := X)
  rw [← eL] at l15
  obtain ⟨h2, e2⟩ : ∃ x, x = znw h1 4 7 := ⟨_, rfl⟩
  rw [← e2] at C2 k2 T2 m2 l15
  clear e2
  obtain ⟨h3, e3, K3, z31, z35, m3, T3⟩ := Law_new (z := z) (d := d + 7) (n := tl) k2 T2 t4
  have st3 : ev z (d + 7) 104 0 [.ref X, zu] [] h = ev z (d + 7) 104 26 [.ref X, zu] [.ref L] h3 := by
    rw [La_0 H.1.1, H.2.2.1.1, e1]
    simp only [zbd_i, tl_n]
    rw [l15]
    exact La_18 (XSk_K C2.1.1) k2 (by rw [C2.2.2.1.1]; exact e3)
  have M13 := m2.tr m3
  have a13 : Ag (fun x => x < L) (fun x => x < L) h1 h3 := M13.ag (fun x q => by omega) (by omega)
  have t3 : Tp h3 := M13.2.2.2.1 t1
  have C3 := C1.ag a13 (fun j hj => by omega) (fun j hj _ => by omega) (fun x hx => by
    have : x < zT h1 := by
      rcases hx with q | q
      · exact t1.lt q (by decide)
      · exact t1.lt q (by decide)
    exact ⟨by omega, by omega⟩) (fun L0 N j s _ hj => by have := t1.ll s; exact ⟨by omega, by omega⟩)
  have r3 := rd_ag a13 (show X + 2 < L by omega) r1
  have O3 := O1.ag a13 (show X + 2 < L by omega) (show X + 1 < L by omega)
  have M3 : Mv (fun x => Xz X Lo x ∨ L ≤ x) 6 (83 + tl) h h3 := ((m1.mo (fun x q => Or.inl (Or.inl (by omega))) (Nat.le_refl _) (Nat.le_refl _)).tr (M13.mo (fun x q => Or.inr (by omega)) (Nat.le_refl _) (Nat.le_refl _))).mo (fun _ q => q) (by omega) (by omega)
  clear M13 a13 m3 m2 m1 e3 l15 e1 T2 k2 C2 O1 r1
  have C4 := C3.cut (m := 0) (Nat.zero_le _)
  have f4 : Fr (fun x => x = X) h3 (zwI h3 X 1 (nI 0)) := Fr.w rfl
  have r4 := rd_keep r3 f4 (show ¬ X + 2 = X by omega)
  have O4 := O3.kp f4 (show ¬ X + 2 = X by omega) (show ¬ X + 1 = X by omega)
  have K4 : LSk (zwI h3 X 1 (nI 0)) L tl := LSk_fr f4 K3
  have z41 : zI (zwI h3 X 1 (nI 0)) L 1 = nI 0 := (zI_wb (by omega)).trans z31
  have z45 : zI (zwI h3 X 1 (nI 0)) L 5 = nI 0 := (zI_wb (by omega)).trans z35
  have st4 := st3.trans (La_26 C3.1.1)
  have t4' : Tp (zwI h3 X 1 (nI 0)) := t3.fr f4
  have M4 : Mv (fun x => Xz X Lo x ∨ L ≤ x) 6 (83 + tl) h (zwI h3 X 1 (nI 0)) := (M3.tr ((Mv.fr f4).mo (fun x q => Or.inl (Or.inl (by omega))) (Nat.le_refl _) (Nat.le_refl _))).mo (fun _ q => q) (by omega) (by omega)
  obtain ⟨h4, e4⟩ : ∃ x, x = zwI h3 X 1 (nI 0) := ⟨_, rfl⟩
  rw [← e4] at C4 r4 O4 K4 z41 z45 st4 t4' M4
  clear e4 M3 f4 st3 t3 K3 z31 z35 C3 O3 r3 T3
  have LL4 : LL h4 L tl [] := ⟨⟨K4, z41, fun j hj => absurd hj (Nat.not_lt_zero _)⟩, z45, fun j hj => absurd hj (Nat.not_lt_zero _)⟩
  have TR := T_readLaw (z := z) (d := d) (g := h4) (r := X + 2) (b := X + 1) (Nb := 400) (E := tl) (T := T) (L := L) ⟨O4, C4.1.2.1, K4, t4, by omega, by omega, by omega, by omega⟩ (fun q => by obtain ⟨q1, q2⟩ := q; omega) (fun q => by obtain ⟨q1, q2⟩ := q; omega) LL4
  rw [r4] at TR
  have hs : ∀ x, Ly L x → Sc X Lo K x := by
    intro x hx
    obtain ⟨q1, q2⟩ := hx
    refine Or.inl ⟨by omega, fun L0 e0 => ?_, fun q L0 e0 e2 => ?_⟩
    · have := lt1.1 L0 e0
      omega
    · have := lt1.2 q L0 e0 e2
      omega
  refine ⟨L, ?_⟩
  unfold laK laV laQ
  revert TR
  cases el : lwT T tl with
  | inl e =>
    rintro ⟨g', f, eq⟩
    have G4 := C4.fr f hs (fun x hx => C_law_k K4 hx)
    have f5 : Fr (fun x => x = X + 2) g' (zwI (rdH g' (X + 2) T tl e) (X + 2) 6 (nI e)) := Fr.a fr_rd rfl
    have G5 := G4.r2 f5
    rw [zI_wa] at G5
    have M5 := (M4.tr ((Mv.fr f).mo (fun x q => Or.inr q.1) (Nat.le_refl _) (Nat.le_refl _))).tr ((Mv.fr f5).mo (fun x q => Or.inl (Or.inl (by omega))) (Nat.le_refl _) (Nat.le_refl _))
    refine ⟨xH (rdH g' (X + 2) T tl e) (X + 2) e, ?_, ((M5.tr Mv.nw).mo (fun _ q => q) (by omega) (by omega)).below hL0, G5.nw (M5.2.2.2.1 t)⟩
    rw [st4, eq]
    simp only [zbd_e]
    exact evx_nil rfl
  | inr l2 =>
    rintro ⟨g', e, f, eq, LG⟩
    have G4 := C4.fr f hs (fun x hx => C_law_k K4 hx)
    have f5 : Fr (fun x => x = X + 2) g' (rdH g' (X + 2) T tl e) := fr_rd
    have G5 := G4.r2 f5
    have j6 : zI (rdH g' (X + 2) T tl e) (X + 2) 6 = -1 := (rd_f (by decide) (by decide) (by decide) (by decide)).trans G4.2.2.2.1
    rw [j6] at G5
    have L5 : LL (rdH g' (X + 2) T tl e) L tl l2 := LL_f4 f5 (fun x q => by omega) LG
    have M5 := (M4.tr ((Mv.fr f).mo (fun x q => Or.inr q.1) (Nat.le_refl _) (Nat.le_refl _))).tr ((Mv.fr f5).mo (fun x q => Or.inl (Or.inl (by omega))) (Nat.le_refl _) (Nat.le_refl _))
    obtain ⟨h', e', f', C'⟩ := C_law_b (z := z) (d := d + 7) (Q := T) G5 xl L5 t4 el
    refine ⟨h', ?_, ((M5.tr ((Mv.fr f').mo (fun x q => Or.inl (Or.inl q)) (Nat.le_refl _) (Nat.le_refl _))).mo (fun _ q => q) (by omega) (by omega)).below hL0, C'⟩
    rw [st4, eq]
    simp only [zbd_i, tl_n]
    exact e'
end
