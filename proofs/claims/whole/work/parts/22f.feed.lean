/-! FEED in both -/
def wb (w s : Int32) : Int32 := (zus w s) &&& (nI 255)
def pT (T : Row) (t : Nat) (w : Int32) : Row := up (up (up (up T t (wb w (nI 24))) (t + 1) (wb w (nI 16))) (t + 1 + 1) (wb w (nI 8))) (t + 1 + 1 + 1) (wb w (nI 0))
section
variable {z : ZE} {d : Nat} {h h' : Hp} {X R a : Nat} {S S1 : PSt} {P f : Row} {K : Option Img} {A : List PSt} {tl : Nat} {T : Row} {ft : Int32} {ls : List LN} {Lo : Option Nat} {v1 v2 v3 v4 v5 w : Int32}
theorem C_byte (H : CI z h X S ls Lo K A tl T ft) (ht : tl < 400) (v : Int32) : CI z (zwI (zwI h (X + 1) tl v) X 1 (nI tl + nI 1)) X S ls Lo K A (tl + 1) (up T tl v) ft := by
  obtain ⟨⟨x1, x2, x3⟩, p1, ⟨t1, t2, t3⟩, f1, k1, a1⟩ := H
  have f1' : Fr (fun x => x = X + 1) h (zwI h (X + 1) tl v) := Fr.w rfl
  have pl : ∀ {p : Nat} {P : Row} {np ni nd : Nat} {Lo' : Option Nat} {ls' : List LN}, X + 1 < p → (∀ L, Lo' = some L → X + 433 ≤ L) → PL h p P np ni nd Lo' ls' → PL (zwI h (X + 1) tl v) p P np ni nd Lo' ls' := fun hp hL Q => Q.fr f1' (fun x y => by omega) (fun x L y e => by have := hL L e; omega)
  have k5 : zK h (X + 1) ≠ 12 ∧ zK h (X + 1) ≠ 27 := by rw [XSk_a0k x1]; decide
  have H1 : (XSk (zwI h (X + 1) tl v) X ∧ WA z (zwI h (X + 1) tl v) ∧ LA X Lo K) ∧ PL (zwI h (X + 1) tl v) (X + 4) S.1 S.2.1 S.2.2.1 S.2.2.2 Lo ls ∧ CT (zwI h (X + 1) tl v) X tl (up T tl v) ∧ zI (zwI h (X + 1) tl v) (X + 2) 6 = ft ∧ KC (zwI h (X + 1) tl v) X K ∧ AC (zwI h (X + 1) tl v) X A Lo ls := by
    refine ⟨⟨XSk_w0 x1, WA_fr f1' (fun x q => by rw [q]; exact k5) x2, x3⟩, pl (by omega) x3.1 p1, ⟨(zI_wb (by omega)).trans t1, t2, fun k hk => ?_⟩, (zI_wb (by omega)).trans f1, ?_, ?_⟩
    · rw [zI_wj (by omega), up_n (by omega)]; exact t3 k hk
    · cases K with
      | none => exact (zI_wb (by omega)).trans k1
      | some q => exact ⟨(zI_wb (by omega)).trans k1.1, pl (by omega) (fun L e => x3.2 q L rfl e) k1.2⟩
    · obtain ⟨nx, h1, h2, h3, h4, h5⟩ := a1
      exact ⟨nx, h1, (zI_wb (by omega)).trans h2, (zI_wb (by omega)).trans h3, h4, fun a S e => pl (by omega) x3.1 (h5 a S e)⟩
  have v7 : zI (zwI h (X + 1) tl v) (X + 1) tl = v := zI_wa
  generalize zwI h (X + 1) tl v = g at *
  obtain ⟨c1, c2, c3, -, c5, c6⟩ := CI.x (j := 1) (v := nI tl + nI 1) H1
  refine ⟨c1, c2, ⟨by rw [zI_wa, nI_add], by omega, fun k hk => ?_⟩, c3, c5 (by decide), c6 (by decide)⟩
  rw [zI_wb (by omega)]
  by_cases c : k = tl
  · rw [c, v7]; exact (if_pos rfl).symm
  · exact H1.2.2.1.2.2 k (by omega)
theorem fB {x y : Nat} {v u : Int32} {j k : Nat} {B : Nat → Prop} (h1 : B x) (h2 : B y) : Fr B h (zwI (zwI h x j v) y k u) := Fr.a (Fr.w h1) h2
theorem C_put (H : CI z h X S ls Lo K A tl T ft) (ht : tl + 4 ≤ 400) : ∃ h', ev z d 160 0 [.ref X, .int w, zu] [] h = some (.inl none, h') ∧ Fr (fun x => X ≤ x ∧ x < X + 433) h h' ∧ CI z h' X S ls Lo K A (tl + 1 + 1 + 1 + 1) (pT T tl w) ft := by
  have st : ∀ {g : Hp} {t : Nat} {U : Row} {v2 : Int32}, CI z g X S ls Lo K A t U ft → t < 400 → ¬ v2 < 0 → ev z d 160 3 [.ref X, .int w, .int v2] [] g = ev z d 160 3 [.ref X, .int w, .int (v2 + (-8))] [] (zwI (zwI g (X + 1) t (wb w v2)) X 1 (nI t + nI 1)) := by
    intro g t U v2 G ht h0
    rw [S_LI_putBytes_3 G.1.1, if_neg h0, G.2.2.1.1, if_neg (nI_ge ht (by decide)), ix_n ht (by decide)]
    rfl
  have fr : ∀ {g : Hp} {t : Nat} {v u : Int32}, Fr (fun x => X ≤ x ∧ x < X + 433) g (zwI (zwI g (X + 1) t v) X 1 u) := fB ⟨by omega, by omega⟩ ⟨by omega, by omega⟩
  rw [S_LI_putBytes_0, st H (by omega) (by decide), show nI 24 + (-8) = nI 16 by decide]
  have H1 := C_byte H (by omega) (wb w (nI 24))
  have F1 := fr (g := h) (t := tl) (v := wb w (nI 24)) (u := nI tl + nI 1)
  clear H
  generalize zwI (zwI h (X + 1) tl (wb w (nI 24))) X 1 (nI tl + nI 1) = g1 at *
  rw [st H1 (by omega) (by decide), show nI 16 + (-8) = nI 8 by decide]
  have H2 := C_byte H1 (by omega) (wb w (nI 16))
  have F2 := F1.tr (fr (g := g1) (t := tl + 1) (v := wb w (nI 16)) (u := nI (tl + 1) + nI 1))
  clear H1 F1
  generalize zwI (zwI g1 (X + 1) (tl + 1) (wb w (nI 16))) X 1 (nI (tl + 1) + nI 1) = g2 at *
  rw [st H2 (by omega) (by decide), show nI 8 + (-8) = nI 0 by decide]
  have H3 := C_byte H2 (by omega) (wb w (nI 8))
  have F3 := F2.tr (fr (g := g2) (t := tl + 1 + 1) (v := wb w (nI 8)) (u := nI (tl + 1 + 1) + nI 1))
  clear H2 F2
  generalize zwI (zwI g2 (X + 1) (tl + 1 + 1) (wb w (nI 8))) X 1 (nI (tl + 1 + 1) + nI 1) = g3 at *
  rw [st H3 (by omega) (by decide)]
  have H4 := C_byte H3 (by omega) (wb w (nI 0))
  have F4 := F3.tr (fr (g := g3) (t := tl + 1 + 1 + 1) (v := wb w (nI 0)) (u := nI (tl + 1 + 1 + 1) + nI 1))
  clear H3 F3
  generalize zwI (zwI g3 (X + 1) (tl + 1 + 1 + 1) (wb w (nI 0))) X 1 (nI (tl + 1 + 1 + 1) + nI 1) = g4 at *
  rw [S_LI_putBytes_3 H4.1.1, if_pos (by decide)]
  exact ⟨g4, rfl, F4, H4⟩
def fdT (T : Row) (t : Nat) (v1 v2 v3 v4 v5 : Int32) : Row := pT (pT (pT (pT (pT T t v1) (t + 4) v2) (t + 8) v3) (t + 12) v4) (t + 16) v5
theorem C_feed0 (H : CI z h X S ls Lo K A tl T ft) (ht : ¬ tl + 20 ≤ 400) : ev z d 101 0 [.ref X, .int v1, .int v2, .int v3, .int v4, .int v5] [] h = some (.inl (some (.int (-1))), h) := by
  have t2 := H.2.2.1.2.1
  rw [S_LI_feed_0 H.1.1, H.2.2.1.1, nI_add, if_neg (fun q => ht ((nI_leI (by omega) (by decide)).mp q))]
theorem C_feed (H : CI z h X S ls Lo K A tl T ft) (ht : tl + 20 ≤ 400) : ∃ h', ev z d 101 0 [.ref X, .int v1, .int v2, .int v3, .int v4, .int v5] [] h = some (.inl (some (.int (nI (tl + 20)))), h') ∧ Fr (fun x => X ≤ x ∧ x < X + 433) h h' ∧ CI z h' X S ls Lo K A (tl + 20) (fdT T tl v1 v2 v3 v4 v5) ft := by
  rw [S_LI_feed_0 H.1.1, H.2.2.1.1, nI_add, if_pos ((nI_leI (by omega) (by decide)).mpr ht)]
  obtain ⟨g1, e1, F1, H1⟩ := C_put (d := d) (w := v1) H (by omega)
  obtain ⟨g2, e2, F2, H2⟩ := C_put (d := d) (w := v2) H1 (by omega)
  obtain ⟨g3, e3, F3, H3⟩ := C_put (d := d) (w := v3) H2 (by omega)
  obtain ⟨g4, e4, F4, H4⟩ := C_put (d := d) (w := v4) H3 (by omega)
  obtain ⟨g5, e5, F5, H5⟩ := C_put (d := d) (w := v5) H4 (by omega)
  rw [e1]
  simp only [zbd_i, tl_n]
  rw [S_LI_feed_20 H1.1.1, e2]
  simp only [zbd_i, tl_n]
  rw [S_LI_feed_25 H2.1.1, e3]
  simp only [zbd_i, tl_n]
  rw [S_LI_feed_30 H3.1.1, e4]
  simp only [zbd_i, tl_n]
  rw [S_LI_feed_36 H4.1.1, e5]
  simp only [zbd_i, tl_n]
  rw [S_LI_feed_42 H5.1.1, H5.2.2.1.1]
  exact ⟨g5, rfl, (((F1.tr F2).tr F3).tr F4).tr F5, H5⟩
theorem R_byte (H : RI h R S K A tl T ft) (ht : tl < 400) (v : Int32) : RI (zwI (zwI h (R + 5) tl v) R 8 (nI tl + nI 1)) R S K A (tl + 1) (up T tl v) ft := by
  obtain ⟨⟨r1, r2, r3⟩, ⟨t1, t2, t3⟩, f1, k1, a1, a2, a3⟩ := H
  generalize hG : zwI (zwI h (R + 5) tl v) R 8 (nI tl + nI 1) = G
  have fG : Fr (Rz R) h G := by rw [← hG]; exact fB ⟨by omega, by omega⟩ ⟨by omega, by omega⟩
  have o : ∀ x, x ≠ R → x ≠ R + 5 → zI G x = zI h x := fun x h1 h2 => by rw [← hG]; exact funext fun y => (zI_wb h1).trans (zI_wb h2)
  have qj : ∀ y, y ≠ 8 → zI G R y = zI h R y := fun y hy => by rw [← hG]; exact (zI_wj hy).trans (zI_wb (by omega))
  have q8 : zI G R 8 = nI (tl + 1) := by rw [← hG, zI_wa, nI_add]
  have q5 : ∀ k, k < tl + 1 → zI G (R + 5) k = up T tl v k := fun k hk => by
    rw [← hG, zI_wb (by omega)]
    by_cases c : k = tl
    · rw [c, zI_wa]; exact (if_pos rfl).symm
    · rw [zI_wj c, up_n c]; exact t3 k (by omega)
  clear hG
  refine ⟨⟨RSk_fr fG r1, (o _ (by omega) (by omega)).trans r2, (qj 19 (by decide)).trans r3⟩, ⟨q8, by omega, q5⟩, (qj 12 (by decide)).trans f1, ?_, (qj 6 (by decide)).trans a1, a2, fun a S' e i hi => by rw [o _ (by omega) (by omega)]; exact a3 a S' e i hi⟩
  cases K with
  | none => exact (qj 3 (by decide)).trans k1
  | some q => exact ⟨(qj 3 (by decide)).trans k1.1, fun i hi => by rw [o _ (by omega) (by omega)]; exact k1.2 i hi⟩
def sel (v1 v2 v3 v4 v5 v6 : Int32) : Int32 := if (nI 4) ≤ v6 then (if (nI 8) ≤ v6 then (if (nI 12) ≤ v6 then (if (nI 16) ≤ v6 then v5 else v4) else v3) else v2) else v1
theorem R_step (H : RI h R S K A tl T ft) (ht : tl < 400) {v6 : Int32} (h6 : ¬ nI 20 ≤ v6) {w7 : Value} : ev z d 190 23 [.ref R, .int v1, .int v2, .int v3, .int v4, .int v5, .int v6, w7] [] h = ev z d 190 23 [.ref R, .int v1, .int v2, .int v3, .int v4, .int v5, .int (v6 + nI 1), .int (sel v1 v2 v3 v4 v5 v6)] [] (zwI (zwI h (R + 5) tl (wb (sel v1 v2 v3 v4 v5 v6) ((nI 24) - ((nI 8) * (v6 - v6 / (nI 4) * (nI 4)))))) R 8 (nI tl + nI 1)) := by
  rw [S_M_feed_23 H.1.1, if_neg h6, H.2.1.1]
  unfold sel wb
  by_cases c1 : nI 4 ≤ v6
  · simp only [if_pos c1]
    by_cases c2 : nI 8 ≤ v6
    · simp only [if_pos c2]
      by_cases c3 : nI 12 ≤ v6
      · simp only [if_pos c3]
        by_cases c4 : nI 16 ≤ v6
        · simp only [if_pos c4]
          exact ix_n ht (by decide)
        · simp only [if_neg c4]
          exact ix_n ht (by decide)
      · simp only [if_neg c3]
        exact ix_n ht (by decide)
    · simp only [if_neg c2]
      exact ix_n ht (by decide)
  · simp only [if_neg c1]
    exact ix_n ht (by decide)
theorem R_put (H : RI h R S K A tl T ft) (ht : tl + 4 ≤ 400) {i : Nat} (hi : i < 5) {w7 : Value} (hw : sel v1 v2 v3 v4 v5 (nI (4 * i)) = w) : ∃ h' w', ev z d 190 23 [.ref R, .int v1, .int v2, .int v3, .int v4, .int v5, .int (nI (4 * i)), w7] [] h = ev z d 190 23 [.ref R, .int v1, .int v2, .int v3, .int v4, .int v5, .int (nI (4 * (i + 1))), w'] [] h' ∧ Fr (Rz R) h h' ∧ RI h' R S K A (tl + 1 + 1 + 1 + 1) (pT T tl w) ft := by
  have fr : ∀ {g : Hp} {t : Nat} {v u : Int32}, Fr (Rz R) g (zwI (zwI g (R + 5) t v) R 8 u) := fB ⟨by omega, by omega⟩ ⟨by omega, by omega⟩
  have sw : ∀ j, j < 4 → sel v1 v2 v3 v4 v5 (nI (4 * i + j)) = w ∧ (nI 24) - ((nI 8) * (nI (4 * i + j) - nI (4 * i + j) / (nI 4) * (nI 4))) = nI (24 - 8 * j) ∧ ¬ nI 20 ≤ nI (4 * i + j) ∧ nI (4 * i + j) + nI 1 = nI (4 * i + (j + 1)) := by
    intro j hj
    have e : ∀ a b : Nat, a < 100 → b < 100 → (nI a ≤ nI b ↔ a ≤ b) := fun a b ha hb => nI_leI (by omega) (by omega)
    refine ⟨?_, ?_, nI_ge (by omega) (by decide), nI_add _ _⟩
    · rw [← hw]
      unfold sel
      rcases (by omega : i = 0 ∨ i = 1 ∨ i = 2 ∨ i = 3 ∨ i = 4) with r | r | r | r | r <;> subst r <;> rcases (by omega : j = 0 ∨ j = 1 ∨ j = 2 ∨ j = 3) with r | r | r | r <;> subst r <;> rfl
    · rcases (by omega : i = 0 ∨ i = 1 ∨ i = 2 ∨ i = 3 ∨ i = 4) with r | r | r | r | r <;> subst r <;> rcases (by omega : j = 0 ∨ j = 1 ∨ j = 2 ∨ j = 3) with r | r | r | r <;> subst r <;> decide
  obtain ⟨a0, b0, c0, d0⟩ := sw 0 (by decide)
  obtain ⟨a1, b1, c1, d1⟩ := sw 1 (by decide)
  obtain ⟨a2, b2, c2, d2⟩ := sw 2 (by decide)
  obtain ⟨a3, b3, c3, d3⟩ := sw 3 (by decide)
  clear sw hw
  rw [show 4 * i = 4 * i + 0 from rfl, R_step H (by omega) c0, a0, b0, d0]
  have H1 := R_byte H (by omega) (wb w (nI (24 - 8 * 0)))
  have F1 := fr (g := h) (t := tl) (v := wb w (nI (24 - 8 * 0))) (u := nI tl + nI 1)
  clear H
  generalize zwI (zwI h (R + 5) tl (wb w (nI (24 - 8 * 0)))) R 8 (nI tl + nI 1) = g1 at *
  rw [R_step H1 (by omega) c1, a1, b1, d1]
  have H2 := R_byte H1 (by omega) (wb w (nI (24 - 8 * 1)))
  have F2 := F1.tr (fr (g := g1) (t := tl + 1) (v := wb w (nI (24 - 8 * 1))) (u := nI (tl + 1) + nI 1))
  clear H1 F1
  generalize zwI (zwI g1 (R + 5) (tl + 1) (wb w (nI (24 - 8 * 1)))) R 8 (nI (tl + 1) + nI 1) = g2 at *
  rw [R_step H2 (by omega) c2, a2, b2, d2]
  have H3 := R_byte H2 (by omega) (wb w (nI (24 - 8 * 2)))
  have F3 := F2.tr (fr (g := g2) (t := tl + 1 + 1) (v := wb w (nI (24 - 8 * 2))) (u := nI (tl + 1 + 1) + nI 1))
  clear H2 F2
  generalize zwI (zwI g2 (R + 5) (tl + 1 + 1) (wb w (nI (24 - 8 * 2)))) R 8 (nI (tl + 1 + 1) + nI 1) = g3 at *
  rw [R_step H3 (by omega) c3, a3, b3, d3]
  have H4 := R_byte H3 (by omega) (wb w (nI (24 - 8 * 3)))
  have F4 := F3.tr (fr (g := g3) (t := tl + 1 + 1 + 1) (v := wb w (nI (24 - 8 * 3))) (u := nI (tl + 1 + 1 + 1) + nI 1))
  clear H3 F3
  generalize zwI (zwI g3 (R + 5) (tl + 1 + 1 + 1) (wb w (nI (24 - 8 * 3)))) R 8 (nI (tl + 1 + 1 + 1) + nI 1) = g4 at *
  exact ⟨g4, _, rfl, F4, H4⟩
theorem R_feed0 (H : RI h R S K A tl T ft) (ht : ¬ tl + 20 ≤ 400) : ev z d 190 0 [.ref R, .int v1, .int v2, .int v3, .int v4, .int v5, zu, zu] [] h = some (.inl (some (.int (-1))), zwI h R 0 (nI 0)) ∧ RI (zwI h R 0 (nI 0)) R S K A tl T ft := by
  refine ⟨?_, H.s (Rs.w (by decide))⟩
  have t2 := H.2.1.2.1
  rw [S_M_feed_0 H.1.1, H.2.1.1, nI_add, if_neg (fun q => ht ((nI_leI (by omega) (by decide)).mp q))]
theorem R_feed (H : RI h R S K A tl T ft) (ht : tl + 20 ≤ 400) : ∃ h', ev z d 190 0 [.ref R, .int v1, .int v2, .int v3, .int v4, .int v5, zu, zu] [] h = some (.inl (some (.int (nI (tl + 20)))), h') ∧ Fr (Rz R) h h' ∧ RI h' R S K A (tl + 20) (fdT T tl v1 v2 v3 v4 v5) ft := by
  rw [S_M_feed_0 H.1.1, H.2.1.1, nI_add, if_pos ((nI_leI (by omega) (by decide)).mpr ht)]
  have H0 := H.s (Rs.w (j := 0) (v := nI 0) (by decide))
  have F0 : Fr (Rz R) h (zwI h R 0 (nI 0)) := Fr.w ⟨by omega, by omega⟩
  clear H
  generalize zwI h R 0 (nI 0) = g0 at *
  obtain ⟨g1, w1, e1, F1, H1⟩ := R_put (z := z) (d := d) (v1 := v1) (v2 := v2) (v3 := v3) (v4 := v4) (v5 := v5) (w := v1) (w7 := zu) H0 (by omega) (i := 0) (by decide) rfl
  obtain ⟨g2, w2, e2, F2, H2⟩ := R_put (z := z) (d := d) (v1 := v1) (v2 := v2) (v3 := v3) (v4 := v4) (v5 := v5) (w := v2) (w7 := w1) H1 (by omega) (i := 1) (by decide) rfl
  obtain ⟨g3, w3, e3, F3, H3⟩ := R_put (z := z) (d := d) (v1 := v1) (v2 := v2) (v3 := v3) (v4 := v4) (v5 := v5) (w := v3) (w7 := w2) H2 (by omega) (i := 2) (by decide) rfl
  obtain ⟨g4, w4, e4, F4, H4⟩ := R_put (z := z) (d := d) (v1 := v1) (v2 := v2) (v3 := v3) (v4 := v4) (v5 := v5) (w := v4) (w7 := w3) H3 (by omega) (i := 3) (by decide) rfl
  obtain ⟨g5, w5, e5, F5, H5⟩ := R_put (z := z) (d := d) (v1 := v1) (v2 := v2) (v3 := v3) (v4 := v4) (v5 := v5) (w := v5) (w7 := w4) H4 (by omega) (i := 4) (by decide) rfl
  rw [show nI 0 = nI (4 * 0) from rfl, e1, e2, e3, e4, e5, S_M_feed_23 H5.1.1, if_pos (by decide), H5.2.1.1]
  exact ⟨g5, rfl, ((((F0.tr F1).tr F2).tr F3).tr F4).tr F5, H5⟩
end
