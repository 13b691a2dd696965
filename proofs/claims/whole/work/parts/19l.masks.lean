/-! WHAT A DEED RIPENS BY AND COSTS, in the reference -/
/-- what asking changes there -/
def RA (R : Nat) (h h' : Hp) : Prop := Fr (fun x => x = R ∨ x = R + 6) h h' ∧ ∀ y, y < 9 ∨ y = 12 ∨ 19 ≤ y → zI h' R y = zI h R y
theorem RA.rf {R : Nat} {h : Hp} : RA R h h := ⟨Fr.rf, fun _ _ => rfl⟩
theorem RA.tr {R : Nat} {h g h' : Hp} (a : RA R h g) (b : RA R g h') : RA R h h' := ⟨a.1.tr b.1, fun y hy => (b.2 y hy).trans (a.2 y hy)⟩
section
variable {z : ZE} {d : Nat} {h h' g : Hp} {R k E : Nat} {P : Row} {np ni nd : Nat} {ls : List LN} {x y : Int32}
theorem mo {a j : Nat} {v : Int32} (ha : a ≠ R + 1) : zwI (mH h R P) a j v = mH (zwI h a j v) R P := by
  unfold mH
  simp only [zw_hI, hIhI, zIhI]
  refine hI_ext (fun x y => ?_)
  unfold zup
  by_cases hx : x = R + 1
  · have : ¬ x = a := fun e => ha (e.symm.trans hx)
    have h2 : ¬ R + 1 = a := fun e => ha e.symm
    simp [hx, h2]
  · simp [hx]
theorem mo_R {j : Nat} {v : Int32} : zwI (mH h R P) R j v = mH (zwI h R j v) R P := mo (by omega)
theorem mo_6 {j : Nat} {v : Int32} : zwI (mH h R P) (R + 6) j v = mH (zwI h (R + 6) j v) R P := mo (by omega)
theorem moR {y : Nat} : zI (mH h R P) R y = zI h R y := m_o (by omega)
theorem mo6 {y : Nat} : zI (mH h R P) (R + 6) y = zI h (R + 6) y := m_o (by omega)
theorem arc {H : Hp} (h1 : zI H R 11 = nI 0) (h2 : zI H R 17 = x) (h3 : zI H R 18 = y) : aH (rcH H R x y) R 0 = H := by
  unfold aH rcH
  rw [zw_id h2, zw_id h3, zw_id h1]
theorem lwT_0 {T : Row} : lwT T 0 = .inr [] := by
  unfold lwT
  rw [if_neg (by omega)]
theorem OkL_E (H : OkL P ls) : ∃ E, E ≤ 400 ∧ lwT (lTx P) E = .inr ls ∧ (nI 1 ≤ P 1 → P 2 = nI E) ∧ (¬ nI 1 ≤ P 1 → nI 0 = nI E) := by
  rcases H with ⟨e, rfl⟩ | ⟨E, hE, e1, e2, hw⟩
  · exact ⟨0, by decide, lwT_0, fun q => by rw [e] at q; exact absurd q (by decide), fun _ => rfl⟩
  · cases ls with
    | nil => exact ⟨0, by decide, lwT_0, fun q => by rw [e1] at q; exact absurd q (by decide), fun _ => rfl⟩
    | cons l ls =>
      have := (lwT_ok hw).1
      exact ⟨E, hE, hw, fun _ => e2, fun q => absurd (by rw [e1]; exact nI_le (by rw [List.length_cons]; omega) (by omega)) q⟩
theorem fac7 : fac P k 7 = 0 ∨ fac P k 7 = 1 := by
  unfold fac
  by_cases c : P (45 + 12 * k + 5) = -1
  · rw [if_pos c]; exact Or.inl rfl
  · rw [if_neg c]; exact Or.inr rfl
theorem fac8 : fac P k 8 = 0 ∨ fac P k 8 = 1 := by
  unfold fac
  by_cases c : P (45 + 12 * k + 6) = -1
  · rw [if_pos c]; exact Or.inl rfl
  · rw [if_neg c]; exact Or.inr rfl
theorem fac8_0 (c : P (45 + 12 * k + 6) = -1) : nI 0 = fac P k 8 := (if_pos c).symm
theorem fac8_1 (c : ¬ P (45 + 12 * k + 6) = -1) : nI 1 = fac P k 8 := (if_neg c).symm
theorem RA_k (hR : RSk g R) {x : Nat} (q : x = R ∨ x = R + 6) : zK g x ≠ 12 ∧ zK g x ≠ 27 := by
  rcases q with e | e
  · rw [e, RSk_K hR]; decide
  · rw [e, RSk_k14 hR]; decide
theorem mtx {W : Hp} {j : Nat} : zI (mH W R P) (R + 1) (381 + j) = lTx P j := m1
theorem T_M_asks_r (hR : RSk g R) (hW : WA z g) (hE : E ≤ 400) (hl : lwT (lTx P) E = .inr ls) (h6 : ∀ j, j < 7 → zI g (R + 6) j = fac P k j) (h15 : zI g R 15 = fac P k 7) (h17 : zI g R 17 = x) (h18 : zI g R 18 = y) {w1 w2 w4 : Value} {G : Nat → Hp → Option (zO × Hp)} : ∃ h', zbd (ev z (d + 7) 210 0 [.ref R, .int (nI 1), zu, zu] [] (mH (zwI (zwI (zwI (zwI (zwI (zwI g R 16 (fac P k 8)) R 12 (-1)) R 9 (nI 381)) R 10 (nI E)) R 11 (nI 0)) R 13 (nI 0)) R P)) (fun v h' => ev z (d + 7) 223 213 [.ref R, w1, w2, .int (zI g R 12), w4] (v.toList ++ []) h') G = some (.inl none, mH h' R P) ∧ RA R g h' ∧ zI h' R 17 = (if rpS (fac P k) ls x < nI 0 then nI 0 else rpS (fac P k) ls x) ∧ zI h' R 18 = cpS (fac P k) ls y := by
  generalize hw : zwI (zwI (zwI (zwI (zwI (zwI g R 16 (fac P k 8)) R 12 (-1)) R 9 (nI 381)) R 10 (nI E)) R 11 (nI 0)) R 13 (nI 0) = W
  have fW : Fr (fun x => x = R ∨ x = R + 6) g W := by
    rw [← hw]
    exact Fr.a (Fr.a (Fr.a (Fr.a (Fr.a (Fr.w (Or.inl rfl)) (Or.inl rfl)) (Or.inl rfl)) (Or.inl rfl)) (Or.inl rfl)) (Or.inl rfl)
  have RW : RSk W R := RSk_fr fW hR
  have wj : ∀ y, y ≠ 16 → y ≠ 12 → y ≠ 9 → y ≠ 10 → y ≠ 11 → y ≠ 13 → zI W R y = zI g R y := by
    intro y a1 a2 a3 a4 a5 a6
    rw [← hw, zI_wj a6, zI_wj a5, zI_wj a4, zI_wj a3, zI_wj a2, zI_wj a1]
  have w16 : zI W R 16 = fac P k 8 := by rw [← hw, zI_wj (by decide), zI_wj (by decide), zI_wj (by decide), zI_wj (by decide), zI_wj (by decide), zI_wa]
  have w12 : zI W R 12 = -1 := by rw [← hw, zI_wj (by decide), zI_wj (by decide), zI_wj (by decide), zI_wj (by decide), zI_wa]
  have w9 : zI W R 9 = nI 381 := by rw [← hw, zI_wj (by decide), zI_wj (by decide), zI_wj (by decide), zI_wa]
  have w10 : zI W R 10 = nI E := by rw [← hw, zI_wj (by decide), zI_wj (by decide), zI_wa]
  have w11 : zI W R 11 = nI 0 := by rw [← hw, zI_wj (by decide), zI_wa]
  have w13 : zI W R 13 = nI 0 := by rw [← hw, zI_wa]
  have w6 : ∀ j, zI W (R + 6) j = zI g (R + 6) j := fun j => by rw [← hw, zI_wb (by omega), zI_wb (by omega), zI_wb (by omega), zI_wb (by omega), zI_wb (by omega), zI_wb (by omega)]
  have M : MT (mH W R P) R (lTx P) E := ⟨mr RW, hE, moR.trans w10, Or.inr ⟨moR.trans w9, fun _ _ => mtx⟩⟩
  have hWW : WA z (mH W R P) := WA_m (WA_fr fW (fun x q => RA_k hR q) hW) RW
  have hF : FA (mH W R P) R (fac P k) := by
    refine ⟨fun j hj => mo6.trans ((w6 j).trans (h6 j hj)), ⟨moR.trans ((wj 15 (by decide) (by decide) (by decide) (by decide) (by decide) (by decide)).trans h15), moR.trans w16⟩, fac7, fac8⟩
  have q := arc (H := mH W R P) (R := R) (x := x) (y := y) (moR.trans w11) (moR.trans ((wj 17 (by decide) (by decide) (by decide) (by decide) (by decide) (by decide)).trans h17)) (moR.trans ((wj 18 (by decide) (by decide) (by decide) (by decide) (by decide) (by decide)).trans h18))
  have t := T_M_readT (z := z) (d := d) (x := x) (y := y) M (moR.trans w12) hWW hF (moR.trans w13)
  rw [q, hl] at t
  obtain ⟨a, ea⟩ := t
  rw [ea]
  simp only [zbd_i, tl_s]
  have RK : ∀ {u v : Int32}, RSk (aH (rcH (mH W R P) R u v) R a) R := fun {u v} => RSk_w (RSk_w (RSk_w (mr RW)))
  rw [S_M_asks_213 RK, rc17, T_M_greater]
  simp only [zbd_i, tl_s]
  rw [S_M_asks_229 (RSk_w RK)]
  unfold aH rcH
  simp only [mo_R]
  refine ⟨_, rfl, ⟨?_, ?_⟩, zI_wa, ?_⟩
  · exact fW.tr (Fr.a (Fr.a (Fr.a (Fr.a (Fr.w (Or.inl rfl)) (Or.inl rfl)) (Or.inl rfl)) (Or.inl rfl)) (Or.inl rfl))
  · intro j hj
    rw [zI_wj (by omega)]
    by_cases c : j = 12
    · subst c; rw [zI_wa]
    · rw [zI_wj c, zI_wj (by omega), zI_wj (by omega), zI_wj (by omega)]
      exact wj j (by omega) (by omega) (by omega) (by omega) (by omega) (by omega)
  · rw [zI_wj (by decide), zI_wj (by decide), zI_wj (by decide), zI_wa]
theorem T_M_asks (hR : RSk h R) (hW : WA z h) (hD : OkD P np ni nd) (hS : OkS P) (h6 : ni ≤ 6) (h8 : nd ≤ 8) (hL : OkL P ls) (hk : k < nd) : ∃ h', ev z (d + 7) 223 0 [.ref R, .int (nI k), zu, zu, zu] [] (mH h R P) = some (.inl none, mH h' R P) ∧ RA R h h' ∧ zI h' R 17 = ripS P ls k ∧ zI h' R 18 = cosS P ls k := by
  obtain ⟨i1, i2⟩ := ink_e hD hk h6
  obtain ⟨s1, s2⟩ := sea_e hS
  obtain ⟨E, hE, hl, hb1, hb2⟩ := OkL_E hL
  have i3 := i1
  unfold ripS ripX cosS soS
  generalize cN (P (45 + 12 * k + 0)) = i at i1 i2 ⊢
  have o := fun (g : Hp) (hg : RSk g R) c (hc : 45 + 12 * k + c < 781) => T_M_of2 (z := z) (d := d + 7) (h := g) (P := P) hg (k := k) (c := c) hc
  rw [S_M_asks_0 (mr hR), o h hR 0 (by omega), m1, s1]
  simp only [zbd_i, tl_s]
  rw [i1, S_M_asks_19 (mr hR), T_M_soaked (mr hR) (by omega) (by omega), m1, m1]
  simp only [zbd_i, tl_s]
  rw [S_M_asks_23 (mr hR)]
  generalize P (27 + 3 * i + 2) * P (11 + seaN P) / nI 10 = so
  simp only [mo_R, mo_6, m1]
  have q3 : ∀ {a1 b1 a2 b2 a3 b3 : Nat} {v1 v2 v3 : Int32}, RSk (zwI (zwI (zwI h a1 b1 v1) a2 b2 v2) a3 b3 v3) R := RSk_w (RSk_w (RSk_w hR))
  rw [o _ q3 0 (by omega)]
  simp only [zbd_i, tl_s]
  rw [S_M_asks_56 (mr q3), ix_n (by decide) (by decide)]
  simp only [mo_R, mo_6, m1]
  rw [o _ (RSk_w q3) 3 (by omega)]
  simp only [zbd_i, tl_s]
  rw [S_M_asks_68 (mr (RSk_w q3)), ix_n (by decide) (by decide)]
  simp only [mo_R, mo_6, m1]
  rw [o _ (RSk_w (RSk_w q3)) 8 (by omega)]
  simp only [zbd_i, tl_s]
  rw [S_M_asks_81 (mr (RSk_w (RSk_w q3))), ix_n (by decide) (by decide), nI_add, ix_n (by omega) (by decide)]
  simp only [mo_R, mo_6, m1]
  rw [o _ (RSk_w (RSk_w (RSk_w (RSk_w (RSk_w (RSk_w q3)))))) 5 (by omega)]
  simp only [zbd_i, tl_s]
  rw [S_M_asks_125 (mr (RSk_w (RSk_w (RSk_w (RSk_w (RSk_w (RSk_w q3)))))))]
  simp only [mo_R, mo_6, m1]
  generalize hg0 : zwI (zwI (zwI (zwI (zwI (zwI (zwI (zwI (zwI h R 17 (nI 1 + so)) R 18 (P 7)) (R + 6) 0 (nI k)) (R + 6) 1 (P (45 + 12 * k + 0))) (R + 6) 2 (P (45 + 12 * k + 3))) (R + 6) 3 (P (45 + 12 * k + 8))) (R + 6) 4 (nI (seaN P))) (R + 6) 5 (P (11 + seaN P))) (R + 6) 6 (P 7) = g0
  have f0 : Fr (fun x => x = R ∨ x = R + 6) h g0 := by
    rw [← hg0]
    exact Fr.a (Fr.a (Fr.a (Fr.a (Fr.a (Fr.a (Fr.a (Fr.a (Fr.w (Or.inl rfl)) (Or.inl rfl)) (Or.inr rfl)) (Or.inr rfl)) (Or.inr rfl)) (Or.inr rfl)) (Or.inr rfl)) (Or.inr rfl)) (Or.inr rfl)
  have R0 : RSk g0 R := RSk_fr f0 hR
  have W0 : WA z g0 := WA_fr f0 (fun x q => RA_k hR q) hW
  have a17 : zI g0 R 17 = nI 1 + so := by
    rw [← hg0, zI_wb (by omega), zI_wb (by omega), zI_wb (by omega), zI_wb (by omega), zI_wb (by omega), zI_wb (by omega), zI_wb (by omega), zI_wj (by decide), zI_wa]
  have a18 : zI g0 R 18 = P 7 := by
    rw [← hg0, zI_wb (by omega), zI_wb (by omega), zI_wb (by omega), zI_wb (by omega), zI_wb (by omega), zI_wb (by omega), zI_wb (by omega), zI_wa]
  have aj' : ∀ y, y ≠ 17 → y ≠ 18 → zI g0 R y = zI h R y := by
    intro y a b
    rw [← hg0, zI_wb (by omega), zI_wb (by omega), zI_wb (by omega), zI_wb (by omega), zI_wb (by omega), zI_wb (by omega), zI_wb (by omega), zI_wj b, zI_wj a]
  have a6 : ∀ j, j < 7 → zI g0 (R + 6) j = fac P k j := by
    intro j hj
    rw [← hg0]
    match j, hj with
    | 0, _ => rw [zI_wj (by decide), zI_wj (by decide), zI_wj (by decide), zI_wj (by decide), zI_wj (by decide), zI_wj (by decide), zI_wa]; rfl
    | 1, _ => rw [zI_wj (by decide), zI_wj (by decide), zI_wj (by decide), zI_wj (by decide), zI_wj (by decide), zI_wa]; rfl
    | 2, _ => rw [zI_wj (by decide), zI_wj (by decide), zI_wj (by decide), zI_wj (by decide), zI_wa]; rfl
    | 3, _ => rw [zI_wj (by decide), zI_wj (by decide), zI_wj (by decide), zI_wa]; rfl
    | 4, _ => rw [zI_wj (by decide), zI_wj (by decide), zI_wa]; rfl
    | 5, _ => rw [zI_wj (by decide), zI_wa]; rfl
    | 6, _ => rw [zI_wa]; rfl
  /- behind both questions -/
  have fin : ∀ b15, b15 = fac P k 7 → ∃ h', zbd (ev z (d + 7) 179 0 [.ref R, .int (nI k), .int (nI 6)] [] (mH (zwI g0 R 15 b15) R P)) (fun v h' => ev z (d + 7) 223 145 [.ref R, .int (nI k), .int (nI (seaN P)), zu, zu] (v.toList ++ [.ref R]) h') (fun e h' => evx z (d + 7) 223 142 [.ref R, .int (nI k), .int (nI (seaN P)), zu, zu] e h') = some (.inl none, mH h' R P) ∧ RA R h h' ∧ zI h' R 17 = (if rpS (fac P k) ls (nI 1 + so) < nI 0 then nI 0 else rpS (fac P k) ls (nI 1 + so)) ∧ zI h' R 18 = cpS (fac P k) ls (P 7) := by
    intro b15 h15
    have R1 : RSk (zwI g0 R 15 b15) R := RSk_w R0
    have ra : RA R h (zwI g0 R 15 b15) := ⟨f0.a (Or.inl rfl), fun y hy => (zI_wj (by omega)).trans (aj' y (by omega) (by omega))⟩
    rw [o _ R1 6 (by omega)]
    simp only [zbd_i, tl_s]
    rw [S_M_asks_145 (mr R1) zisL_i]
    have t := fun (w1 w2 w4 : Value) (G : Nat → Hp → Option (zO × Hp)) => T_M_asks_r (z := z) (d := d) (k := k) (P := P) (x := nI 1 + so) (y := P 7) (g := zwI g0 R 15 b15) (w1 := w1) (w2 := w2) (w4 := w4) (G := G) R1 (WA_w W0 (RSk_K R0)) hE hl (fun j hj => (zI_wb (by omega)).trans (a6 j hj)) (zI_wa.trans h15) ((zI_wj (by decide)).trans a17) ((zI_wj (by decide)).trans a18)
    have out : ∀ (w1 w2 w4 : Value) (G : Nat → Hp → Option (zO × Hp)) (b16 : Int32), b16 = fac P k 8 → ∃ h', zbd (ev z (d + 7) 210 0 [.ref R, .int (nI 1), zu, zu] [] (mH (zwI (zwI (zwI (zwI (zwI (zwI (zwI g0 R 15 b15) R 16 b16) R 12 (-1)) R 9 (nI 381)) R 10 (nI E)) R 11 (nI 0)) R 13 (nI 0)) R P)) (fun v h' => ev z (d + 7) 223 213 [.ref R, w1, w2, .int (zI (zwI g0 R 15 b15) R 12), w4] (v.toList ++ []) h') G = some (.inl none, mH h' R P) ∧ RA R h h' ∧ zI h' R 17 = (if rpS (fac P k) ls (nI 1 + so) < nI 0 then nI 0 else rpS (fac P k) ls (nI 1 + so)) ∧ zI h' R 18 = cpS (fac P k) ls (P 7) := by
      intro w1 w2 w4 G b16 hb16
      rw [hb16]
      obtain ⟨h', e1, e2, e3, e4⟩ := t w1 w2 w4 G
      exact ⟨h', e1, ra.tr e2, e3, e4⟩
    have z1 : ∀ b16, zI (zwI (zwI (zwI (mH (zwI g0 R 15 b15) R P) R 16 b16) R 12 (-1)) R 9 (nI 381)) (R + 1) 1 = P 1 := fun b16 => by rw [zI_wb (by omega), zI_wb (by omega), zI_wb (by omega), m1]
    have z2 : ∀ b16, zI (zwI (zwI (zwI (mH (zwI g0 R 15 b15) R P) R 16 b16) R 12 (-1)) R 9 (nI 381)) (R + 1) 2 = P 2 := fun b16 => by rw [zI_wb (by omega), zI_wb (by omega), zI_wb (by omega), m1]
    rw [z1, z1, z2, z2, moR]
    by_cases c1 : P (45 + 12 * k + 6) = -1
    · rw [if_pos c1]
      by_cases c2 : nI 1 ≤ P 1
      · rw [if_pos c2, hb1 c2]
        simp only [mo_R]
        exact out _ _ _ _ (nI 0) (fac8_0 c1)
      · have o2 := out (.int (nI k)) (.int (nI (seaN P))) zu (fun e h' => evx z (d + 7) 223 210 [.ref R, .int (nI k), .int (nI (seaN P)), .int (zI (zwI g0 R 15 b15) R 12), zu] e h') (nI 0) (fac8_0 c1)
        rw [← hb2 c2] at o2
        rw [if_neg c2]
        simp only [mo_R]
        exact o2
    · rw [if_neg c1]
      by_cases c2 : nI 1 ≤ P 1
      · rw [if_pos c2, hb1 c2]
        simp only [mo_R]
        exact out _ _ _ _ (nI 1) (fac8_1 c1)
      · have o2 := out (.int (nI k)) (.int (nI (seaN P))) zu (fun e h' => evx z (d + 7) 223 210 [.ref R, .int (nI k), .int (nI (seaN P)), .int (zI (zwI g0 R 15 b15) R 12), zu] e h') (nI 1) (fac8_1 c1)
        rw [← hb2 c2] at o2
        rw [if_neg c2]
        simp only [mo_R]
        exact o2
  by_cases c : P (45 + 12 * k + 5) = -1
  · rw [if_pos c]
    exact fin (nI 0) (if_pos c).symm
  · rw [if_neg c]
    exact fin (nI 1) (if_neg c).symm
theorem T_M_costsOf (hR : RSk h R) (hW : WA z h) (hD : OkD P np ni nd) (hS : OkS P) (h6 : ni ≤ 6) (h8 : nd ≤ 8) (hL : OkL P ls) (hk : k < nd) : ∃ h', ev z (d + 7) 224 0 [.ref R, .int (nI k)] [] (mH h R P) = some (.inl (some (.int (cosS P ls k))), mH h' R P) ∧ RA R h h' := by
  obtain ⟨h', e1, f, e2, e3⟩ := T_M_asks (z := z) (d := d) hR hW hD hS h6 h8 hL hk
  rw [S_M_costsOf_0 (mr hR), e1]
  simp only [zbd_i, tl_n]
  rw [S_M_costsOf_5 (mr (RSk_fr f.1 hR)), moR, e3]
  exact ⟨h', rfl, f⟩
end
