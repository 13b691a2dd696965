/-! A PORT BECOMES ANOTHER -/
def BQ (g : Hp) (p : Nat) (P : Row) (np ni nd k1 k2 k3 : Nat) : Prop := (zI g p 1 = nI np ∧ zI g p 3 = nI ni ∧ zI g p 5 = nI nd) ∧ (∀ i c, i < k1 → c < 2 → zI g (p + 8 + i) c = P (15 + 2 * i + c)) ∧ (∀ i c, i < k2 → c < 3 → zI g (p + 14 + i) c = P (27 + 3 * i + c)) ∧ (∀ i c, i < k3 → c < 12 → zI g (p + 20 + i) c = P (45 + 12 * i + c))
theorem d12 {h : Hp} {o : Nat} {v0 v1 v2 v3 v4 v5 v6 v7 v8 v9 v10 v11 : Int32} : ∀ c, c < 12 → zI (zwI (zwI (zwI (zwI (zwI (zwI (zwI (zwI (zwI (zwI (zwI (zwI h o 0 v0) o 1 v1) o 2 v2) o 3 v3) o 4 v4) o 5 v5) o 6 v6) o 7 v7) o 8 v8) o 9 v9) o 10 v10) o 11 v11) o c = nth12 v0 v1 v2 v3 v4 v5 v6 v7 v8 v9 v10 v11 c := by
  intro c hc
  simp only [zI_w]
  match c, hc with
  | 0, _ => simp [nth12]
  | 1, _ => simp [nth12]
  | 2, _ => simp [nth12]
  | 3, _ => simp [nth12]
  | 4, _ => simp [nth12]
  | 5, _ => simp [nth12]
  | 6, _ => simp [nth12]
  | 7, _ => simp [nth12]
  | 8, _ => simp [nth12]
  | 9, _ => simp [nth12]
  | 10, _ => simp [nth12]
  | 11, _ => simp [nth12]
section
variable {z : ZE} {d : Nat} {h h' g : Hp} {p q k : Nat} {P : Row} {np ni nd : Nat} {Lo : Option Nat} {w2 : Value}
theorem T_bec_p (hpq : p + 28 ≤ q ∨ q + 28 ≤ p) (H : Ok (P, np, ni, nd)) : ∀ n k g, k + n = np → PSk g p → PSk g q → PRp g q P np ni nd → BQ g p P np ni nd k 0 0 → ∃ g', Fr (Pz p) g g' ∧ BQ g' p P np ni nd np 0 0 ∧ ev z d 48 26 [.ref p, .ref q, .int (nI k)] [] g = ev z d 48 57 [.ref p, .ref q, .int (nI 0)] [] g' := by
  have l6 : np ≤ 6 := H.1.2.2.2.1
  intro n
  induction n with
  | zero =>
    intro k g hk hP hQ R B
    obtain rfl : k = np := by omega
    refine ⟨g, Fr.rf, B, ?_⟩
    rw [S_Port_becomen_26 hP hQ, B.1.1, if_pos (nI_le (Nat.le_refl _) (by omega))]
  | succ n ih =>
    intro k g hk hP hQ R B
    have kn : k < np := by omega
    have r0 := R.party kn (c := 0) (by decide)
    have r1 := R.party kn (c := 1) (by decide)
    have bb := (H.2.2.2.1 k kn).1
    dsimp only at bb
    rw [S_Port_becomen_26 hP hQ, B.1.1, if_neg (nI_ge kn (by omega)), ix_n (by omega) (by decide), ix_n (by omega) (by decide), S_Party_become_0 (PSk_o0 hP (by omega)) (PSk_o0 hQ (by omega)) (by rw [r1]; exact bb), r0, r1]
    simp only [zbd_i, tl_n, S_Port_becomen_49, nI_add]
    have f : Fr (Pz p) g (zwI (zwI g (p + 8 + k) 0 (P (15 + 2 * k + 0))) (p + 8 + k) 1 (P (15 + 2 * k + 1))) := Fr.a (Fr.w ⟨by omega, by omega⟩) ⟨by omega, by omega⟩
    have B' : BQ (zwI (zwI g (p + 8 + k) 0 (P (15 + 2 * k + 0))) (p + 8 + k) 1 (P (15 + 2 * k + 1))) p P np ni nd (k + 1) 0 0 := by
      obtain ⟨⟨b1, b2, b3⟩, b4, -, -⟩ := B
      refine ⟨⟨?_, ?_, ?_⟩, fun i c hi hc => ?_, fun i c hi => by omega, fun i c hi => by omega⟩
      · rw [zI_wb (by omega), zI_wb (by omega)]; exact b1
      · rw [zI_wb (by omega), zI_wb (by omega)]; exact b2
      · rw [zI_wb (by omega), zI_wb (by omega)]; exact b3
      · by_cases e : i = k
        · subst e
          match c, hc with
          | 0, _ => rw [zI_wj (by decide), zI_wa]
          | 1, _ => rw [zI_wa]
        · rw [zI_wb (by omega), zI_wb (by omega)]; exact b4 i c (by omega) hc
    obtain ⟨g', f', b', e'⟩ := ih (k + 1) _ (by omega) (PSk_fr f hP) (PSk_fr f hQ) (R.fr f (fun x y => by obtain ⟨y1, y2⟩ := y; omega)) B'
    exact ⟨g', f.tr f', b', e'⟩
theorem T_bec_i (hpq : p + 28 ≤ q ∨ q + 28 ≤ p) (H : Ok (P, np, ni, nd)) : ∀ n k g, k + n = ni → PSk g p → PSk g q → PRp g q P np ni nd → BQ g p P np ni nd np k 0 → ∃ g', Fr (Pz p) g g' ∧ BQ g' p P np ni nd np ni 0 ∧ ev z d 48 57 [.ref p, .ref q, .int (nI k)] [] g = ev z d 48 88 [.ref p, .ref q, .int (nI 0)] [] g' := by
  have l6 : np ≤ 6 := H.1.2.2.2.1
  have l7 : ni ≤ 6 := H.1.2.2.2.2.1
  intro n
  induction n with
  | zero =>
    intro k g hk hP hQ R B
    obtain rfl : k = ni := by omega
    refine ⟨g, Fr.rf, B, ?_⟩
    rw [S_Port_becomen_57 hP hQ, B.1.2.1, if_pos (nI_le (Nat.le_refl _) (by omega))]
  | succ n ih =>
    intro k g hk hP hQ R B
    have kn : k < ni := by omega
    rw [S_Port_becomen_57 hP hQ, B.1.2.1, if_neg (nI_ge kn (by omega)), ix_n (by omega) (by decide), ix_n (by omega) (by decide), S_Ink_become_0 (PSk_o2 hP (by omega)) (PSk_o2 hQ (by omega)), R.ink kn (c := 0) (by decide), R.ink kn (c := 1) (by decide), R.ink kn (c := 2) (by decide)]
    simp only [zbd_i, tl_n, S_Port_becomen_80, nI_add]
    have f : Fr (Pz p) g (zwI (zwI (zwI g (p + 14 + k) 0 (P (27 + 3 * k + 0))) (p + 14 + k) 1 (P (27 + 3 * k + 1))) (p + 14 + k) 2 (P (27 + 3 * k + 2))) := Fr.a (Fr.a (Fr.w ⟨by omega, by omega⟩) ⟨by omega, by omega⟩) ⟨by omega, by omega⟩
    have B' : BQ (zwI (zwI (zwI g (p + 14 + k) 0 (P (27 + 3 * k + 0))) (p + 14 + k) 1 (P (27 + 3 * k + 1))) (p + 14 + k) 2 (P (27 + 3 * k + 2))) p P np ni nd np (k + 1) 0 := by
      obtain ⟨⟨b1, b2, b3⟩, b4, b5, -⟩ := B
      refine ⟨⟨?_, ?_, ?_⟩, fun i c hi hc => ?_, fun i c hi hc => ?_, fun i c hi => by omega⟩
      · rw [zI_wb (by omega), zI_wb (by omega), zI_wb (by omega)]; exact b1
      · rw [zI_wb (by omega), zI_wb (by omega), zI_wb (by omega)]; exact b2
      · rw [zI_wb (by omega), zI_wb (by omega), zI_wb (by omega)]; exact b3
      · rw [zI_wb (by omega), zI_wb (by omega), zI_wb (by omega)]; exact b4 i c hi hc
      · by_cases e : i = k
        · subst e
          match c, hc with
          | 0, _ => rw [zI_wj (by decide), zI_wj (by decide), zI_wa]
          | 1, _ => rw [zI_wj (by decide), zI_wa]
          | 2, _ => rw [zI_wa]
        · rw [zI_wb (by omega), zI_wb (by omega), zI_wb (by omega)]; exact b5 i c (by omega) hc
    obtain ⟨g', f', b', e'⟩ := ih (k + 1) _ (by omega) (PSk_fr f hP) (PSk_fr f hQ) (R.fr f (fun x y => by obtain ⟨y1, y2⟩ := y; omega)) B'
    exact ⟨g', f.tr f', b', e'⟩
theorem T_bec_d (hpq : p + 28 ≤ q ∨ q + 28 ≤ p) (H : Ok (P, np, ni, nd)) : ∀ n k g, k + n = nd → PSk g p → PSk g q → PRp g q P np ni nd → BQ g p P np ni nd np ni k → ∃ g' w2, Fr (Pz p) g g' ∧ BQ g' p P np ni nd np ni nd ∧ ev z d 48 88 [.ref p, .ref q, .int (nI k)] [] g = ev z d 48 117 [.ref p, .ref q, w2] [] g' := by
  have l6 : np ≤ 6 := H.1.2.2.2.1
  have l7 : ni ≤ 6 := H.1.2.2.2.2.1
  have l8 : nd ≤ 8 := H.1.2.2.2.2.2
  intro n
  induction n with
  | zero =>
    intro k g hk hP hQ R B
    obtain rfl : k = nd := by omega
    refine ⟨g, .int (nI k), Fr.rf, B, ?_⟩
    rw [S_Port_becomen_88 hP hQ, B.1.2.2, if_pos (nI_le (Nat.le_refl _) (by omega))]
  | succ n ih =>
    intro k g hk hP hQ R B
    have kn : k < nd := by omega
    have r := fun c (hc : c < 12) => R.deed kn hc
    have bb := (H.2.1 k kn).2.2.2.2.2
    dsimp only at bb
    rw [S_Port_becomen_88 hP hQ, B.1.2.2, if_neg (nI_ge kn (by omega)), ix_n (by omega) (by decide), ix_n (by omega) (by decide), S_Deed_become_0 (PSk_o4 hP (by omega)) (PSk_o4 hQ (by omega)) (by rw [r 11 (by decide)]; exact bb)]
    simp only [zbd_i, tl_n, S_Port_becomen_111, nI_add]
    rw [r 0 (by decide), r 1 (by decide), r 2 (by decide), r 3 (by decide), r 4 (by decide), r 5 (by decide), r 6 (by decide), r 7 (by decide), r 8 (by decide), r 9 (by decide), r 10 (by decide), r 11 (by decide)]
    generalize hG : zwI (zwI (zwI (zwI (zwI (zwI (zwI (zwI (zwI (zwI (zwI (zwI g (p + 20 + k) 0 (P (45 + 12 * k + 0))) (p + 20 + k) 1 (P (45 + 12 * k + 1))) (p + 20 + k) 2 (P (45 + 12 * k + 2))) (p + 20 + k) 3 (P (45 + 12 * k + 3))) (p + 20 + k) 4 (P (45 + 12 * k + 4))) (p + 20 + k) 5 (P (45 + 12 * k + 5))) (p + 20 + k) 6 (P (45 + 12 * k + 6))) (p + 20 + k) 7 (P (45 + 12 * k + 7))) (p + 20 + k) 8 (P (45 + 12 * k + 8))) (p + 20 + k) 9 (P (45 + 12 * k + 9))) (p + 20 + k) 10 (P (45 + 12 * k + 10))) (p + 20 + k) 11 (P (45 + 12 * k + 11)) = G
    have f1 : Fr (fun x => x = p + 20 + k) g G := by
      rw [← hG]
      exact Fr.a (Fr.a (Fr.a (Fr.a (Fr.a (Fr.a (Fr.a (Fr.a (Fr.a (Fr.a (Fr.a (Fr.w rfl) rfl) rfl) rfl) rfl) rfl) rfl) rfl) rfl) rfl) rfl) rfl
    have f : Fr (Pz p) g G := f1.mo (fun x y => ⟨by omega, by omega⟩)
    have B' : BQ G p P np ni nd np ni (k + 1) := by
      obtain ⟨⟨b1, b2, b3⟩, b4, b5, b6⟩ := B
      have i0 : zI G p = zI g p := f1.i (by omega)
      refine ⟨by rw [i0]; exact ⟨b1, b2, b3⟩, fun i c hi hc => ?_, fun i c hi hc => ?_, fun i c hi hc => ?_⟩
      · rw [f1.i (by omega)]; exact b4 i c hi hc
      · rw [f1.i (by omega)]; exact b5 i c hi hc
      · by_cases e : i = k
        · subst e
          rw [← hG, d12 c hc]
          match c, hc with
          | 0, _ => rfl
          | 1, _ => rfl
          | 2, _ => rfl
          | 3, _ => rfl
          | 4, _ => rfl
          | 5, _ => rfl
          | 6, _ => rfl
          | 7, _ => rfl
          | 8, _ => rfl
          | 9, _ => rfl
          | 10, _ => rfl
          | 11, _ => rfl
        · rw [f1.i (by omega)]; exact b6 i c (by omega) hc
    obtain ⟨g', w, f', b', e'⟩ := ih (k + 1) G (by omega) (PSk_fr f hP) (PSk_fr f hQ) (R.fr f (fun x y => by obtain ⟨y1, y2⟩ := y; omega)) B'
    exact ⟨g', w, f.tr f', b', e'⟩
theorem T_Book_bec (hP : PSk h p) (hQ : PSk h q) (hpq : p + 28 ≤ q ∨ q + 28 ≤ p) (B : BKp h q P) : ∃ h', ev z d 32 0 [.ref (p + 5), .ref (q + 5)] [] h = some (.inl none, h') ∧ Fr (fun x => x = p + 5 ∨ x = p + 6) h h' ∧ BKp h' p P := by
  obtain ⟨n, x, h1, h2, h3, h4, h5, h6⟩ := B
  have c1 : zI (zcpy h (q + 5 + 1) 0 (p + 5 + 1) 0 240) (q + 5) 1 = nI n := (if_neg (by omega)).trans h4
  have c2 : zI (zcpy h (q + 5 + 1) 0 (p + 5 + 1) 0 240) (q + 5) 2 = nI x := (if_neg (by omega)).trans h5
  rw [S_Book_become_0 (PSk_BSk hP) (PSk_BSk hQ) (by omega), c1, c2]
  refine ⟨_, rfl, ?_, n, x, h1, h2, h3, ?_, ?_, fun a c ha hc => ?_⟩
  · exact Fr.a (Fr.a (Fr.cpy (Or.inr rfl)) (Or.inl rfl)) (Or.inl rfl)
  · rw [zI_wj (by decide), zI_wa]
  · rw [zI_wa]
  · rw [zI_wb (by omega), zI_wb (by omega)]
    have lt : (x + 59 - a) % 60 * 4 + c < 240 := by omega
    refine (if_pos ⟨rfl, Nat.zero_le _, by omega⟩).trans ?_
    rw [Nat.zero_add, Nat.sub_zero]
    exact h6 a c ha hc
/-- the port's own numbers -/
theorem T_bec_n {g3 : Hp} (hpq : p + 28 ≤ q ∨ q + 28 ≤ p) (H : Ok (P, np, ni, nd)) (R3 : PRp g3 q P np ni nd) (B3 : BQ g3 p P np ni nd np ni nd) {G5 : Hp} (hG5 : zwI (zwI (zwI (zwI (zwI (zcpy g3 (q + 4) 0 (p + 4) 0 4) p 7 (P 7)) p 8 (P 8)) p 9 (P 6)) p 10 (P 10)) p 11 (P 0) = G5) : PRp G5 p P np ni nd ∧ Fr (fun x => x = p ∨ x = p + 4) g3 G5 := by
  have l6 : np ≤ 6 := H.1.2.2.2.1
  have l7 : ni ≤ 6 := H.1.2.2.2.2.1
  have l8 : nd ≤ 8 := H.1.2.2.2.2.2
  have f5 : Fr (fun x => x = p ∨ x = p + 4) g3 G5 := by
    rw [← hG5]
    exact Fr.a (Fr.a (Fr.a (Fr.a (Fr.a (Fr.cpy (Or.inr rfl)) (Or.inl rfl)) (Or.inl rfl)) (Or.inl rfl)) (Or.inl rfl)) (Or.inl rfl)
  refine ⟨?_, f5⟩
  obtain ⟨⟨b1, b2, b3⟩, b4, b5, b6⟩ := B3
  have c0 : ∀ y, zI (zcpy g3 (q + 4) 0 (p + 4) 0 4) p y = zI g3 p y := fun y => if_neg (by omega)
  have c4 : ∀ y, y < 4 → zI (zcpy g3 (q + 4) 0 (p + 4) 0 4) (p + 4) y = zI g3 (q + 4) y := fun y hy => (if_pos ⟨rfl, Nat.zero_le _, by omega⟩).trans (by rw [Nat.zero_add, Nat.sub_zero])
  have d4 : ∀ y, zI G5 (p + 4) y = zI (zcpy g3 (q + 4) 0 (p + 4) 0 4) (p + 4) y := fun y => by
    rw [← hG5, zI_wb (by omega), zI_wb (by omega), zI_wb (by omega), zI_wb (by omega), zI_wb (by omega)]
  refine ⟨⟨l6, l7, l8⟩, ⟨H.1.1, H.1.2.1, H.1.2.2.1⟩, ⟨?_, ?_, ?_⟩, ⟨?_, ?_, ?_, ?_, ?_⟩, fun k hk => ?_, fun i c hi hc => ?_, fun i c hi hc => ?_, fun i c hi hc => ?_⟩
  · rw [← hG5, zI_wj (by decide), zI_wj (by decide), zI_wj (by decide), zI_wj (by decide), zI_wj (by decide), c0]; exact b1
  · rw [← hG5, zI_wj (by decide), zI_wj (by decide), zI_wj (by decide), zI_wj (by decide), zI_wj (by decide), c0]; exact b2
  · rw [← hG5, zI_wj (by decide), zI_wj (by decide), zI_wj (by decide), zI_wj (by decide), zI_wj (by decide), c0]; exact b3
  · rw [← hG5, zI_wj (by decide), zI_wj (by decide), zI_wj (by decide), zI_wj (by decide), zI_wa]
  · rw [← hG5, zI_wj (by decide), zI_wj (by decide), zI_wj (by decide), zI_wa]
  · rw [← hG5, zI_wj (by decide), zI_wj (by decide), zI_wa]
  · rw [← hG5, zI_wj (by decide), zI_wa]
  · rw [← hG5, zI_wa]
  · rw [d4, c4 k hk]; exact R3.damp hk
  · rw [f5.i (by omega)]; exact b4 i c hi hc
  · rw [f5.i (by omega)]; exact b5 i c hi hc
  · rw [f5.i (by omega)]; exact b6 i c hi hc
theorem PRp_zI (e : zI g = zI h) (R : PRp h p P np ni nd) : PRp g p P np ni nd := by
  unfold PRp
  rw [e]
  exact R
theorem T_bec_l {G5 : Hp} {w : Value} (hP : PSk G5 p) (hQ : PSk G5 q) (hpq : p + 28 ≤ q ∨ q + 28 ≤ p) (R5 : PRp G5 p P np ni nd) (BK5 : BKp G5 q P) : ∃ h', Fr (Pz p) G5 h' ∧ PT h' p P np ni nd ∧ zR h' p 12 = Lo ∧ ev z d 48 183 [.ref p, .ref q, w] [] (zwR G5 p 12 Lo) = some (.inl none, h') := by
  have f6 : Fr (fun x => x = p) G5 (zwR G5 p 12 Lo) := Fr.wR rfl
  have z6 : zR (zwR G5 p 12 Lo) p 12 = Lo := if_pos ⟨rfl, rfl⟩
  have P6 := PSk_fr f6 hP
  have Q6 := PSk_fr f6 hQ
  have R6 : PRp (zwR G5 p 12 Lo) p P np ni nd := PRp_zI rfl R5
  have BK6 : BKp (zwR G5 p 12 Lo) q P := BK5.fr f6 (fun x y => by omega)
  generalize zwR G5 p 12 Lo = g6 at *
  obtain ⟨h', e7, f7, B7⟩ := T_Book_bec (z := z) (d := d) P6 Q6 hpq BK6
  rw [S_Port_becomen_183 P6 Q6, e7]
  simp only [zbd_i, tl_n, S_Port_becomen_194]
  refine ⟨h', (f6.mo (fun x y => ⟨by omega, by omega⟩)).tr (f7.mo (fun x y => ⟨by omega, by omega⟩)), ⟨PSk_fr f7 P6, R6.fr f7 (fun x y => by omega), B7⟩, ?_, rfl⟩
  rw [f7.rx (by omega)]; exact z6
theorem T_become (hP : PSk h p) (hpq : p + 28 ≤ q ∨ q + 28 ≤ p) (H : Ok (P, np, ni, nd)) (T : PT h q P np ni nd) (hLo : zR h q 12 = Lo) : ∃ h', Fr (Pz p) h h' ∧ PT h' p P np ni nd ∧ zR h' p 12 = Lo ∧ ev z d 48 0 [.ref p, .ref q, zu] [] h = some (.inl none, h') := by
  have nB : ∀ x, Pz p x → x < q ∨ q + 28 ≤ x ∨ (q + 5 ≤ x ∧ x ≤ q + 7) := fun x y => by obtain ⟨y1, y2⟩ := y; omega
  have B0 : BQ (zwI (zwI (zwI h p 1 (nI np)) p 3 (nI ni)) p 5 (nI nd)) p P np ni nd 0 0 0 := by
    refine ⟨⟨?_, ?_, ?_⟩, fun i c hi => by omega, fun i c hi => by omega, fun i c hi => by omega⟩
    · rw [zI_wj (by decide), zI_wj (by decide), zI_wa]
    · rw [zI_wj (by decide), zI_wa]
    · rw [zI_wa]
  have f0 : Fr (Pz p) h (zwI (zwI (zwI h p 1 (nI np)) p 3 (nI ni)) p 5 (nI nd)) := Fr.a (Fr.a (Fr.w ⟨Nat.le_refl _, by omega⟩) ⟨Nat.le_refl _, by omega⟩) ⟨Nat.le_refl _, by omega⟩
  rw [S_Port_becomen_0 hP T.1, T.rp.cp, T.rp.ci, T.rp.cd]
  generalize zwI (zwI (zwI h p 1 (nI np)) p 3 (nI ni)) p 5 (nI nd) = G0 at *
  obtain ⟨g1, f1, B1, e1⟩ := T_bec_p (z := z) (d := d) hpq H np 0 G0 (by omega) (PSk_fr f0 hP) (PSk_fr f0 T.1) (T.rp.fr f0 nB) B0
  have F1 := f0.tr f1
  obtain ⟨g2, f2, B2, e2⟩ := T_bec_i (z := z) (d := d) hpq H ni 0 g1 (by omega) (PSk_fr F1 hP) (PSk_fr F1 T.1) (T.rp.fr F1 nB) B1
  have F2 := F1.tr f2
  obtain ⟨g3, w, f3, B3, e3⟩ := T_bec_d (z := z) (d := d) hpq H nd 0 g2 (by omega) (PSk_fr F2 hP) (PSk_fr F2 T.1) (T.rp.fr F2 nB) B2
  have F3 := F2.tr f3
  have f4 : Fr (Pz p) g3 (zcpy g3 (q + 4) 0 (p + 4) 0 4) := Fr.cpy ⟨by omega, by omega⟩
  have F4 := F3.tr f4
  have R4 := T.rp.fr F4 nB
  rw [e1, e2, e3, S_Port_becomen_117 (PSk_fr F3 hP) (PSk_fr F3 T.1) (by omega), S_Port_becomen_135 (PSk_fr F4 hP) (PSk_fr F4 T.1), R4.salt, R4.spray, R4.time, R4.seed, R4.texts]
  generalize hG5 : zwI (zwI (zwI (zwI (zwI (zcpy g3 (q + 4) 0 (p + 4) 0 4) p 7 (P 7)) p 8 (P 8)) p 9 (P 6)) p 10 (P 10)) p 11 (P 0) = G5
  obtain ⟨R5, f5⟩ := T_bec_n hpq H (T.rp.fr F3 nB) B3 hG5
  have F5 := F3.tr (f5.mo (B := Pz p) (fun x y => ⟨by omega, by omega⟩))
  clear hG5 R4 F4 f4
  have zr : zR G5 q 12 = Lo := by
    rw [F5.rx (fun y => by obtain ⟨y1, y2⟩ := y; omega)]; exact hLo
  have P5 := PSk_fr F5 hP
  have Q5 := PSk_fr F5 T.1
  have BK5 := T.bk.fr F5 (fun x y => by obtain ⟨y1, y2⟩ := y; omega)
  obtain ⟨h', a1, a2, a3, a4⟩ := T_bec_l (z := z) (d := d) (w := w) (Lo := Lo) P5 Q5 hpq R5 BK5
  refine ⟨h', F5.tr a1, a2, a3, ?_⟩
  cases Lo with
  | none => rw [S_Port_becomen_175 P5 Q5 zr]; exact a4
  | some L => rw [S_Port_becomes_175 P5 Q5 zr]; exact a4
end
