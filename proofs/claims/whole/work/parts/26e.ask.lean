/-! ASK in both -/
section
variable {z : ZE} {d : Nat} {h h' g : Hp} {X R p J : Nat} {S S1 : PSt} {K : Option Img} {A : List PSt} {tl : Nat} {T : Row} {ft : Int32} {ls : List LN} {Lo : Option Nat} {P : Row} {np ni nd n : Nat} {u v w b x y : Int32}
theorem rdA_n {t F k : Nat} (ht : t < 1000) (hF : F < 1000) (hk : k < 1000) : rdA (nI t) (nI F) (nI k) = decide (F ≤ t ∧ (k = 0 ∨ t < F + k)) := by
  have a : (nI t < nI F) ↔ t < F := nI_ltI (by omega) (by omega)
  have c : (nI k = 0) ↔ k = 0 := nI_eq (b := 0) (by omega) (by decide)
  have e : (nI F + nI k ≤ nI t) ↔ F + k ≤ t := by rw [nI_add]; exact nI_leI (by omega) (by omega)
  unfold rdA
  rw [decide_eq_decide, a, c, e]
  omega
/-- readers so far, pair by pair -/
def pcN (P T : Row) (n q t : Nat) : Nat := cfS (ptB P T n (nI t)) q
theorem T_cr_t (hJ : JSk h J) {i F k w : Nat} (hF : F < 1000) (hk : k < 1000) {B : Nat → Nat} (hB : ∀ t, B t ≤ 200) : ∀ m x g, x + m = 61 → F ≤ x → Fr (fun y => y = J + 2) h g → (∀ t, t < 61 → zI g (J + 2) t = nI (B t + (if t < x ∧ rdA (nI t) (nI F) (nI k) = true then 1 else 0))) → ∃ g' w6, Fr (fun y => y = J + 2) h g' ∧ (∀ t, t < 61 → zI g' (J + 2) t = nI (B t + (if rdA (nI t) (nI F) (nI k) = true then 1 else 0))) ∧ ev z d 16 43 [.ref J, .ref p, .int (nI i), .int (nI k), .int (nI w), .int (nI F), .int (nI x)] [] g = ev z d 16 13 [.ref J, .ref p, .int (nI i), .int (nI k), .int (nI (w + 1)), .int (nI F), w6] [] g'
  | 0, x, g, hx, hFx, f, hb => by
    obtain rfl : x = 61 := by omega
    refine ⟨g, .int (nI 61), f, fun t ht => ?_, ?_⟩
    · rw [hb t ht]
      congr 2
      by_cases c : rdA (nI t) (nI F) (nI k) = true
      · rw [if_pos ⟨ht, c⟩, if_pos c]
      · rw [if_neg (fun q => c q.2), if_neg c]
    · rw [S_Jars_countReaders_43, if_pos (by decide), nI_add]
  | m + 1, x, g, hx, hFx, f, hb => by
    rw [S_Jars_countReaders_43, if_neg (nI_nlt (by omega) (by decide)), T_isReadAt]
    simp only [zbd_i, tl_s]
    rw [S_Jars_countReaders_58 (JSk_fr f hJ), chk0, nI_add, nI_add]
    by_cases c : rdA (nI x) (nI F) (nI k) = true
    · have bx := hB x
      have ex : zI g (J + 2) x = nI (B x) := by rw [hb x (by omega), if_neg (fun q => by have := q.1; omega), Nat.add_zero]
      rw [if_pos c, ix_n (by omega) (by decide), ix_n (by omega) (by decide), ex, nI_add]
      refine T_cr_t hJ hF hk hB m (x + 1) _ (by omega) (by omega) (f.a rfl) (fun t ht => ?_)
      by_cases e : t = x
      · subst e
        rw [zI_wa, if_pos ⟨by omega, c⟩]
      · rw [zI_wj e, hb t ht]
        congr 2
        by_cases c2 : t < x ∧ rdA (nI t) (nI F) (nI k) = true
        · rw [if_pos c2, if_pos ⟨by omega, c2.2⟩]
        · rw [if_neg c2, if_neg (fun q => c2 ⟨by omega, q.2⟩)]
    · rw [if_neg c]
      refine ⟨g, .int (nI x), f, fun t ht => ?_, rfl⟩
      rw [hb t ht]
      congr 2
      rw [rdA_n (by omega) hF hk] at c
      by_cases c2 : rdA (nI t) (nI F) (nI k) = true
      · rw [if_pos c2, if_pos]
        refine ⟨?_, c2⟩
        rw [rdA_n (by omega) hF hk] at c2
        simp only [decide_eq_true_eq] at c c2
        omega
      · rw [if_neg c2, if_neg (fun q => c2 q.2)]
theorem JR.fr {A : Nat → Prop} (H : JR h J T n) (f : Fr A h g) (h0 : ¬ A J) (h1 : ¬ A (J + 1)) : JR g J T n := ⟨JSk_fr f H.1, by rw [f.i h0]; exact H.2.1, H.2.2.1, fun k hk => by rw [f.i h1]; exact H.2.2.2 k hk⟩
theorem ptB_c {i w t : Nat} (hw : w < 21) : ptB P T n (nI t) (21 * i + w) = (ftP P T n i w && rdA (nI t) (nI (upS P i w)) (P (27 + 3 * i + 1))) := by
  unfold ptB fqS
  rw [show (21 * i + w) / 21 = i by omega, show (21 * i + w) % 21 = w by omega]
theorem T_cr (hJ : JR h J T n) (hP : PSk h p) (H : PRp h p P np ni nd) (hO : OkI P ni) (hp : p + 28 ≤ J) {i : Nat} (hi : i < ni) : ∀ m w g w5 w6, w + m = 21 → Fr (fun y => y = J + 2) h g → (∀ t, t < 61 → zI g (J + 2) t = nI (pcN P T n (21 * i + w) t)) → ∃ g', Fr (fun y => y = J + 2) h g' ∧ (∀ t, t < 61 → zI g' (J + 2) t = nI (pcN P T n (21 * i + 21) t)) ∧ ev z d 16 13 [.ref J, .ref p, .int (nI i), .int (P (27 + 3 * i + 1)), .int (nI w), w5, w6] [] g = some (.inl none, g')
  | 0, w, g, w5, w6, hw, f, hb => by
    obtain rfl : w = 21 := by omega
    exact ⟨g, f, hb, by rw [S_Jars_countReaders_13 (PSk_fr f hP), if_pos (by decide)]⟩
  | m + 1, w, g, w5, w6, hw, f, hb => by
    have h6 := H.li
    have Pg : PSk g p := PSk_fr f hP
    have Hg : PRp g p P np ni nd := H.fr f (fun x q => by have q' : x = J + 2 := q; omega)
    have Jg : JR g J T n := hJ.fr f (by omega) (by omega)
    have kp := hO.keeps hi
    have up := upF_le (A := cN (P (27 + 3 * i + 0))) (g := skN P i) 99 0 w
    have up2 : upS P i w ≤ w + 99 := up
    rw [S_Jars_countReaders_13 Pg, if_neg (nI_nlt (by omega) (by decide)), T_Port_showsAt Pg Hg hO hi (by omega)]
    simp only [zbd_i, tl_s]
    rw [S_Jars_countReaders_27 Jg.1, T_fits Jg]
    simp only [zbd_i, tl_s]
    rw [S_Jars_countReaders_36, chk0, nI_add]
    have pu : ∀ t, pcN P T n (21 * i + (w + 1)) t = pcN P T n (21 * i + w) t + (if ptB P T n (nI t) (21 * i + w) = true then 1 else 0) := fun t => rfl
    by_cases c : ftP P T n i w = true
    · rw [if_pos (show fitS T (nI (upS P i w)) (P (27 + 3 * i + 1)) n 0 = true from c), kp.1]
      have bl : ∀ t, pcN P T n (21 * i + w) t ≤ 200 := fun t => by
        have := cfS_le (f := ptB P T n (nI t)) (21 * i + w)
        unfold pcN
        omega
      by_cases cF : upS P i w ≤ 61
      · obtain ⟨g1, w6', f1, b1, e1⟩ := T_cr_t (z := z) (d := d) (p := p) (i := i) (w := w) Jg.1 (show upS P i w < 1000 by omega) (show cN (P (27 + 3 * i + 1)) < 1000 by omega) bl (61 - upS P i w) (upS P i w) g (by omega) (Nat.le_refl _) Fr.rf (fun t ht => by
          rw [hb t ht]
          congr 1
          rw [if_neg, Nat.add_zero]
          rintro ⟨q1, q2⟩
          rw [rdA_n (by omega) (by omega) (by omega)] at q2
          simp only [decide_eq_true_eq] at q2
          omega)
        rw [e1, ← kp.1]
        refine T_cr hJ hP H hO hp hi m (w + 1) g1 _ w6' (by omega) (f.tr f1) (fun t ht => ?_)
        rw [b1 t ht, pu t, ptB_c (by omega), c, Bool.true_and, ← kp.1]
      · rw [S_Jars_countReaders_43, if_pos (nI_lt (by omega) (by omega)), nI_add, ← kp.1]
        refine T_cr hJ hP H hO hp hi m (w + 1) g _ _ (by omega) f (fun t ht => ?_)
        rw [hb t ht, pu t, ptB_c (by omega), c, Bool.true_and, if_neg, Nat.add_zero]
        rw [kp.1, rdA_n (by omega) (by omega) (by omega)]
        simp only [decide_eq_true_eq]
        omega
    · rw [if_neg (show ¬ fitS T (nI (upS P i w)) (P (27 + 3 * i + 1)) n 0 = true from c)]
      refine T_cr hJ hP H hO hp hi m (w + 1) g _ _ (by omega) f (fun t ht => ?_)
      have cf : ftP P T n i w = false := by simpa using c
      rw [hb t ht, pu t, ptB_c (by omega), cf, Bool.false_and, if_neg (by decide), Nat.add_zero]
theorem T_bt_i (hJ : JR h J T n) (hP : PSk h p) (H : PRp h p P np ni nd) (hO : OkI P ni) (hp : p + 28 ≤ J) {c : Nat} : ∀ m i g w4 w5 w6, i + m = ni → Fr (fun y => y = J + 2) h g → (∀ t, t < 61 → zI g (J + 2) t = nI (pcN P T n (21 * i) t)) → ∃ g', Fr (fun y => y = J + 2) h g' ∧ (∀ t, t < 61 → zI g' (J + 2) t = nI (ptN P T n ni t)) ∧ ev z d 17 23 [.ref J, .ref p, .int (nI c), .int (nI i), w4, w5, w6] [] g = ev z d 17 53 [.ref J, .ref p, .int (nI c), .int (nI 0), .int (nI (c + 1)), .int (nI 0), w6] [] g'
  | 0, i, g, w4, w5, w6, hi, f, hb => by
    have h6 := H.li
    obtain rfl : i = ni := by omega
    have Hg : PRp g p P np i nd := H.fr f (fun x q => by have q' : x = J + 2 := q; omega)
    refine ⟨g, f, hb, ?_⟩
    rw [S_Jars_bestTime_23 (JSk_fr f hJ.1) (PSk_fr f hP), Hg.ci, if_pos (nI_le (Nat.le_refl _) (by omega)), nI_add]
  | m + 1, i, g, w4, w5, w6, hi, f, hb => by
    have h6 := H.li
    have Hg : PRp g p P np ni nd := H.fr f (fun x q => by have q' : x = J + 2 := q; omega)
    have Pg := PSk_fr f hP
    have Jg : JR g J T n := hJ.fr f (by omega) (by omega)
    obtain ⟨g1, f1, b1, e1⟩ := T_cr (z := z) (d := d) Jg Pg Hg hO hp (show i < ni by omega) 21 0 g zu zu (by omega) Fr.rf hb
    obtain ⟨g', f', b', e'⟩ := T_bt_i hJ hP H hO hp (c := c) m (i + 1) g1 w4 w5 w6 (by omega) (f.tr f1) (fun t ht => by rw [b1 t ht, show 21 * (i + 1) = 21 * i + 21 by omega])
    refine ⟨g', f', b', ?_⟩
    rw [S_Jars_bestTime_23 Jg.1 Pg, Hg.ci, if_neg (nI_ge (by omega) (by omega)), S_Jars_countReaders_0 Pg, ix_n (by omega) (by decide), Hg.ink (by omega) (by decide), e1]
    simp only [zbd_i, tl_n, S_Jars_bestTime_37, nI_add]
    exact e'
theorem bsS_u {t : Nat} : bsS P T n ni (t + 1) = if nI (gtN P T n ni t) < (bsS P T n ni t).2 then (nI t, nI (gtN P T n ni t)) else bsS P T n ni t := rfl
theorem ptN_le {t : Nat} : ptN P T n ni t ≤ cfS (fqS P T n) (21 * ni) := by
  unfold ptN
  have : ∀ k, cfS (ptB P T n (nI t)) k ≤ cfS (fqS P T n) k := by
    intro k
    induction k with
    | zero => exact Nat.le_refl _
    | succ k ih =>
      show cfS (ptB P T n (nI t)) k + (if ptB P T n (nI t) k = true then 1 else 0) ≤ cfS (fqS P T n) k + (if fqS P T n k = true then 1 else 0)
      by_cases c : ptB P T n (nI t) k = true
      · have c2 : fqS P T n k = true := by
          unfold ptB at c
          rw [Bool.and_eq_true] at c
          exact c.1
        rw [if_pos c, if_pos c2]
        omega
      · rw [if_neg c]
        omega
  exact this _
theorem T_bestTime (hJ : JR h J T n) (hP : PSk h p) (H : PRp h p P np ni nd) (hO : OkI P ni) (hp : p + 28 ≤ J) : ∃ g', Fr (fun y => y = J + 2) h g' ∧ ev z d 17 0 [.ref J, .ref p, zu, zu, zu, zu, zu] [] h = some (.inl (some (.int (if cfS (fqS P T n) (21 * ni) ≤ 1 then -1 else (bsS P T n ni 61).1))), g') := by
  have h6 := H.li
  have cl := cfS_le (f := fqS P T n) (21 * ni)
  rw [S_Jars_bestTime_0 hJ.1, T_fittingPairs hJ hP H hO]
  simp only [zbd_i, tl_s]
  rw [S_Jars_bestTime_5 hJ.1]
  by_cases c : cfS (fqS P T n) (21 * ni) ≤ 1
  · rw [if_neg (nI_ge (by omega) (by omega)), if_pos c]
    exact ⟨h, Fr.rf, rfl⟩
  · rw [if_pos (nI_le (by omega) (by omega)), if_neg c]
    obtain ⟨g1, f1, b1, e1⟩ := T_Arr_fill (z := z) (d := d) (v := nI 0) (h := h) (t := J + 2) (N := 61) (by decide) (JSk_a2k hJ.1) (JSk_a2n hJ.1)
    have Hg : PRp g1 p P np ni nd := H.fr f1 (fun x q => by have q' : x = J + 2 := q; omega)
    have Pg := PSk_fr f1 hP
    have Jg : JR g1 J T n := hJ.fr f1 (by omega) (by omega)
    obtain ⟨g', f', b', e'⟩ := T_bt_i (z := z) (d := d) (c := cfS (fqS P T n) (21 * ni)) Jg Pg Hg hO hp ni 0 g1 zu zu zu (by omega) Fr.rf (fun t ht => b1 t ht)
    refine ⟨g', f1.tr f', ?_⟩
    rw [e1]
    simp only [zbd_i, tl_n, S_Jars_bestTime_21]
    rw [e']
    have J2 : JSk g' J := JSk_fr (f1.tr f') hJ.1
    generalize hc : cfS (fqS P T n) (21 * ni) = C at *
    have gle : ∀ t, gtN P T n ni t ≤ C := fun t => by
      have := ptN_le (P := P) (T := T) (n := n) (ni := ni) (t := t)
      unfold gtN
      rw [hc] at this ⊢
      omega
    have gx : ∀ t, (if nI (ptN P T n ni t) < nI C - nI (ptN P T n ni t) then nI C - nI (ptN P T n ni t) else nI (ptN P T n ni t)) = nI (gtN P T n ni t) := by
      intro t
      have := ptN_le (P := P) (T := T) (n := n) (ni := ni) (t := t)
      unfold gtN
      rw [hc] at this ⊢
      rw [pk_sub this]
      by_cases c3 : ptN P T n ni t < C - ptN P T n ni t
      · rw [if_pos (nI_lt c3 (by omega)), Nat.max_eq_right (by omega)]
      · rw [if_neg (nI_nlt (by omega) (by omega)), Nat.max_eq_left (by omega)]
    have st : ∀ {b1 b2 : Int32} {w6 : Value} {t : Nat}, t < 61 → ev z d 17 53 [.ref J, .ref p, .int (nI C), .int b1, .int b2, .int (nI t), w6] [] g' = ev z d 17 53 [.ref J, .ref p, .int (nI C), .int (if nI (gtN P T n ni t) < b2 then nI t else b1), .int (if nI (gtN P T n ni t) < b2 then nI (gtN P T n ni t) else b2), .int (nI (t + 1)), .int (nI (gtN P T n ni t))] [] g' := by
      intro b1 b2 w6 t ht
      rw [S_Jars_bestTime_53 J2, if_neg (nI_nlt (by omega) (by decide)), ix_n ht (by decide), ix_n ht (by decide), b' t ht, gx t, nI_add]
      by_cases c3 : nI (gtN P T n ni t) < b2
      · rw [if_neg (Int32.not_le.mpr c3), if_pos c3, if_pos c3]
      · rw [if_pos (Int32.not_lt.mp c3), if_neg c3, if_neg c3]
    have s1 : bsS P T n ni 1 = (nI 0, nI (gtN P T n ni 0)) := by
      rw [show (1 : Nat) = 0 + 1 from rfl, bsS_u]
      exact if_pos (nI_lt (by have := gle 0; omega) (by decide))
    rw [st (by decide), if_pos (nI_lt (by have := gle 0; omega) (by omega)), if_pos (nI_lt (by have := gle 0; omega) (by omega))]
    have fin := lpw (E := fun t (x : Value) => ev z d 17 53 [.ref J, .ref p, .int (nI C), .int (bsS P T n ni (t + 1)).1, .int (bsS P T n ni (t + 1)).2, .int (nI (t + 1)), x] [] g') (r := some (.inl (some (.int (bsS P T n ni 61).1)), g')) 60 (fun t x ht => ⟨.int (nI (gtN P T n ni (t + 1))), by
      rw [st (by omega), bsS_u (t := t + 1)]
      by_cases c3 : nI (gtN P T n ni (t + 1)) < (bsS P T n ni (t + 1)).2
      · rw [if_pos c3, if_pos c3, if_pos c3]
      · rw [if_neg c3, if_neg c3, if_neg c3]⟩) (fun x => by rw [S_Jars_bestTime_53 J2, if_pos (by decide)]) (.int (nI (gtN P T n ni 0)))
    rw [s1] at fin
    exact fin
theorem C_ask (t : Tp h) (H : CI z h X S ls Lo K A tl T ft) (ok : Ok S) : CA z d h X Lo 129 [.ref X] [0] (if gdS T tl = true then 0 else 1) (asV S.1 T tl S.2.2.1) ((S, ls, Lo), K, A, 0, T, ft) := by
  obtain ⟨g', H1, f', J', e'⟩ := C_readSheets (z := z) (d := d) H
  by_cases c : gdS T tl = true
  · rw [if_pos c]
    rw [if_pos c] at e'
    obtain ⟨g2, f2, e2⟩ := T_bestTime (z := z) (d := d) (J' c) H1.sk H1.rp ok.2.2.2.2.1 (by omega)
    have fd : Fr (Dz X Lo) g' g2 := f2.mo (fun x q => Or.inr (Or.inl (by omega)))
    refine CA.fx (f'.tr (f2.mo (fun x q => by omega))) (H1.dz fd) ?_
    unfold asV
    rw [S_LI_ask_0 H.1.1, e']
    simp only [zbd_i, tl_n]
    rw [S_LI_ask_4 H1.1.1, e2]
    simp only [zbd_i, tl_s, S_LI_ask_15]
  · rw [if_neg c]
    rw [if_neg c] at e'
    refine CA.tk t f' H1 rfl ?_
    rw [S_LI_ask_0 H.1.1, e']
    simp only [zbd_e]
    exact evx_nil rfl
theorem R_ask_q (hR : RSk h R) (hi1 : zI h (R + 1) = P) (h4 : P 4 = nI ni) (h6 : ni ≤ 6) (pm : PM h R P T n (21 * ni)) {c t : Nat} {x y : Int32} : ∀ m q, q + m = 21 * ni → ev z d 269 55 [.ref R, .int (nI c), .int x, .int y, .int (nI t), .int (nI (cfS (ptB P T n (nI t)) q)), .int (nI q)] [] h = zbd (ev z d 176 0 [.int (nI (ptN P T n ni t)), .int (nI c - nI (ptN P T n ni t))] [] h) (fun v h' => ev z d 269 115 [.ref R, .int (nI c), .int x, .int y, .int (nI t), .int (nI (ptN P T n ni t)), .int (nI (21 * ni))] (v.toList ++ []) h') (fun e h' => evx z d 269 112 [.ref R, .int (nI c), .int x, .int y, .int (nI t), .int (nI (ptN P T n ni t)), .int (nI (21 * ni))] e h')
  | 0, q, hq => by
    obtain rfl : q = 21 * ni := by omega
    rw [S_M_ask_55 hR, hi1, h4, pk_mul, if_pos (nI_le (Nat.le_refl _) (by omega))]
    rfl
  | m + 1, q, hq => by
    obtain ⟨p7, p8⟩ := pm q (by omega)
    have u : cfS (ptB P T n (nI t)) (q + 1) = cfS (ptB P T n (nI t)) q + (if ptB P T n (nI t) q = true then 1 else 0) := rfl
    rw [S_M_ask_55 hR, hi1, h4, pk_mul, if_neg (nI_ge (by omega) (by omega)), ix_n (by omega) (by decide), p7, chk0, T_M_isRead hR hi1 (by omega), p8, nI_add, nI_add]
    simp only [zbd_i, tl_s]
    rw [S_M_ask_89, chk0, nI_add, nI_add, nI_add, ← R_ask_q hR hi1 h4 h6 pm m (q + 1) (by omega), u]
    by_cases c1 : fqS P T n q = true
    · rw [if_pos c1]
      by_cases c2 : rdA (nI t) (nI (upS P (q / 21) (q % 21))) (P (27 + 3 * (q / 21) + 1)) = true
      · have : ptB P T n (nI t) q = true := by unfold ptB; rw [c1, c2]; rfl
        rw [if_pos c2, if_pos this]
      · have : ¬ ptB P T n (nI t) q = true := by unfold ptB; rw [c1, Bool.true_and]; exact c2
        rw [if_neg c2, if_neg this]
    · have : ¬ ptB P T n (nI t) q = true := by
        unfold ptB
        rw [Bool.and_eq_true]
        exact fun q => c1 q.1
      rw [if_neg c1, if_neg this]
theorem R_ask (H : RI h R S K A tl T ft) (ok : Ok S) : RB z d h R 269 [.ref R, zu, zu, zu, zu, zu, zu] (if gdS T tl = true then 0 else 1) (asV S.1 T tl S.2.2.1) ((S, ls, Lo), K, A, 0, T, ft) := by
  have h6 := ok.1.2.2.2.2.1
  obtain ⟨g, G, f, z0, pm, e⟩ := R_heard (z := z) (d := d) H ok
  have cl := cfS_le (f := fqS S.1 T (tl / 2)) (21 * S.2.2.1)
  by_cases c : gdS T tl = true
  · rw [if_pos c]
    rw [if_pos c] at e
    have G2 := G.w0 (v := nI 0)
    have pm2 : PM (zwI g R 0 (nI 0)) R S.1 T (tl / 2) (21 * S.2.2.1) := fun q hq => by
      have := pm c q hq
      rwa [show zI (zwI g R 0 (nI 0)) (R + 7) q = zI g (R + 7) q from zI_wb (by omega), show zI (zwI g R 0 (nI 0)) (R + 8) q = zI g (R + 8) q from zI_wb (by omega)]
    refine RB.s (h' := zwI g R 0 (nI 0)) ?_ (f.tr FZ0) zI_wa G2
    unfold asV
    rw [S_M_ask_0 H.1.1, e]
    simp only [zbd_i, tl_s]
    rw [S_M_ask_4 G.1.1, if_neg (nI_ne1 (by omega)), if_pos (by decide)]
    generalize zwI g R 0 (nI 0) = g2 at *
    by_cases c1 : cfS (fqS S.1 T (tl / 2)) (21 * S.2.2.1) ≤ 1
    · rw [if_pos c1, S_M_ask_37, if_neg (by decide), if_pos (nI_le c1 (by decide))]
    · rw [if_neg c1]
      generalize hc : cfS (fqS S.1 T (tl / 2)) (21 * S.2.2.1) = C at *
      refine lpw (E := fun t (x : Value × Value) => ev z d 269 37 [.ref R, .int (nI C), .int (bsS S.1 T (tl / 2) S.2.2.1 t).1, .int (bsS S.1 T (tl / 2) S.2.2.1 t).2, .int (nI t), x.1, x.2] [] g2) 61 ?_ ?_ (zu, zu)
      · intro t x ht
        refine ⟨(.int (nI (ptN S.1 T (tl / 2) S.2.2.1 t)), .int (nI (21 * S.2.2.1))), ?_⟩
        have ple := ptN_le (P := S.1) (T := T) (n := tl / 2) (ni := S.2.2.1) (t := t)
        rw [hc] at ple
        have gx : (if nI C - nI (ptN S.1 T (tl / 2) S.2.2.1 t) < nI (ptN S.1 T (tl / 2) S.2.2.1 t) then nI (ptN S.1 T (tl / 2) S.2.2.1 t) else nI C - nI (ptN S.1 T (tl / 2) S.2.2.1 t)) = nI (gtN S.1 T (tl / 2) S.2.2.1 t) := by
          unfold gtN
          rw [hc, pk_sub ple]
          by_cases c3 : C - ptN S.1 T (tl / 2) S.2.2.1 t < ptN S.1 T (tl / 2) S.2.2.1 t
          · rw [if_pos (nI_lt c3 (by omega)), Nat.max_eq_left (by omega)]
          · rw [if_neg (nI_nlt (by omega) (by omega)), Nat.max_eq_right (by omega)]
        rw [S_M_ask_37, if_neg (nI_nlt (by omega) (by decide)), if_neg (nI_ge (by omega) (by omega))]
        refine (R_ask_q G2.1.1 G2.i ok.1.2.1 h6 pm2 (21 * S.2.2.1) 0 (by omega)).trans ?_
        rw [T_M_greater, gx]
        simp only [zbd_i, tl_s]
        rw [S_M_ask_115, T_M_greater, gx, bsS_u]
        simp only [zbd_i, tl_s]
        rw [S_M_ask_131 rfl, nI_add]
        by_cases c3 : nI (gtN S.1 T (tl / 2) S.2.2.1 t) < (bsS S.1 T (tl / 2) S.2.2.1 t).2
        · rw [if_pos c3, if_pos c3]
        · rw [if_neg c3, if_neg c3]
      · intro x
        rw [S_M_ask_37, if_pos (by decide)]
  · rw [if_neg c]
    rw [if_neg c] at e
    refine RB.t2 (h' := zwI g R 0 (nI 1)) (w := nI 0) (by decide) ?_ (f.tr FZ0) zI_wa G.w0
    rw [S_M_ask_0 H.1.1, e]
    simp only [zbd_i, tl_s]
    rw [S_M_ask_4 G.1.1, if_pos rfl, if_neg (by decide)]
end
