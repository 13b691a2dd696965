/-! LATE, EARLY, DEED in both -/
def ltS (wh : Nat → Int32) : Nat → Int32 × Int32
  | 0 => (-1, -1)
  | k + 1 => if (ltS wh k).2 < wh k then (nI k, wh k) else ltS wh k
def prS (P : Row) (i : Nat) (n : Int32) : Int32 := if P (45 + 12 * i + 10) = 0 then (if n = -1 then nI 0 else if P (45 + 12 * i + 3) - n < nI 0 then nI 0 else P (45 + 12 * i + 3) - n) else nI 0
section
variable {z : ZE} {d : Nat} {h h' g : Hp} {X R p : Nat} {S S1 : PSt} {K : Option Img} {A : List PSt} {tl : Nat} {T : Row} {ft : Int32} {ls : List LN} {Lo : Option Nat} {P : Row} {np ni nd m k : Nat} {as : List Value} {es : List Nat} {sp u v w b : Int32}
theorem ltS_u {wh : Nat → Int32} : ltS wh (k + 1) = if (ltS wh k).2 < wh k then (nI k, wh k) else ltS wh k := rfl
theorem C_late (H : CI z h X S ls Lo K A tl T ft) (ok : OkA S ls K A) : CA z d h X Lo 125 [.ref X, zu, zu, zu] [] 0 (ltS (whS ls S.2.2.2 (nI 0) S.1) S.2.2.2).1 ((S, ls, Lo), K, A, tl, T, ft) := by
  have h8 := ok.1.1.1.2.2.2.2.2
  obtain ⟨h', f', w', e'⟩ := C_fillWhens (z := z) (d := d) H ok (Or.inl rfl)
  have H1 := H.dz f'
  refine CA.dz H f' ?_
  rw [S_LI_late_0 H.1.1, e']
  simp only [zbd_i, tl_n, S_LI_late_5]
  generalize hw : whS ls S.2.2.2 (nI 0) S.1 = wh at *
  refine (lp (E := fun k => ev z d 125 11 [.ref X, .int (ltS wh k).1, .int (ltS wh k).2, .int (nI k)] [] h') S.2.2.2 ?_).trans ?_
  · intro k hk
    rw [S_LI_late_11 H1.1.1, H1.rp.cd, if_neg (nI_ge hk (by omega)), ix_n (by omega) (by decide), ix_n (by omega) (by decide), w' k hk, nI_add, ltS_u]
    by_cases c : wh k ≤ (ltS wh k).2
    · rw [if_pos c, if_neg (Int32.not_lt.mpr c)]
    · rw [if_neg c, if_pos (Int32.not_le.mp c)]
  · rw [S_LI_late_11 H1.1.1, H1.rp.cd, if_pos (nI_le (Nat.le_refl _) (by omega))]
theorem R_late_l (hR : RSk h R) (hW : WA z h) (hi1 : zI h (R + 1) = P) (ok : Ok (P, np, ni, nd)) (hL : OkL P ls) (h19 : zI h R 19 = nI 0) : ∀ n k g w4, k + n = nd → Rq R h g → ∃ g', Rq R h g' ∧ ev z (d + 7) 261 11 [.ref R, .int (ltS (whS ls nd (nI 0) P) k).1, .int (ltS (whS ls nd (nI 0) P) k).2, .int (nI k), w4] [] g = some (.inl (some (.int (ltS (whS ls nd (nI 0) P) nd).1)), g')
  | 0, k, g, w4, hk, q => by
    have h8 : nd ≤ 8 := ok.1.2.2.2.2.2
    obtain rfl : k = nd := by omega
    have Rg : RSk g R := RSk_fr q.fz hR
    have i1 : zI g (R + 1) = P := q.1.2.2.1.trans hi1
    refine ⟨g, q, ?_⟩
    rw [S_M_late_11 Rg, i1, show P 5 = nI k from ok.1.2.2.1, if_pos (nI_le (Nat.le_refl _) (by omega))]
  | n + 1, k, g, w4, hk, q => by
    have h8 : nd ≤ 8 := ok.1.2.2.2.2.2
    have Rg : RSk g R := RSk_fr q.fz hR
    have i1 : zI g (R + 1) = P := q.1.2.2.1.trans hi1
    obtain ⟨g1, e1, f1⟩ := T_M_whenOf (z := z) (d := d) (ls := ls) (np := np) (ni := ni) (nd := nd) Rg (hW.rz hR q.fz) i1 ok hL (Or.inl rfl) ((q.1.2.1 19 (by omega)).trans h19) (show k < 8 by omega)
    obtain ⟨g', f', e'⟩ := R_late_l hR hW hi1 ok hL h19 n (k + 1) g1 (.int (whS ls nd (nI 0) P k)) (by omega) (q.tr f1)
    refine ⟨g', f', ?_⟩
    rw [S_M_late_11 Rg, i1, show P 5 = nI nd from ok.1.2.2.1, if_neg (nI_ge (by omega) (by omega)), e1]
    simp only [zbd_i, tl_s, S_M_late_26, nI_add]
    rw [← e', ltS_u]
    by_cases c : (ltS (whS ls nd (nI 0) P) k).2 < whS ls nd (nI 0) P k
    · rw [if_pos c, if_pos c]
    · rw [if_neg c, if_neg c]
theorem R_late (W : WA z h) (H : RI h R S K A tl T ft) (ok : OkA S ls K A) : RB z (d + 7) h R 261 [.ref R, zu, zu, zu, zu] 0 (ltS (whS ls S.2.2.2 (nI 0) S.1) S.2.2.2).1 ((S, ls, Lo), K, A, tl, T, ft) := by
  have G := H.w0 (v := nI 0)
  obtain ⟨g', f', e'⟩ := R_late_l (z := z) (d := d) (P := S.1) (np := S.2.1) (ni := S.2.2.1) (nd := S.2.2.2) G.1.1 (W.rz H.1.1 FZ0) G.i ok.1.1 ok.1.2.1 G.1.2.2 S.2.2.2 0 (zwI h R 0 (nI 0)) zu (by omega) Rq.rf
  refine RB.q H f' ?_
  rw [S_M_late_0 H.1.1]
  exact e'
/-! EARLY -/
def eaV (ls : List LN) (nd : Nat) (P : Row) (v : Int32) : Int32 := if P (45 + 12 * cN v + 10) = 0 then (if whS ls nd (nI 0) P (cN v) = -1 then nI 0 else if whS ls nd (nI 1) P (cN v) = -1 then nI 0 else whS ls nd (nI 0) P (cN v) - whS ls nd (nI 1) P (cN v)) else nI 0
theorem C_early (t : Tp h) (H : CI z h X S ls Lo K A tl T ft) (ok : OkA S ls K A) : CA z d h X Lo 140 [.ref X, .int v, zu, zu] [2] (if inR v S.2.2.2 then 0 else 1) (eaV ls S.2.2.2 S.1 v) ((S, ls, Lo), K, A, tl, T, ft) := by
  have h8 := ok.1.1.1.2.2.2.2.2
  by_cases c : inR v S.2.2.2
  · rw [if_pos c]
    obtain ⟨i, hi, rfl⟩ := (inR_iff (by omega)).mp c
    have st : ev z d 140 0 [.ref X, .int (nI i), zu, zu] [] h = ev z d 140 5 [.ref X, .int (nI i), zu, zu] [] h := by
      rw [S_LI_early_0 H.1.1, C_needDeed H, if_pos c]
      simp only [zbd_i, tl_n]
    rw [S_LI_early_5 H.1.1, ix_n (by omega) (by decide), H.rp.deed hi (by decide)] at st
    unfold eaV
    rw [cN_nI (by omega)]
    by_cases c2 : S.1 (45 + 12 * i + 10) = 0
    · rw [if_pos c2]
      rw [if_pos c2] at st
      obtain ⟨h1, f1, w1, e1⟩ := C_fillWhens (z := z) (d := d) H ok (Or.inl rfl)
      have H1 := H.dz f1
      obtain ⟨h2, f2, w2, e2⟩ := C_fillWhens (z := z) (d := d) H1 ok (Or.inr rfl)
      have H2 := H1.dz f2
      refine CA.dz H (f1.tr f2) ?_
      rw [st, e1]
      simp only [zbd_i, tl_n]
      rw [S_LI_early_27 H1.1.1, ix_n (by omega) (by decide), w1 i hi, e2]
      simp only [zbd_i, tl_n]
      rw [S_LI_early_39 H2.1.1, ix_n (by omega) (by decide), w2 i hi]
      split
      · rfl
      · split <;> rfl
    · rw [if_neg c2]
      rw [if_neg c2] at st
      exact CA.rf H st
  · rw [if_neg c]
    refine CA.x t H rfl ?_
    rw [S_LI_early_0 H.1.1, C_needDeed H, if_neg c]
    simp only [zbd_e]
    exact evx_nil rfl
/-- the field of spray written and back -/
theorem Rq.s19 {v : Int32} (f : Rq R (zwI h R 19 v) h') : Rq R h (zwI h' R 19 (zI h R 19)) := by
  obtain ⟨⟨f1, f2, f3, f4, f5, f6⟩, f7⟩ := f
  refine ⟨⟨((Fr.w (A := Rz R) ⟨by omega, by omega⟩).tr f1).a ⟨by omega, by omega⟩, fun y hy => ?_, ?_, ?_, ?_, ?_⟩, ?_⟩
  · by_cases c : y = 19
    · rw [c, zI_wa]
    · rw [zI_wj c, f2 y (by omega), zI_wj c]
  · exact (funext fun j => zI_wb (by omega)).trans (f3.trans (funext fun j => zI_wb (by omega)))
  · exact (funext fun j => zI_wb (by omega)).trans (f4.trans (funext fun j => zI_wb (by omega)))
  · exact (funext fun j => zI_wb (by omega)).trans (f5.trans (funext fun j => zI_wb (by omega)))
  · exact (funext fun j => zI_wb (by omega)).trans (f6.trans (funext fun j => zI_wb (by omega)))
  · rw [zI_wj (by decide), f7, zI_wj (by decide)]
theorem chk6 {c : Prop} [Decidable c] {A B C D : Option (zO × Hp)} : (if bI c = 0 then (if 0 < nI 1 then C else A) else (if 0 < nI 0 then D else B)) = if c then B else C := by
  by_cases hc : c
  · rw [if_neg (by rw [bI_0]; exact fun q => q hc), if_neg (by decide), if_pos hc]
  · rw [if_pos (by rw [bI_0]; exact hc), if_pos (by decide), if_neg hc]
theorem R_early (W : WA z h) (H : RI h R S K A tl T ft) (ok : OkA S ls K A) : RB z (d + 7) h R 287 [.ref R, .int v, zu, zu] (if inR v S.2.2.2 then 0 else 1) (eaV ls S.2.2.2 S.1 v) ((S, ls, Lo), K, A, tl, T, ft) := by
  have h8 := ok.1.1.1.2.2.2.2.2
  by_cases c : inR v S.2.2.2
  · rw [if_pos c]
    obtain ⟨i, hi, rfl⟩ := (inR_iff (by omega)).mp c
    have G := H.w0 (v := nI 0)
    have W1 : WA z (zwI h R 0 (nI 0)) := W.rz H.1.1 FZ0
    have st : ev z (d + 7) 287 0 [.ref R, .int (nI i), zu, zu] [] h = ev z (d + 7) 287 31 [.ref R, .int (nI i), zu, zu] [.int (S.1 (45 + 12 * i + 10))] (zwI h R 0 (nI 0)) := by
      rw [S_M_early_0 H.1.1, R_isDeed H ok.1.1]
      simp only [zbd_i, tl_s]
      rw [S_M_early_6 H.1.1, chk6, if_pos c, T_M_of G.1.1 (by omega), G.i]
      simp only [zbd_i, tl_s]
    rw [S_M_early_31 G.1.1] at st
    unfold eaV
    rw [cN_nI (by omega)]
    by_cases c2 : S.1 (45 + 12 * i + 10) = 0
    · rw [if_pos c2]
      rw [if_pos c2] at st
      obtain ⟨g1, e1, f1⟩ := T_M_whenOf (z := z) (d := d) (ls := ls) (P := S.1) (np := S.2.1) (ni := S.2.2.1) (nd := S.2.2.2) G.1.1 W1 G.i ok.1.1 ok.1.2.1 (Or.inl rfl) G.1.2.2 (show i < 8 by omega)
      have G1 := G.q f1
      have s1 : RSk (zwI g1 R 19 (nI 1)) R := RSk_w G1.1.1
      have W2 : WA z (zwI g1 R 19 (nI 1)) := (W1.rz G.1.1 f1.fz).rz G1.1.1 (Fr.w ⟨by omega, by omega⟩)
      have i2 : zI (zwI g1 R 19 (nI 1)) (R + 1) = S.1 := (funext fun j => zI_wb (by omega)).trans G1.i
      obtain ⟨g2, e2, f2⟩ := T_M_whenOf (z := z) (d := d) (ls := ls) (P := S.1) (np := S.2.1) (ni := S.2.2.1) (nd := S.2.2.2) s1 W2 i2 ok.1.1 ok.1.2.1 (Or.inr rfl) zI_wa (show i < 8 by omega)
      have f3 := f2.s19
      rw [G1.1.2.2] at f3
      have s2 : RSk g2 R := RSk_fr f2.fz s1
      refine RB.q H (f1.tr f3) ?_
      rw [st, e1]
      simp only [zbd_i, tl_s]
      rw [S_M_early_41 G1.1.1, e2]
      simp only [zbd_i, tl_s]
      rw [S_M_early_52 s2]
      split
      · rfl
      · split <;> rfl
    · rw [if_neg c2]
      rw [if_neg c2] at st
      exact RB.g H st
  · rw [if_neg c]
    refine RB.t H (by decide) (w := nI 0) ?_
    rw [S_M_early_0 H.1.1, R_isDeed H ok.1.1]
    simp only [zbd_i, tl_s]
    rw [S_M_early_6 H.1.1, chk6, if_neg c]
/-! DEED -/
theorem T_Port_priceOf (hP : PSk h p) (H : PRp h p P np ni nd) {i : Nat} (hi : i < nd) : ev z d 80 0 [.ref p, .int (nI i), .int v, zu] [] h = some (.inl (some (.int (prS P i v))), h) := by
  have h8 := H.ld
  rw [S_Port_priceOf_0 hP, ix_n (by omega) (by decide), H.deed hi (by decide), H.deed hi (by decide)]
  unfold prS
  split
  · split <;> rfl
  · rfl
theorem T_M_priceOf (hR : RSk h R) (hW : WA z h) (hi1 : zI h (R + 1) = P) (ok : Ok (P, np, ni, nd)) (hL : OkL P ls) (h19 : zI h R 19 = nI 0) {i : Nat} (hi : i < nd) : ∃ h', ev z (d + 7) 280 0 [.ref R, .int (nI i), zu] [] h = some (.inl (some (.int (prS P i (whS ls nd (nI 0) P i)))), h') ∧ Rq R h h' := by
  have h8 : nd ≤ 8 := ok.1.2.2.2.2.2
  rw [S_M_priceOf_0 hR, T_M_of hR (by omega), hi1]
  simp only [zbd_i, tl_s]
  rw [S_M_priceOf_7 hR]
  unfold prS
  by_cases c : P (45 + 12 * i + 10) = 0
  · obtain ⟨g1, e1, f1⟩ := T_M_whenOf (z := z) (d := d) (ls := ls) (P := P) (np := np) (ni := ni) (nd := nd) hR hW hi1 ok hL (Or.inl rfl) h19 (show i < 8 by omega)
    have s1 : RSk g1 R := RSk_fr f1.fz hR
    refine ⟨g1, ?_, f1⟩
    rw [if_pos c, if_pos c, e1]
    simp only [zbd_i, tl_s]
    rw [S_M_priceOf_17 s1]
    by_cases c2 : whS ls nd (nI 0) P i = -1
    · rw [if_pos c2, if_pos c2]
    · rw [if_neg c2, if_neg c2, T_M_of s1 (by omega), f1.1.2.2.1, hi1]
      simp only [zbd_i, tl_s, S_M_priceOf_34, T_M_greater, S_M_priceOf_39]
  · rw [if_neg c, if_neg c]
    exact ⟨h, rfl, Rq.rf⟩
def deV (ls : List LN) (nd : Nat) (P : Row) (v : Int32) (w : Nat) : Int32 := match w with
  | 12 => ripS P ls (cN v)
  | 13 => cosS P ls (cN v)
  | 14 => bI (vld P (cN v) (inS P (nI 1) nd) = true)
  | 15 => prS P (cN v) (whS ls nd (nI 0) P (cN v))
  | w => P (45 + 12 * cN v + w)
def deK (nd : Nat) (v w : Int32) : Nat := if inR v nd then (if inR w 16 then 0 else 2) else 1
theorem T_Deed_tell (hP : PSk h p) (H : PRp h p P np ni nd) (hO : OkD P np ni nd) {i j : Nat} (hi : i < nd) (hj : j < 12) : ev z d 5 0 [.ref (p + 20 + i), .int (nI j)] [] h = some (.inl (some (.int (P (45 + 12 * i + j)))), h) := by
  have h8 := H.ld
  have ko : zK h (p + 20 + i) = 1 := PSk_o4 hP (by omega)
  rw [S_Deed_tell_0]
  rcases (by omega : j = 0 ∨ j = 1 ∨ j = 2 ∨ j = 3 ∨ j = 4 ∨ j = 5 ∨ j = 6 ∨ j = 7 ∨ j = 8 ∨ j = 9 ∨ j = 10 ∨ j = 11) with r | r | r | r | r | r | r | r | r | r | r | r <;> subst r
  · rw [T_Deed_tell_1_0, S_Deed_tell_60 ko, H.deed hi (by decide)]
  · rw [T_Deed_tell_1_1, S_Deed_tell_65 ko, H.deed hi (by decide)]
  · rw [T_Deed_tell_1_2, S_Deed_tell_70 ko, H.deed hi (by decide)]
  · rw [T_Deed_tell_1_3, S_Deed_tell_75 ko, H.deed hi (by decide)]
  · rw [T_Deed_tell_1_4, S_Deed_tell_80 ko, H.deed hi (by decide)]
  · rw [T_Deed_tell_1_5, S_Deed_tell_85 ko, H.deed hi (by decide)]
  · rw [T_Deed_tell_1_6, S_Deed_tell_90 ko, H.deed hi (by decide)]
  · rw [T_Deed_tell_1_7, S_Deed_tell_95 ko, H.deed hi (by decide)]
  · rw [T_Deed_tell_1_8, S_Deed_tell_100 ko, H.deed hi (by decide)]
  · rw [T_Deed_tell_1_9, S_Deed_tell_105 ko, H.deed hi (by decide)]
  · rw [T_Deed_tell_1_10, S_Deed_tell_110 ko, H.deed hi (by decide)]
  · rw [T_Deed_tell_1_d (Or.inr (by decide)), S_Deed_tell_115 ko, H.deed hi (by decide)]
    rcases (hO i hi).2.2.2.2.2 with e | e
    · rw [e, if_pos (by decide)]
    · rw [e, if_neg (by decide)]
theorem deV_lt {j : Nat} (hj : j < 12) : deV ls nd P v j = P (45 + 12 * cN v + j) := by
  rcases (by omega : j = 0 ∨ j = 1 ∨ j = 2 ∨ j = 3 ∨ j = 4 ∨ j = 5 ∨ j = 6 ∨ j = 7 ∨ j = 8 ∨ j = 9 ∨ j = 10 ∨ j = 11) with r | r | r | r | r | r | r | r | r | r | r | r <;> subst r <;> rfl
theorem C_deed (t : Tp h) (H : CI z h X S ls Lo K A tl T ft) (ok : OkA S ls K A) : CA z d h X Lo 108 [.ref X, .int v, .int w] [2, 4] (deK S.2.2.2 v w) (deV ls S.2.2.2 S.1 v (cN w)) ((S, ls, Lo), K, A, tl, T, ft) := by
  have h8 := ok.1.1.1.2.2.2.2.2
  unfold deK
  by_cases c : inR v S.2.2.2
  · rw [if_pos c]
    have st : ev z d 108 0 [.ref X, .int v, .int w] [] h = ev z d 108 5 [.ref X, .int v, .int w] [] h := by
      rw [S_LI_deed_0 H.1.1, C_needDeed H, if_pos c]
      simp only [zbd_i, tl_n]
    obtain ⟨i, hi, rfl⟩ := (inR_iff (by omega)).mp c
    rw [S_LI_deed_5 H.1.1] at st
    by_cases c2 : inR w 16
    · rw [if_pos c2]
      obtain ⟨j, hj, rfl⟩ := (inR_iff (by decide)).mp c2
      rw [cN_nI (by omega)]
      rw [if_neg (nI_pos (by omega))] at st
      by_cases c3 : j < 12
      · rw [deV_lt c3, cN_nI (by omega)]
        rw [if_neg (nI_ge c3 (by decide)), ix_n (by omega) (by decide), T_Deed_tell H.sk H.rp ok.1.1.2.1 hi c3] at st
        simp only [zbd_i, tl_s, S_LI_deed_28] at st
        exact CA.rf H st
      · rw [if_pos (nI_le (by omega) (by omega))] at st
        rcases (by omega : j = 12 ∨ j = 13 ∨ j = 14 ∨ j = 15) with r | r | r | r <;> subst r
        · obtain ⟨h1, e1, f1⟩ := T_Port_ripensBy (z := z) (d := d) (k := i) H.sk H.rp ok.1.1.2.1 ok.1.1.2.2.2.2.2 hi H.2.1.2.1 H.2.1.2.2.1 H.2.1.2.2.2
          refine CA.dz H (f1.mo (fun x q => Az_D q)) ?_
          rw [st, T_LI_deed_30_12, S_LI_deed_60 H.1.1, e1]
          simp only [zbd_i, tl_s, S_LI_deed_68]
          unfold deV
          rw [cN_nI (by omega)]
          rfl
        · obtain ⟨h1, e1, f1⟩ := T_Port_costsOf (z := z) (d := d) (k := i) H.sk H.rp ok.1.1.2.2.2.2.2 hi H.2.1.2.1 H.2.1.2.2.1 H.2.1.2.2.2
          refine CA.dz H (f1.mo (fun x q => Az_D q)) ?_
          rw [st, T_LI_deed_30_13, S_LI_deed_69 H.1.1, e1]
          simp only [zbd_i, tl_s, S_LI_deed_77]
          unfold deV
          rw [cN_nI (by omega)]
          rfl
        · refine CA.rf H ?_
          rw [st, T_LI_deed_30_14, S_LI_deed_78 H.1.1, T_Port_inState H.sk H.rp]
          simp only [zbd_i, tl_s]
          rw [S_LI_deed_91 H.1.1, T_Port_isValid H.sk H.rp hi]
          simp only [zbd_i, tl_s]
          rw [S_LI_deed_94, chk0]
          unfold deV
          rw [cN_nI (by omega)]
          unfold bI
          split <;> rfl
        · obtain ⟨h1, f1, w1, e1⟩ := C_fillWhens (z := z) (d := d) H ok (Or.inl rfl)
          have H1 := H.dz f1
          refine CA.dz H f1 ?_
          rw [st, T_LI_deed_30_15, S_LI_deed_103 H.1.1, e1]
          simp only [zbd_i, tl_n]
          rw [S_LI_deed_108 H1.1.1, ix_n (by omega) (by decide), w1 i hi, T_Port_priceOf H1.sk H1.rp hi]
          simp only [zbd_i, tl_s, S_LI_deed_122]
          unfold deV
          rw [cN_nI (by omega)]
          rfl
    · rw [if_neg c2]
      refine CA.x t H rfl ?_
      have hw : w.toInt < 12 ∨ 15 < w.toInt := by
        rcases swd (n := 15) (by decide) c2 with q | q
        · left; omega
        · right; exact q
      have st2 : ev z d 108 0 [.ref X, .int (nI i), .int w] [] h = ev z d 108 30 [.ref X, .int (nI i), .int w] [.int w] h := by
        rw [st]
        by_cases c4 : w < 0
        · rw [if_pos c4]
        · rw [if_neg c4, if_pos]
          obtain ⟨j, hj, rfl⟩ := nI_of c4
          exact nI_le (by
            rcases Nat.lt_or_ge j 16 with q | q
            · exact absurd (inR_nI q (by decide)) c2
            · omega) hj
      rw [st2, T_LI_deed_30_d hw, S_LI_deed_123]
      rfl
  · rw [if_neg c]
    refine CA.x t H rfl ?_
    rw [S_LI_deed_0 H.1.1, C_needDeed H, if_neg c]
    simp only [zbd_e]
    exact evx_nil rfl
theorem R_deed (W : WA z h) (H : RI h R S K A tl T ft) (ok : OkA S ls K A) : RB z (d + 7) h R 238 [.ref R, .int v, .int w] (deK S.2.2.2 v w) (deV ls S.2.2.2 S.1 v (cN w)) ((S, ls, Lo), K, A, tl, T, ft) := by
  have h8 := ok.1.1.1.2.2.2.2.2
  have e16 : bI (isin w (nI 0) (nI 15)) = bI (inR w 16) := bI_cg (isin_n (by decide))
  unfold deK
  by_cases c : inR v S.2.2.2
  · rw [if_pos c]
    obtain ⟨i, hi, rfl⟩ := (inR_iff (by omega)).mp c
    have st : ev z (d + 7) 238 0 [.ref R, .int (nI i), .int w] [] h = ev z (d + 7) 238 20 [.ref R, .int (nI i), .int w] [.int (bI (inR w 16)), .ref R] h := by
      rw [S_M_deed_0 H.1.1, R_isDeed H ok.1.1]
      simp only [zbd_i, tl_s]
      rw [S_M_deed_6 H.1.1, chk3, if_pos c, T_M_isIn, e16]
      simp only [zbd_i, tl_s]
    rw [S_M_deed_20 H.1.1, chk2] at st
    by_cases c2 : inR w 16
    · rw [if_pos c2]
      rw [if_pos c2] at st
      obtain ⟨j, hj, rfl⟩ := (inR_iff (by decide)).mp c2
      rw [cN_nI (by omega)]
      have G := H.w0 (v := nI 0)
      have W1 : WA z (zwI h R 0 (nI 0)) := W.rz H.1.1 FZ0
      by_cases c3 : j < 12
      · rw [deV_lt c3, cN_nI (by omega)]
        rw [if_neg (nI_ge c3 (by decide)), T_M_of G.1.1 (by omega), G.i] at st
        simp only [zbd_i, tl_s, S_M_deed_52] at st
        exact RB.g H st
      · obtain ⟨g1, e1, f1, y1, y2⟩ := T_M_asks (z := z) (d := d) (P := S.1) (np := S.2.1) (ni := S.2.2.1) (nd := S.2.2.2) (ls := ls) (k := i) G.1.1 W1 ok.1.1.2.1 ok.1.1.2.2.2.2.2 ok.1.1.1.2.2.2.2.1 h8 ok.1.2.1 hi
        have q1 := Rq.ra f1
        have G1 := G.q q1
        rw [G.id, G1.id] at e1
        rw [if_pos (nI_le (by omega) (by omega)), e1] at st
        simp only [zbd_i, tl_n] at st
        rw [S_M_deed_58 G1.1.1] at st
        rcases (by omega : j = 12 ∨ j = 13 ∨ j = 14 ∨ j = 15) with r | r | r | r <;> subst r
        · rw [if_pos (by decide), y1] at st
          refine RB.q H q1 ?_
          rw [st]
          unfold deV
          rw [cN_nI (by omega)]
          rfl
        · rw [if_neg (by decide), if_pos (by decide), y2] at st
          refine RB.q H q1 ?_
          rw [st]
          unfold deV
          rw [cN_nI (by omega)]
          rfl
        · rw [if_neg (by decide), if_neg (by decide), if_pos (by decide), T_M_isValidNow G1.1.1 (by omega) (by rw [G1.i]; exact ok.1.1.1.2.2.1) h8, G1.i] at st
          simp only [zbd_i, tl_s] at st
          rw [S_M_deed_91, chk0] at st
          refine RB.q H q1 ?_
          rw [st]
          unfold deV
          rw [cN_nI (by omega)]
          unfold bI
          split <;> rfl
        · obtain ⟨g2, e2, f2⟩ := T_M_priceOf (z := z) (d := d) (P := S.1) (np := S.2.1) (ni := S.2.2.1) (nd := S.2.2.2) (ls := ls) G1.1.1 (W1.rz G.1.1 q1.fz) G1.i ok.1.1 ok.1.2.1 G1.1.2.2 hi
          rw [if_neg (by decide), if_neg (by decide), if_neg (by decide), e2] at st
          simp only [zbd_i, tl_s, S_M_deed_107] at st
          refine RB.q H (q1.tr f2) ?_
          rw [st]
          unfold deV
          rw [cN_nI (by omega)]
          rfl
    · rw [if_neg c2]
      rw [if_neg c2] at st
      exact RB.t H (by decide) (w := nI 0) st
  · rw [if_neg c]
    refine RB.t H (by decide) (w := nI 0) ?_
    rw [S_M_deed_0 H.1.1, R_isDeed H ok.1.1]
    simp only [zbd_i, tl_s]
    rw [S_M_deed_6 H.1.1, chk3, if_neg c]
end
