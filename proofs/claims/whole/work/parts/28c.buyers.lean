/-! BUYERS: the reference -/
section
variable {z : ZE} {d : Nat} {h h' g : Hp} {X R p : Nat} {S S1 : PSt} {K : Option Img} {A : List PSt} {tl : Nat} {T : Row} {ft : Int32} {ls : List LN} {Lo : Option Nat} {P : Row} {pr nx : Nat → Int32} {np ni nd m k r i s q : Nat} {u v w sp : Int32}
theorem T_M_pa10 (hR : RSk h R) : ∃ g, ev z d 211 0 [.ref R, zu] [] h = some (.inl none, g) ∧ Rq R h g ∧ RSk g R ∧ zI g (R + 1) = zI h (R + 1) ∧ zI g (R + 3) = cp (zI h (R + 1)) (zI h (R + 3)) 0 381 ∧ zI g R = zI h R ∧ zI g (R + 10) = zI h (R + 10) := by
  refine ⟨_, T_M_putsAside hR, ⟨⟨v_f ⟨by omega, by omega⟩, fun y _ => congrFun (v_o (by omega)) y, v_o (by omega), v_o (by omega), v_o (by omega), v_o (by omega)⟩, congrFun (v_o (by omega)) 0⟩, vr hR, v_o (by omega), v_1, v_o (by omega), v_o (by omega)⟩
theorem T_M_firstBy10 (hR : RSk h R) (hW : WA z h) (hi1 : zI h (R + 1) = P) (ok : Ok (P, np, ni, nd)) (hL : OkL P ls) (hsp : sp = nI 0 ∨ sp = nI 1) (h19 : zI h R 19 = sp) {i c : Nat} (hi : i < 8) (hc : c < 12) : ∃ h', ev z (d + 7) 251 0 [.ref R, .int (nI i), .int (nI c), .int w, zu, zu, zu] [] h = some (.inl (some (.int (fpr (fbP ls nd sp P i c w) 81))), h') ∧ Rq R h h' ∧ zI h' (R + 10) = zI h (R + 10) := by
  obtain ⟨g0, e0, q0, s0, r0, a0, z0, t0⟩ := T_M_pa10 (z := z) (d := d + 7) hR
  have W0 : WA z g0 := hW.rz hR q0.1.1
  have cb : ∀ g Q, RA R g0 g → (∀ j, 381 ≤ j → Q j = P j) → ev z (d + 7) 212 0 [.ref R, zu] [] (mH g R Q) = some (.inl none, mH g R P) := fun g Q ra hQ => T_M_cb (f := zI h (R + 3)) (RSk_fr ra.1 s0) (by rw [ra.1.i (by omega), a0, hi1]) hQ
  obtain ⟨g', f', e'⟩ := T_M_first_l (z := z) (d := d) (w := w) s0 W0 ok hL hsp ((congrFun z0 19).trans h19) cb hi hc 81 0 g0 zu (by omega) RA.rf
  have e1 : mH g0 R (sq ls nd sp P 0) = g0 := by
    have : sq ls nd sp P 0 = zI g0 (R + 1) := (r0.trans hi1).symm
    rw [this]
    exact mH_id
  rw [e1] at e'
  have i1 : zI g' (R + 1) = P := by
    rw [f'.1.i (by omega), r0, hi1]
  have e3 : fpr (fbP ls nd sp P i c w) 0 = -1 := rfl
  rw [e3] at e'
  refine ⟨g', ?_, q0.tr (Rq.ra f'), (f'.1.i (by omega)).trans t0⟩
  rw [S_M_firstBy_0 hR, e0]
  simp only [zbd_i, tl_n, S_M_firstBy_4]
  rw [e', ← i1, mH_id]
theorem T_M_whenOf10 (hR : RSk h R) (hW : WA z h) (hi1 : zI h (R + 1) = P) (ok : Ok (P, np, ni, nd)) (hL : OkL P ls) (hsp : sp = nI 0 ∨ sp = nI 1) (h19 : zI h R 19 = sp) {i : Nat} (hi : i < 8) : ∃ h', ev z (d + 7) 252 0 [.ref R, .int (nI i)] [] h = some (.inl (some (.int (whS ls nd sp P i))), h') ∧ Rq R h h' ∧ zI h' (R + 10) = zI h (R + 10) := by
  obtain ⟨h', e, f⟩ := T_M_firstBy10 (z := z) (d := d) (w := -1) hR hW hi1 ok hL hsp h19 hi (show 9 < 12 by decide)
  refine ⟨h', ?_, f⟩
  rw [S_M_whenOf_0 hR, e]
  simp only [zbd_i, tl_s, S_M_whenOf_8, whS_f]
theorem T_M_priceOf10 (hR : RSk h R) (hW : WA z h) (hi1 : zI h (R + 1) = P) (ok : Ok (P, np, ni, nd)) (hL : OkL P ls) (h19 : zI h R 19 = nI 0) {i : Nat} (hi : i < nd) : ∃ h', ev z (d + 7) 280 0 [.ref R, .int (nI i), zu] [] h = some (.inl (some (.int (prS P i (whS ls nd (nI 0) P i)))), h') ∧ Rq R h h' ∧ zI h' (R + 10) = zI h (R + 10) := by
  have h8 : nd ≤ 8 := ok.1.2.2.2.2.2
  rw [S_M_priceOf_0 hR, T_M_of hR (by omega), hi1]
  simp only [zbd_i, tl_s]
  rw [S_M_priceOf_7 hR]
  unfold prS
  by_cases c : P (45 + 12 * i + 10) = 0
  · obtain ⟨g1, e1, f1, t1⟩ := T_M_whenOf10 (z := z) (d := d) (ls := ls) (P := P) (np := np) (ni := ni) (nd := nd) hR hW hi1 ok hL (Or.inl rfl) h19 (show i < 8 by omega)
    have s1 : RSk g1 R := RSk_fr f1.fz hR
    refine ⟨g1, ?_, f1, t1⟩
    rw [if_pos c, if_pos c, e1]
    simp only [zbd_i, tl_s]
    rw [S_M_priceOf_17 s1]
    by_cases c2 : whS ls nd (nI 0) P i = -1
    · rw [if_pos c2, if_pos c2]
    · rw [if_neg c2, if_neg c2, T_M_of s1 (by omega), f1.1.2.2.1, hi1]
      simp only [zbd_i, tl_s, S_M_priceOf_34, T_M_greater, S_M_priceOf_39]
  · rw [if_neg c, if_neg c]
    exact ⟨h, rfl, Rq.rf, rfl⟩
theorem ix_col (hi : i ≤ 8) (hs : s < 64) {f : Nat → Option (zO × Hp)} : ix (nI 64 * nI i + nI s) 576 f = f (i * 64 + s) := by
  rw [pk_mul, nI_add, Nat.mul_comm]
  exact ix_n (by omega) (by decide)
theorem ix_col1 (hi : i < 8) (hs : s < 64) {f : Nat → Option (zO × Hp)} : ix (nI 64 * (nI i + nI 1) + nI s) 576 f = f ((i + 1) * 64 + s) := by
  rw [nI_add]
  exact ix_col (by omega) hs
theorem T_M_mayBuy (hR : RSk h R) (hi1 : zI h (R + 1) = P) (h6 : np ≤ 6) (h8 : nd ≤ 8) (hq : q < np) (hi : i < nd) (e : zI h (R + 10) i = pr i) : ev z d 281 0 [.ref R, .int (nI i), .int (nI q), .int (nI s)] [] h = some (.inl (some (.int (bI (mbS P pr i q s = true)))), h) := by
  have of : ∀ c, c < 12 → ev z d 179 0 [.ref R, .int (nI i), .int (nI c)] [] h = some (.inl (some (.int (P (45 + 12 * i + c)))), h) := by
    intro c hc
    rw [T_M_of hR (by omega), hi1]
  rw [S_M_mayBuy_0 hR, of 10 (by decide)]
  simp only [zbd_i, tl_s]
  rw [S_M_mayBuy_7, T_M_isOf]
  simp only [zbd_i, tl_s, S_M_mayBuy_15 hR, of 1 (by decide), of 2 (by decide), S_M_mayBuy_24 hR, S_M_mayBuy_34 hR, S_M_mayBuy_43 hR, T_M_coins hR (show 15 + 2 * q < 781 by omega), ix_n (show i < 8 by omega) (show 8 < 2147483648 by decide), e, hi1]
  rw [bI_cg mbS_c, bI_cg (isB_nI (show q < 32 by omega))]
  simp only [bI_0]
  by_cases c1 : P (45 + 12 * i + 10) = 0
  · rw [if_pos c1]
    by_cases c3 : s.testBit q = true
    · rw [if_neg (fun x => x c3), bI_f (fun x => x.2.2.1 c3)]
    · rw [if_pos c3]
      by_cases c2 : P (45 + 12 * i + 1) = nI q
      · rw [if_pos c2, bI_f (fun x => x.2.1 (Or.inl c2))]
      · rw [if_neg c2]
        by_cases c5 : P (45 + 12 * i + 2) = nI q
        · rw [if_pos c5, bI_f (fun x => x.2.1 (Or.inr c5))]
        · rw [if_neg c5]
          by_cases c4 : P (15 + 2 * q + 0) < pr i
          · rw [if_pos (show P (15 + 2 * q) < pr i from c4), bI_f (fun x => x.2.2.2 c4)]
          · rw [if_neg (show ¬ P (15 + 2 * q) < pr i from c4), bI_t ⟨c1, fun x => x.elim c2 c5, c3, c4⟩]
  · rw [if_neg c1, bI_f (fun x => c1 x.1)]
/-- the market of the reference while it opens -/
def MrF (R : Nat) (h g : Hp) (pr : Nat → Int32) (P : Row) (np nd i : Nat) : Prop := Rq R h g ∧ (∀ j, j < nd → zI g (R + 10) j = pr j) ∧ ∀ j s, i ≤ j → j ≤ nd → s < 64 → zI g (R + 9) (j * 64 + s) = rwT P pr np nd j s
theorem Rq.xx {k j : Nat} {v : Int32} (hk : k = 9 ∨ k = 10) : Rq R h (zwI h (R + k) j v) := ⟨Rs.x (by omega), zI_wb (by omega)⟩
theorem R_pl (hR : RSk h R) (hW : WA z h) (hi1 : zI h (R + 1) = P) (ok : Ok (P, np, ni, nd)) (hL : OkL P ls) (h19 : zI h R 19 = nI 0) (hp : ∀ i, i < nd → prS P i (whS ls nd (nI 0) P i) = pr i) : ∀ n k g, k + n = nd → Rq R h g → (∀ j, j < k → zI g (R + 10) j = pr j) → ∃ g', Rq R h g' ∧ (∀ j, j < nd → zI g' (R + 10) j = pr j) ∧ ev z (d + 7) 282 2 [.ref R, .int (nI k), zu, zu, zu] [] g = ev z (d + 7) 282 31 [.ref R, .int (nI 0), zu, zu, zu] [] g'
  | 0, k, g, hk, f, a => by
    have h8 : nd ≤ 8 := ok.1.2.2.2.2.2
    obtain rfl : k = nd := by omega
    have Rg : RSk g R := RSk_fr f.fz hR
    have i1 : zI g (R + 1) = P := f.1.2.2.1.trans hi1
    refine ⟨g, f, a, ?_⟩
    rw [S_M_sales_2 Rg, i1, show P 5 = nI k from ok.1.2.2.1, if_pos (nI_le (Nat.le_refl _) (by omega))]
  | n + 1, k, g, hk, f, a => by
    have h8 : nd ≤ 8 := ok.1.2.2.2.2.2
    have Rg : RSk g R := RSk_fr f.fz hR
    have i1 : zI g (R + 1) = P := f.1.2.2.1.trans hi1
    have hk' : k < nd := by omega
    obtain ⟨g1, e1, f1, t1⟩ := T_M_priceOf10 (z := z) (d := d) (ls := ls) (np := np) (ni := ni) (nd := nd) Rg (hW.rz hR f.fz) i1 ok hL ((f.1.2.1 19 (by omega)).trans h19) hk'
    have R1 : RSk g1 R := RSk_fr f1.fz Rg
    obtain ⟨g', f', a', e'⟩ := R_pl hR hW hi1 ok hL h19 hp n (k + 1) (zwI g1 (R + 10) k (pr k)) (by omega) ((f.tr f1).tr (Rq.xx (Or.inr rfl))) (fun j hj => by
      by_cases e : j = k
      · rw [e, zI_wa]
      · rw [zI_wj e, t1]
        exact a j (by omega))
    refine ⟨g', f', a', ?_⟩
    rw [S_M_sales_2 Rg, i1, show P 5 = nI nd from ok.1.2.2.1, if_neg (nI_ge (by omega) (by omega)), e1, hp k hk']
    simp only [zbd_i, tl_s]
    rw [S_M_sales_22 R1, ix_n (by omega) (by decide), nI_add]
    exact e'
theorem R_zl (hR : RSk h R) (hi1 : zI h (R + 1) = P) (ok : Ok (P, np, ni, nd)) : ∀ n k g, k + n = 64 → Rq R h g → (∀ j, j < nd → zI g (R + 10) j = pr j) → (∀ s, s < k → zI g (R + 9) (nd * 64 + s) = nI 0) → ∃ g', MrF R h g' pr P np nd nd ∧ ev z d 282 31 [.ref R, .int (nI k), zu, zu, zu] [] g = ev z d 282 69 [.ref R, .int (nI nd + (-1)), zu, zu, zu] [] g'
  | 0, k, g, hk, f, a, b => by
    obtain rfl : k = 64 := by omega
    have Rg : RSk g R := RSk_fr f.fz hR
    have i1 : zI g (R + 1) = P := f.1.2.2.1.trans hi1
    refine ⟨g, ⟨f, a, fun j s h1 h2 h3 => ?_⟩, ?_⟩
    · obtain rfl : j = nd := by omega
      rw [rwT_z]
      exact b s h3
    · rw [S_M_sales_31 Rg, if_pos (by decide), i1, show P 5 = nI nd from ok.1.2.2.1, m1_sub]
  | n + 1, k, g, hk, f, a, b => by
    have h8 : nd ≤ 8 := ok.1.2.2.2.2.2
    have Rg : RSk g R := RSk_fr f.fz hR
    have i1 : zI g (R + 1) = P := f.1.2.2.1.trans hi1
    obtain ⟨g', M', e'⟩ := R_zl hR hi1 ok n (k + 1) (zwI g (R + 9) (nd * 64 + k) (nI 0)) (by omega) (f.tr (Rq.xx (Or.inl rfl))) (fun j hj => by rw [zI_wb (by omega)]; exact a j hj) (fun s hs => by
      by_cases e : s = k
      · rw [e, zI_wa]
      · rw [zI_wj (by omega)]
        exact b s (by omega))
    refine ⟨g', M', ?_⟩
    rw [S_M_sales_31 Rg, if_neg (nI_ge (by omega) (by decide)), i1, show P 5 = nI nd from ok.1.2.2.1, ix_col h8 (by omega), nI_add]
    exact e'
theorem R_sl_s (hR : RSk h R) (hi1 : zI h (R + 1) = P) (ok : Ok (P, np, ni, nd)) (hi : i < nd) : ∀ n k g w3 w4, k + n = 64 → Rq R h g → (∀ j, j < nd → zI g (R + 10) j = pr j) → (∀ j s, i + 1 ≤ j → j ≤ nd → s < 64 → zI g (R + 9) (j * 64 + s) = rwT P pr np nd j s) → (∀ s, s < k → zI g (R + 9) (i * 64 + s) = rwT P pr np nd i s) → ∃ g' w3' w4', MrF R h g' pr P np nd i ∧ ev z d 282 75 [.ref R, .int (nI i), .int (nI k), w3, w4] [] g = ev z d 282 69 [.ref R, .int (nI i + (-1)), .int (nI 64), w3', w4'] [] g'
  | 0, k, g, w3, w4, hk, f, a, b, c => by
    obtain rfl : k = 64 := by omega
    have Rg : RSk g R := RSk_fr f.fz hR
    refine ⟨g, w3, w4, ⟨f, a, fun j s h1 h2 h3 => ?_⟩, ?_⟩
    · by_cases e : j = i
      · rw [e]
        exact c s h3
      · exact b j s (by omega) h2 h3
    · rw [S_M_sales_75 Rg, if_pos (by decide)]
  | n + 1, k, g, w3, w4, hk, f, a, b, c => by
    have h8 : nd ≤ 8 := ok.1.2.2.2.2.2
    have h6 : np ≤ 6 := ok.1.2.2.2.1
    have Rg : RSk g R := RSk_fr f.fz hR
    have i1 : zI g (R + 1) = P := f.1.2.2.1.trans hi1
    have hk' : k < 64 := by omega
    obtain ⟨g', w3', w4', M', e'⟩ := R_sl_s hR hi1 ok hi n (k + 1) (zwI g (R + 9) (i * 64 + k) (rwT P pr np nd i k)) (.int (rwT P pr np nd i k)) (.int (nI np)) (by omega) (f.tr (Rq.xx (Or.inl rfl))) (fun j hj => by rw [zI_wb (by omega)]; exact a j hj) (fun j s h1 h2 h3 => by rw [zI_wj (by omega)]; exact b j s h1 h2 h3) (fun s hs => by
      by_cases e : s = k
      · rw [e, zI_wa]
      · rw [zI_wj (by omega)]
        exact c s (by omega))
    refine ⟨g', w3', w4', M', ?_⟩
    rw [← e', rwT_u hi]
    rw [S_M_sales_75 Rg, if_neg (nI_ge (by omega) (by decide)), ix_col1 (by omega) hk', b (i + 1) k (by omega) (by omega) hk']
    refine (lp (E := fun q => ev z d 282 98 [.ref R, .int (nI i), .int (nI k), .int (moF P pr (rwT P pr np nd (i + 1)) i k q), .int (nI q)] [] g) np ?_).trans ?_
    · intro q hq
      have l := or_64 hk' (show q < 6 by omega)
      rw [S_M_sales_98 Rg, i1, show P 3 = nI np from ok.1.1, if_neg (nI_ge hq (by omega)), T_M_mayBuy Rg i1 h6 h8 hq hi (a i hi)]
      simp only [zbd_i, tl_s]
      rw [S_M_sales_117 Rg, chk0, moF_u, gN_or (a := 0) (by omega), ix_n (by omega) (by decide), ix_col1 (by omega) l, a i hi, b (i + 1) _ (by omega) (by omega) l, T_M_greater]
      simp only [zbd_i, tl_s, S_M_sales_149, nI_add]
      rw [mx_c]
      by_cases c1 : mbS P pr i q k = true
      · rw [if_pos c1, if_pos c1]
        rfl
      · rw [if_neg c1, if_neg c1]
    · rw [S_M_sales_98 Rg, i1, show P 3 = nI np from ok.1.1, if_pos (nI_le (Nat.le_refl _) (by omega)), ix_col (by omega) hk', nI_add]
theorem R_sl_l (hR : RSk h R) (hi1 : zI h (R + 1) = P) (ok : Ok (P, np, ni, nd)) : ∀ i g w2 w3 w4, i ≤ nd → MrF R h g pr P np nd i → ∃ g', MrF R h g' pr P np nd 0 ∧ ev z d 282 69 [.ref R, .int (nI i + (-1)), w2, w3, w4] [] g = some (.inl none, g')
  | 0, g, w2, w3, w4, hi, M => by
    refine ⟨g, M, ?_⟩
    rw [S_M_sales_69, if_pos (by decide)]
  | i + 1, g, w2, w3, w4, hi, M => by
    have h8 : nd ≤ 8 := ok.1.2.2.2.2.2
    obtain ⟨g1, v3, v4, M1, e1⟩ := R_sl_s (z := z) (d := d) (pr := pr) hR hi1 ok (show i < nd by omega) 64 0 g w3 w4 (by omega) M.1 M.2.1 M.2.2 (fun s hs => by omega)
    obtain ⟨g', M', e'⟩ := R_sl_l hR hi1 ok i g1 (.int (nI 64)) v3 v4 (by omega) M1
    refine ⟨g', M', ?_⟩
    rw [S_M_sales_69, ni_dn (by omega), if_neg (ni_nn (by omega))]
    exact e1.trans e'
theorem R_sales (hR : RSk h R) (hW : WA z h) (hi1 : zI h (R + 1) = P) (ok : Ok (P, np, ni, nd)) (hL : OkL P ls) (h19 : zI h R 19 = nI 0) (hp : ∀ i, i < nd → prS P i (whS ls nd (nI 0) P i) = pr i) : ∃ g', MrF R h g' pr P np nd 0 ∧ ev z (d + 7) 282 0 [.ref R, zu, zu, zu, zu] [] h = some (.inl none, g') := by
  obtain ⟨g1, f1, a1, e1⟩ := R_pl (z := z) (d := d) hR hW hi1 ok hL h19 hp nd 0 h (by omega) Rq.rf (fun j hj => by omega)
  obtain ⟨g2, M2, e2⟩ := R_zl (z := z) (d := d + 7) (np := np) hR hi1 ok 64 0 g1 (by omega) f1 a1 (fun s hs => by omega)
  obtain ⟨g', M', e'⟩ := R_sl_l (z := z) (d := d + 7) hR hi1 ok nd g2 zu zu zu (Nat.le_refl _) M2
  refine ⟨g', M', ?_⟩
  rw [S_M_sales_0]
  exact (e1.trans e2).trans e'
theorem R_fb_l (hR : RSk h R) (hi1 : zI h (R + 1) = P) (ok : Ok (P, np, ni, nd)) (M : MrF R g h pr P np nd 0) (hi : i < nd) (hs : s < 64) : ∀ q n, q + n = np → ev z d 283 104 [.ref R, .int v, .int (nI s), .int (ffr (fbS P pr np nd i s) n q), .int (nI i), .int (nI q + (-1))] [] h = ev z d 283 54 [.ref R, .int v, .int (nI s ||| nI 1 <<< (ffr (fbS P pr np nd i s) np 0 &&& 31)), .int (ffr (fbS P pr np nd i s) np 0), .int (nI (i + 1)), .int (-1)] [] h
  | 0, n, hq => by
    obtain rfl : n = np := by omega
    rw [S_M_buyers_104 hR, if_pos (by decide), nI_add]
    rfl
  | q + 1, n, hq => by
    have h8 : nd ≤ 8 := ok.1.2.2.2.2.2
    have h6 : np ≤ 6 := ok.1.2.2.2.1
    have l := or_64 hs (show q < 6 by omega)
    rw [← R_fb_l hR hi1 ok M hi hs q (n + 1) (by omega), ffr_u]
    rw [S_M_buyers_104 hR, ni_dn (by omega), if_neg (ni_nn (by omega)), T_M_mayBuy hR hi1 h6 h8 (show q < np by omega) hi (M.2.1 i hi)]
    simp only [zbd_i, tl_s]
    rw [S_M_buyers_118 hR, chk0, gN_or (a := 0) (by omega), ix_n (by omega) (by decide), ix_col1 (by omega) l, ix_col (by omega) hs, M.2.1 i hi, M.2.2 (i + 1) _ (by omega) (by omega) l, M.2.2 i s (by omega) (by omega) hs]
    unfold fbS
    by_cases c1 : mbS P pr i q s = true
    · rw [if_pos c1]
      by_cases c2 : slS pr (rwT P pr np nd (i + 1)) i s q = rwT P pr np nd i s
      · rw [if_pos (show pr i + rwT P pr np nd (i + 1) (s ||| 2 ^ q) = rwT P pr np nd i s from c2), if_pos (by rw [c1, Bool.true_and, decide_eq_true_iff]; exact c2)]
      · rw [if_neg (show ¬ pr i + rwT P pr np nd (i + 1) (s ||| 2 ^ q) = rwT P pr np nd i s from c2), if_neg (by rw [c1, Bool.true_and, decide_eq_true_iff]; exact c2)]
    · rw [if_neg c1, if_neg (by rw [Bool.and_eq_true]; exact fun q => c1 q.1)]
theorem R_bo_l (hR : RSk h R) (hi1 : zI h (R + 1) = P) (ok : Ok (P, np, ni, nd)) (M : MrF R g h pr P np nd 0) (hu : k < nd) : ∀ n i w5, i + n = k + 1 → ev z d 283 54 [.ref R, .int (nI k), .int (nI (byS P pr np nd i).1), .int (byS P pr np nd i).2, .int (nI i), w5] [] h = some (.inl (some (.int (byS P pr np nd (k + 1)).2)), h)
  | 0, i, w5, hi => by
    have h8 : nd ≤ 8 := ok.1.2.2.2.2.2
    obtain rfl : i = k + 1 := by omega
    rw [S_M_buyers_54 hR, if_pos (nI_lt (by omega) (by omega))]
  | n + 1, i, w5, hi => by
    have h8 : nd ≤ 8 := ok.1.2.2.2.2.2
    have h6 : np ≤ 6 := ok.1.2.2.2.1
    have l := byS_l (P := P) (pr := pr) (np := np) (nd := nd) h6 i (by omega)
    rw [S_M_buyers_54 hR, if_neg (nI_nlt (by omega) (by omega)), ix_col1 (by omega) l, ix_col (by omega) l, M.2.2 i _ (by omega) (by omega) l, M.2.2 (i + 1) _ (by omega) (by omega) l, nI_add]
    by_cases c : rwT P pr np nd (i + 1) (byS P pr np nd i).1 = rwT P pr np nd i (byS P pr np nd i).1
    · rw [if_pos c]
      have ih := R_bo_l hR hi1 ok M hu n (i + 1) w5 (by omega)
      rw [byS_u, if_pos c] at ih
      exact ih
    · rw [if_neg c]
      have ih := R_bo_l hR hi1 ok M hu n (i + 1) (.int (-1)) (by omega)
      rw [byS_u, if_neg c] at ih
      obtain ⟨j, hj, e⟩ := fbS_a (P := P) (pr := pr) (np := np) (nd := nd) (show i < nd by omega) c
      have e1 := R_fb_l (z := z) (d := d) (v := nI k) hR hi1 ok M (show i < nd by omega) l np 0 (by omega)
      rw [e] at ih e1
      rw [cN_nI (by omega), ← gN_or (a := 0) (by omega)] at ih
      rw [hi1, show P 3 = nI np from ok.1.1, ← m1_sub]
      exact e1.trans ih
theorem R_buyers (W : WA z h) (H : RI h R S K A tl T ft) (ok : OkA S ls K A) : RB z (d + 7) h R 283 [.ref R, .int v, zu, zu, zu, zu] (buK S.2.2.2 v) (buV S.1 ls S.2.1 S.2.2.2 v) ((S, ls, Lo), K, A, tl, T, ft) := by
  have h8 := ok.1.1.1.2.2.2.2.2
  have G := H.w0 (v := nI 0)
  obtain ⟨g', M, e'⟩ := R_sales (z := z) (d := d) (P := S.1) (np := S.2.1) (ni := S.2.2.1) (nd := S.2.2.2) (ls := ls) (pr := fun i => prS S.1 i (whS ls S.2.2.2 (nI 0) S.1 i)) G.1.1 (W.rz H.1.1 FZ0) G.i ok.1.1 ok.1.2.1 G.1.2.2 (fun i hi => rfl)
  have Rg : RSk g' R := RSk_fr M.1.fz G.1.1
  have i1 : zI g' (R + 1) = S.1 := M.1.1.2.2.1.trans G.i
  unfold buK buV
  by_cases c1 : v = -1
  · rw [if_pos c1, if_pos c1]
    refine RB.q H M.1 ?_
    rw [S_M_buyers_0 H.1.1, if_pos c1, if_pos (by decide), e']
    simp only [zbd_i, tl_n]
    rw [S_M_buyers_35 Rg, if_pos c1, show zI g' (R + 9) 0 = rwT S.1 (fun i => prS S.1 i (whS ls S.2.2.2 (nI 0) S.1 i)) S.2.1 S.2.2.2 0 0 from M.2.2 0 0 (by omega) (by omega) (by decide)]
  · rw [if_neg c1, if_neg c1]
    have q1 : ev z (d + 7) 283 0 [.ref R, .int v, zu, zu, zu, zu] [] h = ev z (d + 7) 283 11 [.ref R, .int v, zu, zu, zu, zu] [.int (bI (inR v S.2.2.2)), .ref R] h := by
      rw [S_M_buyers_0 H.1.1, if_neg c1, R_isDeed H ok.1.1]
      simp only [zbd_i, tl_s]
    rw [S_M_buyers_11 H.1.1, chk] at q1
    by_cases c2 : inR v S.2.2.2
    · rw [if_pos c2]
      rw [if_pos c2, e'] at q1
      simp only [zbd_i, tl_n] at q1
      rw [S_M_buyers_35 Rg, if_neg c1] at q1
      refine RB.q H M.1 ?_
      obtain ⟨k, hk, rfl⟩ := (inR_iff (by omega)).mp c2
      rw [q1, cN_nI (by omega)]
      exact R_bo_l (P := S.1) (np := S.2.1) (ni := S.2.2.1) (nd := S.2.2.2) Rg i1 ok.1.1 M hk (k + 1) 0 zu (by omega)
    · rw [if_neg c2]
      rw [if_neg c2] at q1
      exact RB.t H (by decide) q1
end
