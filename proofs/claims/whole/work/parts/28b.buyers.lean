/-! BUYERS: the class -/
section
variable {z : ZE} {d : Nat} {h h' g : Hp} {X R p K t : Nat} {S S1 : PSt} {K0 : Option Img} {A : List PSt} {tl : Nat} {T : Row} {ft : Int32} {ls : List LN} {Lo : Option Nat} {P : Row} {pr nx : Nat → Int32} {np ni nd m k r i s q : Nat} {u v w : Int32}
theorem ix_row (hi : i < 8) (hs : s < 64) {f : Nat → Option (zO × Hp)} : ix (nI i * nI 64 + nI s) 576 f = f (i * 64 + s) := by
  rw [pk_mul, nI_add]
  exact ix_n (by omega) (by decide)
theorem ix_row1 (hi : i < 8) (hs : s < 64) {f : Nat → Option (zO × Hp)} : ix ((nI i + nI 1) * nI 64 + nI s) 576 f = f ((i + 1) * 64 + s) := by
  rw [nI_add, pk_mul, nI_add]
  exact ix_n (by omega) (by decide)
theorem T_Mkt_mayBuy (hK : MSk h K) (hP : PSk h p) (H : PRp h p P np ni nd) (hq : q < np) (hi : i < nd) (e : zI h (K + 1) i = pr i) : ev z d 40 0 [.ref K, .ref p, .int (nI q), .int (nI i), .int (nI s), zu] [] h = some (.inl (some (.int (bI (mbS P pr i q s = true)))), h) := by
  have h8 := H.ld
  have h6 := H.lp
  have ko : zK h (p + 20 + i) = 1 := PSk_o4 hP (by omega)
  rw [S_Mkt_mayBuy_0 hP, ix_n (by omega) (by decide), H.deed hi (by decide), T_Deed_isOf ko, H.deed hi (by decide), H.deed hi (by decide)]
  simp only [zbd_i, tl_s]
  rw [S_Mkt_mayBuy_22 hK hP, ix_n (by omega) (by decide), ix_n (by omega) (by decide), e, H.party hq (by decide)]
  simp only [isB_0, isB_nI (show q < 32 by omega), bI_0]
  rw [bI_cg mbS_c]
  by_cases c1 : P (45 + 12 * i + 10) = 0
  · rw [if_pos c1]
    by_cases c2 : P (45 + 12 * i + 1) = nI q ∨ P (45 + 12 * i + 2) = nI q
    · rw [if_neg (fun x => x c2), bI_f (fun x => x.2.1 c2)]
    · rw [if_pos c2]
      by_cases c3 : s.testBit q = true
      · rw [if_neg (fun x => x c3), bI_f (fun x => x.2.2.1 c3)]
      · rw [if_pos c3]
        by_cases c4 : P (15 + 2 * q + 0) < pr i
        · rw [if_pos c4, bI_f (fun x => x.2.2.2 c4)]
        · rw [if_neg c4, bI_t ⟨c1, c2, c3, c4⟩]
  · rw [if_neg c1, bI_f (fun x => c1 x.1)]
theorem T_Mkt_sold (hK : MSk h K) (h8 : i < 8) (hq : q < 6) (hs : s < 64) (e : zI h (K + 1) i = pr i) (rw1 : ∀ s, s < 64 → zI h (K + 2) ((i + 1) * 64 + s) = nx s) : ev z d 41 0 [.ref K, .int (nI q), .int (nI i), .int (nI s)] [] h = some (.inl (some (.int (slS pr nx i s q))), h) := by
  have l := or_64 hs hq
  rw [S_Mkt_sold_0 hK, ix_n h8 (by decide), gN_or (a := 0) (by omega), ix_row1 h8 l, e, rw1 _ l]
  rfl
theorem T_Mkt_fillMost (hK : MSk h K) (hP : PSk h p) (H : PRp h p P np ni nd) (hi : i < nd) (hs : s < 64) (e : zI h (K + 1) i = pr i) (rw1 : ∀ s, s < 64 → zI h (K + 2) ((i + 1) * 64 + s) = nx s) : ev z d 39 0 [.ref K, .ref p, .int (nI i), .int (nI s), zu, zu] [] h = some (.inl none, zwI h (K + 2) (i * 64 + s) (moF P pr nx i s np)) := by
  have h8 := H.ld
  have h6 := H.lp
  rw [S_Mkt_fillMost_0 hK, ix_row1 (by omega) hs, rw1 s hs]
  refine (lp (E := fun q => ev z d 39 18 [.ref K, .ref p, .int (nI i), .int (nI s), .int (moF P pr nx i s q), .int (nI q)] [] h) np ?_).trans ?_
  · intro q hq
    rw [S_Mkt_fillMost_18 hK hP, H.cp, if_neg (nI_ge hq (by omega)), T_Mkt_mayBuy hK hP H hq hi e]
    simp only [zbd_i, tl_s]
    rw [S_Mkt_fillMost_36 hK, chk0, nI_add, moF_u, T_Mkt_sold hK (by omega) (by omega) hs e rw1]
    simp only [zbd_i, tl_s, S_Mkt_fillMost_49, nI_add]
    split <;> rfl
  · rw [S_Mkt_fillMost_18 hK hP, H.cp, if_pos (nI_le (Nat.le_refl _) (by omega)), ix_row (by omega) hs]
/-- the market while it opens -/
def MkF (X : Nat) (h g : Hp) (pr : Nat → Int32) (P : Row) (np nd i : Nat) : Prop := Fr (fun x => x = X + 93 ∨ x = X + 94) h g ∧ (∀ j, i ≤ j → j < nd → zI g (X + 93) j = pr j) ∧ ∀ j s, i ≤ j → j ≤ nd → s < 64 → zI g (X + 94) (j * 64 + s) = rwT P pr np nd j s
theorem C_mk_s (H : CI z h X S ls Lo K0 A tl T ft) (hi : i < S.2.2.2) : ∀ n k g, k + n = 64 → Fr (fun x => x = X + 93 ∨ x = X + 94) h g → (∀ j, i ≤ j → j < S.2.2.2 → zI g (X + 93) j = pr j) → (∀ j s, i + 1 ≤ j → j ≤ S.2.2.2 → s < 64 → zI g (X + 94) (j * 64 + s) = rwT S.1 pr S.2.1 S.2.2.2 j s) → (∀ s, s < k → zI g (X + 94) (i * 64 + s) = rwT S.1 pr S.2.1 S.2.2.2 i s) → ∃ g', MkF X h g' pr S.1 S.2.1 S.2.2.2 i ∧ ev z d 38 36 [.ref (X + 92), .ref (X + 4), .ref (X + 95), .int (nI i), .int (nI k)] [] g = ev z d 38 15 [.ref (X + 92), .ref (X + 4), .ref (X + 95), .int (nI i + (-1)), .int (nI 64)] [] g'
  | 0, k, g, hk, f, a, b, c => by
    obtain rfl : k = 64 := by omega
    have G := H.dz (f.mo (fun x q => Or.inr (Or.inl (by omega))))
    refine ⟨g, ⟨f, a, fun j s h1 h2 h3 => ?_⟩, ?_⟩
    · by_cases e : j = i
      · rw [e]
        exact c s h3
      · exact b j s (by omega) h2 h3
    · rw [S_Mkt_open_36 (XSk_M G.1.1), if_pos (by decide)]
  | n + 1, k, g, hk, f, a, b, c => by
    have G := H.dz (f.mo (fun x q => Or.inr (Or.inl (by omega))))
    have h8 := G.rp.ld
    have e1 := T_Mkt_fillMost (z := z) (d := d) (K := X + 92) (s := k) (pr := pr) (nx := rwT S.1 pr S.2.1 S.2.2.2 (i + 1)) (XSk_M G.1.1) G.sk G.rp hi (by omega) (a i (by omega) hi) (fun s hs => b (i + 1) s (by omega) (by omega) hs)
    rw [← rwT_u hi] at e1
    obtain ⟨g', M', e'⟩ := C_mk_s H hi n (k + 1) (zwI g (X + 94) (i * 64 + k) (rwT S.1 pr S.2.1 S.2.2.2 i k)) (by omega) (f.a (Or.inr rfl)) (fun j h1 h2 => by rw [zI_wb (by omega)]; exact a j h1 h2) (fun j s h1 h2 h3 => by rw [zI_wj (by omega)]; exact b j s h1 h2 h3) (fun s hs => by
      by_cases e : s = k
      · rw [e, zI_wa]
      · rw [zI_wj (by omega)]
        exact c s (by omega))
    refine ⟨g', M', ?_⟩
    rw [S_Mkt_open_36 (XSk_M G.1.1), if_neg (nI_ge (by omega) (by decide)), e1]
    simp only [zbd_i, tl_n, S_Mkt_open_51, nI_add]
    exact e'
theorem C_mk_l (H : CI z h X S ls Lo K0 A tl T ft) (w' : ∀ i, i < S.2.2.2 → prS S.1 i (zI h (X + 95) i) = pr i) : ∀ i g w4, i ≤ S.2.2.2 → MkF X h g pr S.1 S.2.1 S.2.2.2 i → ∃ g', MkF X h g' pr S.1 S.2.1 S.2.2.2 0 ∧ ev z d 38 15 [.ref (X + 92), .ref (X + 4), .ref (X + 95), .int (nI i + (-1)), w4] [] g = some (.inl none, g')
  | 0, g, w4, hi, M => by
    have G := H.dz (M.1.mo (fun x q => Or.inr (Or.inl (by omega))))
    refine ⟨g, M, ?_⟩
    rw [S_Mkt_open_15 (XSk_M G.1.1) G.sk (XSk_a12k G.1.1) (XSk_a12n G.1.1), if_pos (by decide)]
  | i + 1, g, w4, hi, M => by
    have G := H.dz (M.1.mo (fun x q => Or.inr (Or.inl (by omega))))
    have h8 := G.rp.ld
    have hi' : i < S.2.2.2 := by omega
    have ew : zI g (X + 95) i = zI h (X + 95) i := congrFun (M.1.i (by omega)) i
    have f1 : Fr (fun x => x = X + 93 ∨ x = X + 94) h (zwI g (X + 93) i (pr i)) := M.1.a (Or.inl rfl)
    have G1 := H.dz (f1.mo (fun x q => Or.inr (Or.inl (by omega))))
    obtain ⟨g1, M1, e1⟩ := C_mk_s (z := z) (d := d) (pr := pr) H hi' 64 0 (zwI g (X + 93) i (pr i)) (by omega) f1 (fun j h1 h2 => by
      by_cases e : j = i
      · rw [e, zI_wa]
      · rw [zI_wj e]
        exact M.2.1 j (by omega) h2) (fun j s h1 h2 h3 => by rw [zI_wb (by omega)]; exact M.2.2 j s h1 h2 h3) (fun s hs => by omega)
    obtain ⟨g', M', e'⟩ := C_mk_l H w' i g1 (.int (nI 64)) (by omega) M1
    refine ⟨g', M', ?_⟩
    rw [S_Mkt_open_15 (XSk_M G.1.1) G.sk (XSk_a12k G.1.1) (XSk_a12n G.1.1), ni_dn (by omega), if_neg (ni_nn (by omega)), ix_n (by omega) (by decide), T_Port_priceOf G.sk G.rp hi', ew, w' i hi']
    simp only [zbd_i, tl_s]
    rw [S_Mkt_open_32 (XSk_M G.1.1), ix_n (by omega) (by decide)]
    exact e1.trans e'
theorem C_open (H : CI z h X S ls Lo K0 A tl T ft) (w' : ∀ i, i < S.2.2.2 → prS S.1 i (zI h (X + 95) i) = pr i) : ∃ g', MkF X h g' pr S.1 S.2.1 S.2.2.2 0 ∧ ev z d 38 0 [.ref (X + 92), .ref (X + 4), .ref (X + 95), zu, zu] [] h = some (.inl none, g') := by
  have h8 := H.rp.ld
  obtain ⟨h2, f2, w2, e2⟩ := T_Arr_fill (z := z) (d := d) (v := nI 0) (h := h) (t := X + 92 + 2) (N := 576) (by decide) (MSk_a1k (XSk_M H.1.1)) (MSk_a1n (XSk_M H.1.1))
  have f3 : Fr (fun x => x = X + 93 ∨ x = X + 94) h h2 := f2.mo (fun x q => Or.inr (by omega))
  have G := H.dz (f3.mo (fun x q => Or.inr (Or.inl (by omega))))
  obtain ⟨g', M', e'⟩ := C_mk_l (z := z) (d := d) (pr := pr) H w' S.2.2.2 h2 zu (Nat.le_refl _) ⟨f3, fun j h1 h2 => by omega, fun j s h1 h2 h3 => by
    obtain rfl : j = S.2.2.2 := by omega
    rw [rwT_z]
    exact w2 _ (by omega)⟩
  refine ⟨g', M', ?_⟩
  rw [S_Mkt_open_0 (XSk_M H.1.1), e2]
  simp only [zbd_i, tl_n]
  rw [S_Mkt_open_8 G.sk, G.rp.cd, ← m1_sub]
  exact e'
theorem C_fb_l (H : CI z h X S ls Lo K0 A tl T ft) (M : MkF X g h pr S.1 S.2.1 S.2.2.2 0) (hi : i < S.2.2.2) (hs : s < 64) : ∀ n q, q + n = S.2.1 → ev z d 44 36 [.ref (X + 92), .ref (X + 4), .int (nI i), .int (nI s), .int (rwT S.1 pr S.2.1 S.2.2.2 i s), .int (nI q)] [] h = some (.inl (some (.int (ffr (fbS S.1 pr S.2.1 S.2.2.2 i s) n q))), h)
  | 0, q, hq => by
    have h6 := H.rp.lp
    obtain rfl : q = S.2.1 := by omega
    rw [S_Mkt_firstBuyer_36 (XSk_M H.1.1) H.sk, H.rp.cp, if_pos (nI_le (Nat.le_refl _) (by omega))]
    rfl
  | n + 1, q, hq => by
    have h6 := H.rp.lp
    have h8 := H.rp.ld
    have K1 := XSk_M H.1.1
    rw [S_Mkt_firstBuyer_36 K1 H.sk, H.rp.cp, if_neg (nI_ge (by omega) (by omega)), T_Mkt_mayBuy K1 H.sk H.rp (show q < S.2.1 by omega) hi (M.2.1 i (by omega) hi)]
    simp only [zbd_i, tl_s]
    rw [S_Mkt_firstBuyer_54 K1, chk0, nI_add, T_Mkt_sold (pr := pr) (nx := rwT S.1 pr S.2.1 S.2.2.2 (i + 1)) K1 (by omega) (by omega) hs (M.2.1 i (by omega) hi) (fun s hs => M.2.2 (i + 1) s (by omega) (by omega) hs)]
    simp only [zbd_i, tl_s, S_Mkt_firstBuyer_65, nI_add]
    rw [C_fb_l H M hi hs n (q + 1) (by omega), ffr_u]
    unfold fbS
    by_cases c1 : mbS S.1 pr i q s = true
    · rw [if_pos c1]
      by_cases c2 : slS pr (rwT S.1 pr S.2.1 S.2.2.2 (i + 1)) i s q = rwT S.1 pr S.2.1 S.2.2.2 i s
      · rw [if_pos c2, if_pos (by rw [c1, Bool.true_and, decide_eq_true_iff]; exact c2)]
      · rw [if_neg c2, if_neg (by rw [c1, Bool.true_and, decide_eq_true_iff]; exact c2)]
    · rw [if_neg c1, if_neg (by rw [Bool.and_eq_true]; exact fun q => c1 q.1)]
theorem C_bo_l (H : CI z h X S ls Lo K0 A tl T ft) (M : MkF X g h pr S.1 S.2.1 S.2.2.2 0) (hu : k < S.2.2.2) : ∀ n i, i + n = k + 1 → ev z d 43 8 [.ref (X + 92), .ref (X + 4), .int (nI k), .int (nI (byS S.1 pr S.2.1 S.2.2.2 i).1), .int (byS S.1 pr S.2.1 S.2.2.2 i).2, .int (nI i)] [] h = some (.inl (some (.int (byS S.1 pr S.2.1 S.2.2.2 (k + 1)).2)), h)
  | 0, i, hi => by
    have h8 := H.rp.ld
    obtain rfl : i = k + 1 := by omega
    rw [S_Mkt_buyerOf_8 (XSk_M H.1.1), if_pos (nI_lt (by omega) (by omega))]
  | n + 1, i, hi => by
    have h8 := H.rp.ld
    have h6 := H.rp.lp
    have K1 := XSk_M H.1.1
    have l := byS_l (P := S.1) (pr := pr) (np := S.2.1) (nd := S.2.2.2) h6 i (by omega)
    have ih := C_bo_l H M hu n (i + 1) (by omega)
    have fb : ev z d 44 0 [.ref (X + 92), .ref (X + 4), .int (nI i), .int (nI (byS S.1 pr S.2.1 S.2.2.2 i).1), zu, zu] [] h = some (.inl (some (.int (if rwT S.1 pr S.2.1 S.2.2.2 (i + 1) (byS S.1 pr S.2.1 S.2.2.2 i).1 = rwT S.1 pr S.2.1 S.2.2.2 i (byS S.1 pr S.2.1 S.2.2.2 i).1 then -1 else ffr (fbS S.1 pr S.2.1 S.2.2.2 i (byS S.1 pr S.2.1 S.2.2.2 i).1) S.2.1 0))), h) := by
      rw [S_Mkt_firstBuyer_0 K1, ix_row (by omega) l, ix_row1 (by omega) l, M.2.2 i _ (by omega) (by omega) l, M.2.2 (i + 1) _ (by omega) (by omega) l, C_fb_l H M (by omega) l S.2.1 0 (by omega)]
      split <;> rfl
    rw [S_Mkt_buyerOf_8 K1, if_neg (nI_nlt (by omega) (by omega)), fb]
    simp only [zbd_i, tl_s, S_Mkt_buyerOf_22, nI_add]
    rw [← ih, byS_u]
    by_cases c : rwT S.1 pr S.2.1 S.2.2.2 (i + 1) (byS S.1 pr S.2.1 S.2.2.2 i).1 = rwT S.1 pr S.2.1 S.2.2.2 i (byS S.1 pr S.2.1 S.2.2.2 i).1
    · rw [if_pos c, if_pos rfl, if_pos c]
    · rw [if_neg c, if_neg c]
      obtain ⟨j, hj, e⟩ := fbS_a (P := S.1) (pr := pr) (np := S.2.1) (nd := S.2.2.2) (show i < S.2.2.2 by omega) c
      rw [e, if_neg (nI_ne1 (by omega)), cN_nI (by omega), gN_or (a := 0) (by omega)]
theorem C_buyers (t : Tp h) (H : CI z h X S ls Lo K0 A tl T ft) (ok : OkA S ls K0 A) : CA z d h X Lo 137 [.ref X, .int v] [2] (buK S.2.2.2 v) (buV S.1 ls S.2.1 S.2.2.2 v) ((S, ls, Lo), K0, A, tl, T, ft) := by
  have h8 := H.rp.ld
  obtain ⟨h1, f1, w1, e1⟩ := C_fillWhens (z := z) (d := d) H ok (Or.inl rfl)
  have H1 := H.dz f1
  obtain ⟨h2, M, e2⟩ := C_open (z := z) (d := d) (pr := fun i => prS S.1 i (whS ls S.2.2.2 (nI 0) S.1 i)) H1 (fun i hi => by rw [w1 i hi])
  have f2 : Fr (Dz X Lo) h1 h2 := M.1.mo (fun x q => Or.inr (Or.inl (by omega)))
  have H2 := H1.dz f2
  have st : ev z d 137 15 [.ref X, .int v] [] h1 = ev z d 137 30 [.ref X, .int v] [] h2 := by
    rw [S_LI_buyers_15 H1.1.1, e2]
    simp only [zbd_i, tl_n]
  rw [S_LI_buyers_30 H2.1.1, S_Mkt_most_0 (XSk_M H2.1.1), show zI h2 (X + 92 + 2) 0 = rwT S.1 (fun i => prS S.1 i (whS ls S.2.2.2 (nI 0) S.1 i)) S.2.1 S.2.2.2 0 0 from M.2.2 0 0 (by omega) (by omega) (by decide)] at st
  simp only [zbd_i, tl_s, S_LI_buyers_42] at st
  unfold buK buV
  by_cases c1 : v = -1
  · rw [if_pos c1, if_pos c1]
    rw [if_pos c1] at st
    refine CA.dz H (f1.tr f2) ?_
    rw [S_LI_buyers_0 H.1.1, if_pos c1, e1]
    simp only [zbd_i, tl_n]
    exact st
  · rw [if_neg c1, if_neg c1]
    rw [if_neg c1] at st
    by_cases c2 : inR v S.2.2.2
    · rw [if_pos c2]
      refine CA.dz H (f1.tr f2) ?_
      rw [S_LI_buyers_0 H.1.1, if_neg c1, C_needDeed H, if_pos c2]
      simp only [zbd_i, tl_n]
      rw [S_LI_buyers_10 H.1.1, e1]
      simp only [zbd_i, tl_n]
      rw [st]
      obtain ⟨k, hk, rfl⟩ := (inR_iff (by omega)).mp c2
      rw [S_Mkt_buyerOf_0, cN_nI (by omega)]
      have e3 := C_bo_l (z := z) (d := d) H2 M hk (k + 1) 0 (by omega)
      refine (congrArg (fun x => zbd x _ _) e3).trans ?_
      simp only [zbd_i, tl_s, S_LI_buyers_57]
    · rw [if_neg c2]
      refine CA.x t H rfl ?_
      rw [S_LI_buyers_0 H.1.1, if_neg c1, C_needDeed H, if_neg c2]
      simp only [zbd_e]
      exact evx_nil rfl
end
