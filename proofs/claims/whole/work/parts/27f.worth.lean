/-! WORTH in both -/
def csS (P : Row) (ls : List LN) (v : Int32) : Nat → Int32
  | 0 => nI 0
  | k + 1 => if isB v (nI k) = true then csS P ls v k + cosS P ls k else csS P ls v k
def wvS (P : Row) (ls : List LN) (nd : Nat) (q v : Int32) : Int32 := netS P q (rdS P nd v) nd - csS P ls v nd
def woS (P : Row) (ls : List LN) (nd : Nat) (q w : Int32) : Nat → Int32 × Int32
  | 0 => (nI 0, netS P q (rdS P nd (nI 0)) nd)
  | r + 1 => if nI (r + 1) &&& (inS P (nI 0) nd ^^^ (-1)) = 0 then (if w < csS P ls (nI (r + 1)) nd then woS P ls nd q w r else if wvS P ls nd q (nI (r + 1)) ≤ (woS P ls nd q w r).2 then woS P ls nd q w r else (nI (r + 1), wvS P ls nd q (nI (r + 1)))) else woS P ls nd q w r
def woK (np : Nat) (v w : Int32) : Nat := if inR v np then (if inR w 1000 then 0 else 2) else 1
def woV (P : Row) (ls : List LN) (nd : Nat) (v w u : Int32) : Int32 := if u = 0 then (woS P ls nd v w 255).1 else (woS P ls nd v w 255).2
section
variable {z : ZE} {d : Nat} {h h' g : Hp} {X R p : Nat} {S S1 : PSt} {K : Option Img} {A : List PSt} {tl : Nat} {T : Row} {ft : Int32} {ls : List LN} {Lo : Option Nat} {P : Row} {np ni nd m k r : Nat} {as : List Value} {es : List Nat} {sp u v w b c q : Int32}
theorem csS_u : csS P ls v (k + 1) = if isB v (nI k) = true then csS P ls v k + cosS P ls k else csS P ls v k := rfl
theorem woS_u : woS P ls nd q w (r + 1) = if nI (r + 1) &&& (inS P (nI 0) nd ^^^ (-1)) = 0 then (if w < csS P ls (nI (r + 1)) nd then woS P ls nd q w r else if wvS P ls nd q (nI (r + 1)) ≤ (woS P ls nd q w r).2 then woS P ls nd q w r else (nI (r + 1), wvS P ls nd q (nI (r + 1)))) else woS P ls nd q w r := rfl
theorem inS_le {b : Nat} (hb : inS P (nI 0) nd = nI b) (hb2 : b < 256) (hr : r < 256) (c : nI r &&& (inS P (nI 0) nd ^^^ (-1)) = 0) : r ≤ b := by
  rw [hb, sub_iff, nI_and, nI_eq (Nat.lt_of_le_of_lt Nat.and_le_left (by omega)) (by omega)] at c
  rw [← c]
  exact Nat.and_le_right
theorem woS_e {b : Nat} (hb : inS P (nI 0) nd = nI b) (hb2 : b < 256) : ∀ n, b + n < 256 → woS P ls nd q w (b + n) = woS P ls nd q w b
  | 0, _ => rfl
  | n + 1, h => by
    rw [← woS_e hb hb2 n (by omega), show b + (n + 1) = b + n + 1 by omega, woS_u, if_neg (fun c => by have := inS_le hb hb2 (by omega) c; omega)]
theorem blk_n (h8 : nd ≤ 8) : ∃ b, inS P (nI 0) nd = nI b ∧ b < 256 := by
  refine ⟨_, inS_N nd (by omega), ?_⟩
  have := bsN_lt (fun k => P (45 + 12 * k + 10) = nI 0) nd
  have : 2 ^ nd ≤ 2 ^ 8 := Nat.pow_le_pow_right (by decide) h8
  omega
theorem C_fc_l (H : CI z h X S ls Lo K A tl T ft) (ok : OkA S ls K A) : ∀ n k g, k + n = S.2.2.2 → Fr (Dz X Lo) h g → (∀ i, i < k → zI g (X + 96) i = cosS S.1 ls i) → ∃ g', Fr (Dz X Lo) h g' ∧ (∀ i, i < S.2.2.2 → zI g' (X + 96) i = cosS S.1 ls i) ∧ ev z d 167 2 [.ref X, .int (nI k)] [] g = some (.inl none, g')
  | 0, k, g, hk, f, w => by
    have h8 := ok.1.1.1.2.2.2.2.2
    have G := H.dz f
    obtain rfl : k = S.2.2.2 := by omega
    refine ⟨g, f, w, ?_⟩
    rw [S_LI_fillCosts_2 G.1.1, G.rp.cd, if_pos (nI_le (Nat.le_refl _) (by omega))]
  | n + 1, k, g, hk, f, w => by
    have h8 := ok.1.1.1.2.2.2.2.2
    have G := H.dz f
    obtain ⟨h1, e1, f1⟩ := T_Port_costsOf (z := z) (d := d) (k := k) G.sk G.rp ok.1.1.2.2.2.2.2 (show k < S.2.2.2 by omega) G.2.1.2.1 G.2.1.2.2.1 G.2.1.2.2.2
    have f2 : Fr (Dz X Lo) h h1 := f.tr (f1.mo (fun x q => Az_D q))
    have G1 := H.dz f2
    have f3 : Fr (Dz X Lo) h (zwI h1 (X + 96) k (cosS S.1 ls k)) := f2.a (Or.inr (Or.inl (by omega)))
    have ns : ¬ Az (X + 4) Lo (X + 96) := by
      rintro (e | ⟨L, e, q⟩)
      · omega
      · have := H.1.2.2.1 L e
        omega
    obtain ⟨g', f', w', e'⟩ := C_fc_l H ok n (k + 1) (zwI h1 (X + 96) k (cosS S.1 ls k)) (by omega) f3 (by
      intro i hi
      by_cases e : i = k
      · rw [e, zI_wa]
      · rw [zI_wj e, f1.i ns]
        exact w i (by omega))
    refine ⟨g', f', w', ?_⟩
    rw [S_LI_fillCosts_2 G.1.1, G.rp.cd, if_neg (nI_ge (by omega) (by omega)), e1]
    simp only [zbd_i, tl_s]
    rw [S_LI_fillCosts_26 G1.1.1, ix_n (by omega) (by decide), nI_add]
    exact e'
theorem C_cs (H : CI z h X S ls Lo K A tl T ft) (h8 : S.2.2.2 ≤ 8) (w' : ∀ i, i < S.2.2.2 → zI h (X + 96) i = cosS S.1 ls i) : ev z d 168 0 [.ref X, .int v, zu, zu] [] h = some (.inl (some (.int (csS S.1 ls v S.2.2.2))), h) := by
  rw [S_LI_costsOfSet_0]
  refine (lp (E := fun k => ev z d 168 4 [.ref X, .int v, .int (csS S.1 ls v k), .int (nI k)] [] h) S.2.2.2 ?_).trans ?_
  · intro k hk
    rw [S_LI_costsOfSet_4 H.1.1, H.rp.cd, if_neg (nI_ge hk (by omega)), ix_n (by omega) (by decide), w' k hk, nI_add, csS_u]
    simp only [isB_d]
    split <;> rfl
  · rw [S_LI_costsOfSet_4 H.1.1, H.rp.cd, if_pos (nI_le (Nat.le_refl _) (by omega))]
theorem C_wo_l (H : CI z h X S ls Lo K A tl T ft) (ok : OkA S ls K A) (w' : ∀ i, i < S.2.2.2 → zI h (X + 96) i = cosS S.1 ls i) {b : Nat} (hb : inS S.1 (nI 0) S.2.2.2 = nI b) (hb2 : b < 256) : ∀ n r w8 w9, r + n = b → ev z d 127 62 [.ref X, .int v, .int w, .int u, .int (nI b), .int (woS S.1 ls S.2.2.2 v w r).1, .int (woS S.1 ls S.2.2.2 v w r).2, .int (nI (r + 1)), w8, w9] [] h = some (.inl (some (.int (if u = 0 then (woS S.1 ls S.2.2.2 v w b).1 else (woS S.1 ls S.2.2.2 v w b).2))), h)
  | 0, r, w8, w9, hr => by
    obtain rfl : r = b := by omega
    rw [S_LI_worth_62 H.1.1, if_pos (nI_lt (by omega) (by omega))]
    split <;> rfl
  | n + 1, r, w8, w9, hr => by
    have h8 := ok.1.1.1.2.2.2.2.2
    rw [S_LI_worth_62 H.1.1, if_neg (nI_nlt (by omega) (by omega)), C_cs H h8 w']
    simp only [zbd_i, tl_s]
    rw [S_LI_worth_75 H.1.1, nI_add, ← hb]
    by_cases c1 : nI (r + 1) &&& (inS S.1 (nI 0) S.2.2.2 ^^^ (-1)) = 0
    · rw [if_pos c1]
      by_cases c2 : w < csS S.1 ls (nI (r + 1)) S.2.2.2
      · have ih := C_wo_l H ok w' hb hb2 n (r + 1) (.int (csS S.1 ls (nI (r + 1)) S.2.2.2)) w9 (by omega)
        rw [woS_u, if_pos c1, if_pos c2, ← hb] at ih
        rw [if_pos c2, ih]
      · rw [if_neg c2, T_Port_readingOf H.sk H.rp]
        simp only [zbd_i, tl_s]
        rw [S_LI_worth_107 H.1.1, T_Port_netOf H.sk H.rp ok.1.1.2.1]
        simp only [zbd_i, tl_s, S_LI_worth_110, nI_add]
        have ih := C_wo_l H ok w' hb hb2 n (r + 1) (.int (csS S.1 ls (nI (r + 1)) S.2.2.2)) (.int (wvS S.1 ls S.2.2.2 v (nI (r + 1)))) (by omega)
        rw [woS_u, if_pos c1, if_neg c2, ← hb] at ih
        show (if wvS S.1 ls S.2.2.2 v (nI (r + 1)) ≤ _ then _ else _) = _
        by_cases c3 : wvS S.1 ls S.2.2.2 v (nI (r + 1)) ≤ (woS S.1 ls S.2.2.2 v w r).2
        · rw [if_pos c3] at ih ⊢
          exact ih
        · rw [if_neg c3] at ih ⊢
          exact ih
    · have ih := C_wo_l H ok w' hb hb2 n (r + 1) (.int (csS S.1 ls (nI (r + 1)) S.2.2.2)) w9 (by omega)
      rw [woS_u, if_neg c1, ← hb] at ih
      rw [if_neg c1, ih]
theorem C_worth (t : Tp h) (H : CI z h X S ls Lo K A tl T ft) (ok : OkA S ls K A) : CA z d h X Lo 127 [.ref X, .int v, .int w, .int u, zu, zu, zu, zu, zu, zu] [2, 0] (woK S.2.1 v w) (woV S.1 ls S.2.2.2 v w u) ((S, ls, Lo), K, A, tl, T, ft) := by
  have h8 := ok.1.1.1.2.2.2.2.2
  unfold woK
  by_cases c : inR v S.2.1
  · rw [if_pos c]
    have q1 : ev z d 127 0 [.ref X, .int v, .int w, .int u, zu, zu, zu, zu, zu, zu] [] h = ev z d 127 5 [.ref X, .int v, .int w, .int u, zu, zu, zu, zu, zu, zu] [] h := by
      rw [S_LI_worth_0 H.1.1, C_needParty H, if_pos c]
      simp only [zbd_i, tl_n]
    rw [S_LI_worth_5 H.1.1, lt_le (by decide)] at q1
    by_cases c2 : inR w 1000
    · rw [if_pos c2]
      rw [if_pos c2] at q1
      obtain ⟨g', f', w', e'⟩ := C_fc_l (z := z) (d := d) H ok S.2.2.2 0 h (by omega) Fr.rf (fun i hi => by omega)
      have G := H.dz f'
      refine CA.dz H f' ?_
      rw [q1, S_LI_fillCosts_0, e']
      simp only [zbd_i, tl_n]
      rw [S_LI_worth_28 G.1.1, T_Port_inState G.sk G.rp]
      simp only [zbd_i, tl_s]
      rw [S_LI_worth_36 G.1.1, T_Port_readingOf G.sk G.rp]
      simp only [zbd_i, tl_s]
      rw [S_LI_worth_54 G.1.1, T_Port_netOf G.sk G.rp ok.1.1.2.1]
      simp only [zbd_i, tl_s, S_LI_worth_57]
      obtain ⟨b, hb, hb2⟩ := blk_n (P := S.1) h8
      unfold woV
      rw [show 255 = b + (255 - b) by omega, woS_e hb hb2 _ (by omega), hb]
      exact C_wo_l G ok w' hb hb2 b 0 zu zu (by omega)
    · rw [if_neg c2]
      rw [if_neg c2] at q1
      exact CA.x t H rfl q1
  · rw [if_neg c]
    refine CA.x t H rfl ?_
    rw [S_LI_worth_0 H.1.1, C_needParty H, if_neg c]
    simp only [zbd_e]
    exact evx_nil rfl
/-! the reference -/
theorem T_M_co1 (hR : RSk h R) (hW : WA z h) (hi1 : zI h (R + 1) = P) (ok : Ok (P, np, ni, nd)) (hL : OkL P ls) (hk : k < nd) : ∃ h', ev z (d + 7) 224 0 [.ref R, .int (nI k)] [] h = some (.inl (some (.int (cosS P ls k))), h') ∧ RA R h h' := by
  obtain ⟨h', e, f⟩ := T_M_costsOf (z := z) (d := d) (P := P) (np := np) (ni := ni) (nd := nd) (k := k) hR hW ok.2.1 ok.2.2.2.2.2 ok.1.2.2.2.2.1 ok.1.2.2.2.2.2 hL hk
  have e1 : mH h R P = h := by
    rw [← hi1]
    exact mH_id
  have e2 : mH h' R P = h' := by
    rw [← hi1, ← f.1.i (show ¬ (R + 1 = R ∨ R + 1 = R + 6) by omega)]
    exact mH_id
  rw [e1, e2] at e
  exact ⟨h', e, f⟩
theorem T_M_ca_l (hR : RSk h R) (hW : WA z h) (hi1 : zI h (R + 1) = P) (ok : Ok (P, np, ni, nd)) (hL : OkL P ls) : ∀ n k g, k + n = nd → RA R h g → ∃ g', RA R h g' ∧ ev z (d + 7) 263 4 [.ref R, .int v, .int (csS P ls v k), .int (nI k)] [] g = some (.inl (some (.int (csS P ls v nd))), g')
  | 0, k, g, hk, f => by
    have h8 : nd ≤ 8 := ok.1.2.2.2.2.2
    obtain rfl : k = nd := by omega
    have i1 : zI g (R + 1) = P := (f.1.i (by omega)).trans hi1
    refine ⟨g, f, ?_⟩
    rw [S_M_costsOfAll_4 (RSk_fr f.1 hR), i1, show P 5 = nI k from ok.1.2.2.1, if_pos (nI_le (Nat.le_refl _) (by omega))]
  | n + 1, k, g, hk, f => by
    have h8 : nd ≤ 8 := ok.1.2.2.2.2.2
    have Rg : RSk g R := RSk_fr f.1 hR
    have i1 : zI g (R + 1) = P := (f.1.i (by omega)).trans hi1
    have st : ev z (d + 7) 263 4 [.ref R, .int v, .int (csS P ls v k), .int (nI k)] [] g = if isB v (nI k) = true then zbd (ev z (d + 7) 224 0 [.ref R, .int (nI k)] [] g) (fun x h' => ev z (d + 7) 263 28 [.ref R, .int v, .int (csS P ls v k), .int (nI k)] (x.toList ++ [.int (csS P ls v k)]) h') (fun e h' => evx z (d + 7) 263 25 [.ref R, .int v, .int (csS P ls v k), .int (nI k)] e h') else ev z (d + 7) 263 4 [.ref R, .int v, .int (csS P ls v k), .int (nI (k + 1))] [] g := by
      rw [S_M_costsOfAll_4 Rg, i1, show P 5 = nI nd from ok.1.2.2.1, if_neg (nI_ge (by omega) (by omega)), T_M_isOf]
      simp only [zbd_i, tl_s]
      rw [S_M_costsOfAll_20 Rg, chk0, nI_add, add_n0]
    rw [st]
    by_cases c : isB v (nI k) = true
    · obtain ⟨g1, e1, f1⟩ := T_M_co1 (z := z) (d := d) (ls := ls) Rg (hW.rz hR f.fz) i1 ok hL (show k < nd by omega)
      obtain ⟨g', f', e'⟩ := T_M_ca_l hR hW hi1 ok hL n (k + 1) g1 (by omega) (f.tr f1)
      refine ⟨g', f', ?_⟩
      rw [csS_u, if_pos c] at e'
      rw [if_pos c, e1]
      simp only [zbd_i, tl_s, S_M_costsOfAll_28, nI_add]
      exact e'
    · obtain ⟨g', f', e'⟩ := T_M_ca_l hR hW hi1 ok hL n (k + 1) g (by omega) f
      refine ⟨g', f', ?_⟩
      rw [csS_u, if_neg c] at e'
      rw [if_neg c]
      exact e'
theorem T_M_ca (hR : RSk h R) (hW : WA z h) (hi1 : zI h (R + 1) = P) (ok : Ok (P, np, ni, nd)) (hL : OkL P ls) : ∃ g', RA R h g' ∧ ev z (d + 7) 263 0 [.ref R, .int v, zu, zu] [] h = some (.inl (some (.int (csS P ls v nd))), g') := by
  rw [S_M_costsOfAll_0]
  exact T_M_ca_l hR hW hi1 ok hL nd 0 h (by omega) RA.rf
theorem R_wo_l (hR : RSk h R) (hW : WA z h) (hi1 : zI h (R + 1) = P) (ok : Ok (P, np, ni, nd)) (hL : OkL P ls) : ∀ n r g w7, r + n = 255 → RA R h g → ∃ g', RA R h g' ∧ ev z (d + 7) 264 55 [.ref R, .int v, .int w, .int u, .int (woS P ls nd v w r).1, .int (woS P ls nd v w r).2, .int (nI (r + 1)), w7] [] g = some (.inl (some (.int (woV P ls nd v w u))), g')
  | 0, r, g, w7, hr, f => by
    obtain rfl : r = 255 := by omega
    refine ⟨g, f, ?_⟩
    rw [S_M_worth_55 (RSk_fr f.1 hR), if_pos (by decide)]
    unfold woV
    split <;> rfl
  | n + 1, r, g, w7, hr, f => by
    have h8 : nd ≤ 8 := ok.1.2.2.2.2.2
    have Rg : RSk g R := RSk_fr f.1 hR
    have i1 : zI g (R + 1) = P := (f.1.i (by omega)).trans hi1
    have i5 : zI g (R + 1) 5 = nI nd := by rw [i1]; exact ok.1.2.2.1
    have st : ∀ w7, ev z (d + 7) 264 55 [.ref R, .int v, .int w, .int u, .int (woS P ls nd v w r).1, .int (woS P ls nd v w r).2, .int (nI (r + 1)), w7] [] g = if nI (r + 1) &&& (inS P (nI 0) nd ^^^ (-1)) = 0 then zbd (ev z (d + 7) 263 0 [.ref R, .int (nI (r + 1)), zu, zu] [] g) (fun x h' => ev z (d + 7) 264 82 [.ref R, .int v, .int w, .int u, .int (woS P ls nd v w r).1, .int (woS P ls nd v w r).2, .int (nI (r + 1)), w7] (x.toList ++ []) h') (fun e h' => evx z (d + 7) 264 79 [.ref R, .int v, .int w, .int u, .int (woS P ls nd v w r).1, .int (woS P ls nd v w r).2, .int (nI (r + 1)), w7] e h') else ev z (d + 7) 264 55 [.ref R, .int v, .int w, .int u, .int (woS P ls nd v w r).1, .int (woS P ls nd v w r).2, .int (nI (r + 2)), w7] [] g := by
      intro w7
      rw [S_M_worth_55 Rg, if_neg (nI_ge (by omega) (by decide)), T_M_inState Rg i5 h8, i1]
      simp only [zbd_i, tl_s]
      rw [S_M_worth_70 Rg, nI_add]
    rw [st]
    by_cases c1 : nI (r + 1) &&& (inS P (nI 0) nd ^^^ (-1)) = 0
    · obtain ⟨g1, f1, e1⟩ := T_M_ca (z := z) (d := d) (ls := ls) (v := nI (r + 1)) Rg (hW.rz hR f.fz) i1 ok hL
      have R1 : RSk g1 R := RSk_fr f1.1 Rg
      have F1 := f.tr f1
      have j1 : zI g1 (R + 1) = P := (f1.1.i (by omega)).trans i1
      rw [if_pos c1, e1]
      simp only [zbd_i, tl_s]
      rw [S_M_worth_82 R1]
      by_cases c2 : w < csS P ls (nI (r + 1)) nd
      · obtain ⟨g', f', e'⟩ := R_wo_l hR hW hi1 ok hL n (r + 1) g1 w7 (by omega) F1
        refine ⟨g', f', ?_⟩
        rw [woS_u, if_pos c1, if_pos c2] at e'
        rw [if_neg (fun x => Int32.not_le.mpr c2 x), nI_add]
        exact e'
      · rw [if_pos (Int32.not_lt.mp c2), T_M_netOf R1 (n := nd) (by rw [j1]; exact ok.1.2.2.1) h8, j1]
        simp only [zbd_i, tl_s]
        obtain ⟨g2, f2, e2⟩ := T_M_ca (z := z) (d := d) (ls := ls) (v := nI (r + 1)) R1 (hW.rz hR F1.fz) j1 ok hL
        obtain ⟨g', f', e'⟩ := R_wo_l hR hW hi1 ok hL n (r + 1) g2 (.int (wvS P ls nd v (nI (r + 1)))) (by omega) (F1.tr f2)
        refine ⟨g', f', ?_⟩
        rw [woS_u, if_pos c1, if_neg c2] at e'
        rw [S_M_worth_96 R1, e2]
        simp only [zbd_i, tl_s, S_M_worth_102, nI_add]
        show (if _ < wvS P ls nd v (nI (r + 1)) then _ else _) = _
        by_cases c3 : wvS P ls nd v (nI (r + 1)) ≤ (woS P ls nd v w r).2
        · rw [if_pos c3] at e'
          rw [if_neg (fun x => Int32.not_le.mpr x c3)]
          exact e'
        · rw [if_neg c3] at e'
          rw [if_pos (Int32.not_le.mp c3)]
          exact e'
    · obtain ⟨g', f', e'⟩ := R_wo_l hR hW hi1 ok hL n (r + 1) g w7 (by omega) f
      refine ⟨g', f', ?_⟩
      rw [woS_u, if_neg c1] at e'
      rw [if_neg c1]
      exact e'
theorem R_worth (W : WA z h) (H : RI h R S K A tl T ft) (ok : OkA S ls K A) : RB z (d + 7) h R 264 [.ref R, .int v, .int w, .int u, zu, zu, zu, zu] (woK S.2.1 v w) (woV S.1 ls S.2.2.2 v w u) ((S, ls, Lo), K, A, tl, T, ft) := by
  have h8 := ok.1.1.1.2.2.2.2.2
  have e99 : bI (isin w (nI 0) (nI 999)) = bI (inR w 1000) := bI_cg (isin_n (by decide))
  have q1 : ev z (d + 7) 264 0 [.ref R, .int v, .int w, .int u, zu, zu, zu, zu] [] h = ev z (d + 7) 264 6 [.ref R, .int v, .int w, .int u, zu, zu, zu, zu] [.int (bI (inR v S.2.1)), .ref R] h := by
    rw [S_M_worth_0 H.1.1, R_isParty H ok.1.1]
    simp only [zbd_i, tl_s]
  rw [S_M_worth_6 H.1.1, chk3, T_M_isIn, e99] at q1
  simp only [zbd_i, tl_s] at q1
  rw [S_M_worth_21 H.1.1, chk2] at q1
  unfold woK
  by_cases c : inR v S.2.1
  · rw [if_pos c]
    rw [if_pos c] at q1
    by_cases c2 : inR w 1000
    · rw [if_pos c2]
      rw [if_pos c2] at q1
      have G := H.w0 (v := nI 0)
      obtain ⟨g', f', e'⟩ := R_wo_l (z := z) (d := d) (P := S.1) (np := S.2.1) (ni := S.2.2.1) (nd := S.2.2.2) (v := v) (w := w) (u := u) G.1.1 (W.rz H.1.1 FZ0) G.i ok.1.1 ok.1.2.1 255 0 (zwI h R 0 (nI 0)) zu (by omega) RA.rf
      refine RB.q H (Rq.ra f') ?_
      rw [q1, T_M_netOf G.1.1 (n := S.2.2.2) (by rw [G.i]; exact ok.1.1.1.2.2.1) h8, G.i]
      simp only [zbd_i, tl_s, S_M_worth_50]
      exact e'
    · rw [if_neg c2]
      rw [if_neg c2] at q1
      exact RB.t H (by decide) q1
  · rw [if_neg c]
    rw [if_neg c] at q1
    exact RB.t H (by decide) q1
end
