/-! WHEN, DUE, WEALTH, AHEAD, TRIAL in both -/
section
variable {z : ZE} {d : Nat} {h h' g : Hp} {X R p : Nat} {S S1 : PSt} {K : Option Img} {A : List PSt} {tl : Nat} {T : Row} {ft : Int32} {ls : List LN} {Lo : Option Nat} {P : Row} {np ni nd m k : Nat} {as : List Value} {es : List Nat} {sp u v w : Int32}
theorem whS_f {i : Nat} : fpr (fbP ls nd sp P i 9 (-1)) 81 = whS ls nd sp P i := rfl
theorem Rq.fz (f : Rq R h h') : Fr (Rz R) h h' := f.1.1
/-- read-only for the reference, the answer's field said first -/
theorem RB.q (H : RI h R S K A tl T ft) (f : Rq R (zwI h R 0 (nI 0)) h') (e : ev z d m 0 as [] h = some (.inl (some (.int v)), h')) : RB z d h R m as 0 v ((S, ls, Lo), K, A, tl, T, ft) := ⟨h', v, e, FZ0.tr f.fz, f.2.trans zI_wa, fun _ => rfl, H.w0.q f⟩
theorem T_M_whenOf (hR : RSk h R) (hW : WA z h) (hi1 : zI h (R + 1) = P) (ok : Ok (P, np, ni, nd)) (hL : OkL P ls) (hsp : sp = nI 0 ∨ sp = nI 1) (h19 : zI h R 19 = sp) {i : Nat} (hi : i < 8) : ∃ h', ev z (d + 7) 252 0 [.ref R, .int (nI i)] [] h = some (.inl (some (.int (whS ls nd sp P i))), h') ∧ Rq R h h' := by
  obtain ⟨h', e, f⟩ := T_M_firstBy (z := z) (d := d) (w := -1) hR hW hi1 ok hL hsp h19 hi (show 9 < 12 by decide)
  refine ⟨h', ?_, f⟩
  rw [S_M_whenOf_0 hR, e]
  simp only [zbd_i, tl_s, S_M_whenOf_8, whS_f]
theorem C_when (t : Tp h) (H : CI z h X S ls Lo K A tl T ft) (ok : OkA S ls K A) : CA z d h X Lo 119 [.ref X, .int v] [2] (if inR v S.2.2.2 then 0 else 1) (whS ls S.2.2.2 (nI 0) S.1 (cN v)) ((S, ls, Lo), K, A, tl, T, ft) := by
  have h8 := ok.1.1.1.2.2.2.2.2
  by_cases c : inR v S.2.2.2
  · rw [if_pos c]
    obtain ⟨i, hi, rfl⟩ := (inR_iff (by omega)).mp c
    obtain ⟨h', f', w', e'⟩ := C_fillWhens (z := z) (d := d) H ok (Or.inl rfl)
    refine CA.dz H f' ?_
    rw [S_LI_when_0 H.1.1, C_needDeed H, if_pos c]
    simp only [zbd_i, tl_n]
    rw [S_LI_when_5 H.1.1, e']
    simp only [zbd_i, tl_n]
    rw [S_LI_when_10 (H.dz f').1.1, ix_n (by omega) (by decide), w' i hi, cN_nI (by omega)]
  · rw [if_neg c]
    refine CA.x t H rfl ?_
    rw [S_LI_when_0 H.1.1, C_needDeed H, if_neg c]
    simp only [zbd_e]
    exact evx_nil rfl
theorem R_when (W : WA z h) (H : RI h R S K A tl T ft) (ok : OkA S ls K A) : RB z (d + 7) h R 253 [.ref R, .int v] (if inR v S.2.2.2 then 0 else 1) (whS ls S.2.2.2 (nI 0) S.1 (cN v)) ((S, ls, Lo), K, A, tl, T, ft) := by
  have h8 := ok.1.1.1.2.2.2.2.2
  by_cases c : inR v S.2.2.2
  · rw [if_pos c]
    obtain ⟨i, hi, rfl⟩ := (inR_iff (by omega)).mp c
    have G := H.w0 (v := nI 0)
    obtain ⟨h', e', f'⟩ := T_M_whenOf (z := z) (d := d) (ls := ls) (P := S.1) (np := S.2.1) (ni := S.2.2.1) (nd := S.2.2.2) G.1.1 (W.rz H.1.1 FZ0) G.i ok.1.1 ok.1.2.1 (Or.inl rfl) G.1.2.2 (show i < 8 by omega)
    refine RB.q H f' ?_
    rw [S_M_when_0 H.1.1, R_isDeed H ok.1.1]
    simp only [zbd_i, tl_s]
    rw [S_M_when_6 H.1.1, chk, if_pos c, e', cN_nI (by omega)]
    simp only [zbd_i, tl_s, S_M_when_33]
  · rw [if_neg c]
    refine RB.t H (by decide) (w := nI 0) ?_
    rw [S_M_when_0 H.1.1, R_isDeed H ok.1.1]
    simp only [zbd_i, tl_s]
    rw [S_M_when_6 H.1.1, chk, if_neg c]
/-! DUE -/
def duS (ls : List LN) (nd : Nat) (P : Row) (i : Nat) : Int32 := fpr (fbP ls nd (nI 0) P i 11 (nI 0)) 81
theorem C_due_l (H : CI z h X S ls Lo K A tl T ft) (ok : Ok (P, np, ni, nd)) (hL : OkL P ls) {i : Nat} (hi : i < nd) : ∀ m n g, n + m = 81 → DR z h g X (sq ls nd (nI 0) P n) np ni nd Lo ls → fpr (fbP ls nd (nI 0) P i 11 (nI 0)) n = -1 → ∃ g', Fr (Dz X Lo) h g' ∧ ev z d 120 18 [.ref X, .int (nI i), .int (nI n)] [] g = some (.inl (some (.int (duS ls nd P i))), g')
  | 0, n, g, hk, D, hw => by
    obtain rfl : n = 81 := by omega
    refine ⟨g, D.1, ?_⟩
    unfold duS
    rw [S_LI_due_18 (D.x H), if_pos (by decide), hw]
  | m + 1, n, g, hk, D, hw => by
    have h8 := D.2.1.ld
    obtain ⟨a, b, -⟩ := goN_ok (np := np) (ni := ni) ok hL (Or.inl rfl) n
    have dk := D.2.1.2.1.deed hi (show 11 < 12 by decide)
    rw [S_LI_due_18 (D.x H), if_neg (nI_nlt (by omega) (by decide)), ix_n (by omega) (by decide), dk]
    by_cases c : sq ls nd (nI 0) P n (45 + 12 * i + 11) = 0
    · rw [if_pos c]
      obtain ⟨g1, D1, -, e1⟩ := D.pass (d := d) (sp := nI 0) a b (Or.inl rfl)
      rw [e1]
      simp only [zbd_i, tl_s, S_LI_due_49, nI_add]
      exact C_due_l H ok hL hi m (n + 1) g1 (by omega) D1 ((fpr_f (by unfold fbP; simp only [decide_eq_true_eq]; exact fun q => q c)).trans hw)
    · rw [if_neg c]
      refine ⟨g, D.1, ?_⟩
      have e := fpr_p (p := fbP ls nd (nI 0) P i 11 (nI 0)) hw (by unfold fbP; simp only [decide_eq_true_eq]; exact c)
      have e2 := fpr_s (p := fbP ls nd (nI 0) P i 11 (nI 0)) (n := n + 1) (by rw [e]; exact nI_ne1 (by omega)) m
      rw [show n + 1 + m = 81 by omega, e] at e2
      unfold duS
      rw [e2]
theorem C_due (t : Tp h) (H : CI z h X S ls Lo K A tl T ft) (ok : OkA S ls K A) : CA z d h X Lo 120 [.ref X, .int v, zu] [2] (if inR v S.2.2.2 then 0 else 1) (duS ls S.2.2.2 S.1 (cN v)) ((S, ls, Lo), K, A, tl, T, ft) := by
  have h8 := ok.1.1.1.2.2.2.2.2
  by_cases c : inR v S.2.2.2
  · rw [if_pos c]
    obtain ⟨i, hi, rfl⟩ := (inR_iff (by omega)).mp c
    obtain ⟨h1, e1, f1, G1⟩ := C_draft (z := z) (d := d) H ok.1.1
    obtain ⟨g', f', e'⟩ := C_due_l (z := z) (d := d) H (P := S.1) (np := S.2.1) (ni := S.2.2.1) (nd := S.2.2.2) ok.1.1 ok.1.2.1 hi 81 0 h1 (by omega) ⟨f1, G1⟩ rfl
    refine CA.dz H f' ?_
    rw [S_LI_due_0 H.1.1, C_needDeed H, if_pos c]
    simp only [zbd_i, tl_n]
    rw [S_LI_due_5 H.1.1, e1]
    simp only [zbd_i, tl_n]
    rw [S_LI_due_16, cN_nI (by omega)]
    exact e'
  · rw [if_neg c]
    refine CA.x t H rfl ?_
    rw [S_LI_due_0 H.1.1, C_needDeed H, if_neg c]
    simp only [zbd_e]
    exact evx_nil rfl
theorem R_due (W : WA z h) (H : RI h R S K A tl T ft) (ok : OkA S ls K A) : RB z (d + 7) h R 254 [.ref R, .int v] (if inR v S.2.2.2 then 0 else 1) (duS ls S.2.2.2 S.1 (cN v)) ((S, ls, Lo), K, A, tl, T, ft) := by
  have h8 := ok.1.1.1.2.2.2.2.2
  by_cases c : inR v S.2.2.2
  · rw [if_pos c]
    obtain ⟨i, hi, rfl⟩ := (inR_iff (by omega)).mp c
    have G := H.w0 (v := nI 0)
    obtain ⟨h', e', f'⟩ := T_M_firstBy (z := z) (d := d) (w := nI 0) (ls := ls) (P := S.1) (np := S.2.1) (ni := S.2.2.1) (nd := S.2.2.2) G.1.1 (W.rz H.1.1 FZ0) G.i ok.1.1 ok.1.2.1 (Or.inl rfl) G.1.2.2 (show i < 8 by omega) (show 11 < 12 by decide)
    refine RB.q H f' ?_
    rw [S_M_due_0 H.1.1, R_isDeed H ok.1.1]
    simp only [zbd_i, tl_s]
    rw [S_M_due_6 H.1.1, chk, if_pos c, e', cN_nI (by omega)]
    simp only [zbd_i, tl_s, S_M_due_36]
    rfl
  · rw [if_neg c]
    refine RB.t H (by decide) (w := nI 0) ?_
    rw [S_M_due_0 H.1.1, R_isDeed H ok.1.1]
    simp only [zbd_i, tl_s]
    rw [S_M_due_6 H.1.1, chk, if_neg c]
/-! n seasons ahead, by the reference -/
theorem T_M_gon (hR : RSk h R) (hW : WA z h) (hi1 : zI h (R + 1) = P) (ok : Ok (P, np, ni, nd)) (hL : OkL P ls) (h19 : zI h R 19 = nI 0) {N : Nat} (hN : N ≤ 80) : ∃ g0 g', ev z (d + 7) 211 0 [.ref R, zu] [] h = some (.inl none, g0) ∧ RSk g0 R ∧ ev z (d + 7) 230 0 [.ref R, .int (nI N), .int (nI 0), zu, zu] [] g0 = some (.inl (some (.int (goS (stF ls nd (nI 0)) P N).2)), mH g' R (sq ls nd (nI 0) P N)) ∧ RSk g' R ∧ ev z (d + 7) 212 0 [.ref R, zu] [] (mH g' R (sq ls nd (nI 0) P N)) = some (.inl none, g') ∧ Rq R h g' := by
  obtain ⟨g0, e0, q0, s0, r0, a0, z0⟩ := T_M_pa (z := z) (d := d + 7) hR
  have W0 : WA z g0 := hW.rz hR q0.1.1
  obtain ⟨g', f', e'⟩ := T_M_goes_n (z := z) (d := d) (P := P) (np := np) (ni := ni) (nd := nd) (ls := ls) s0 W0 ok hL (Or.inl rfl) ((congrFun z0 19).trans h19) (N := N) (by omega)
  obtain ⟨-, -, q⟩ := goN_ok (np := np) (ni := ni) ok hL (Or.inl rfl) N
  have e1 : mH g0 R P = g0 := by
    rw [← hi1, ← r0]
    exact mH_id
  rw [e1] at e'
  have a1 : zI g' (R + 3) = cp P (zI h (R + 3)) 0 381 := by
    rw [f'.1.i (by omega), a0, hi1]
  have i1 : zI g' (R + 1) = P := by
    rw [f'.1.i (by omega), r0, hi1]
  have e2 := T_M_cb (z := z) (d := d + 7) (RSk_fr f'.1 s0) a1 (Q := sq ls nd (nI 0) P N) (fun j hj => q j (by omega))
  have e3 : mH g' R P = g' := by
    rw [← i1]
    exact mH_id
  rw [e3] at e2
  exact ⟨g0, g', e0, s0, e', RSk_fr f'.1 s0, e2, q0.tr (Rq.ra f')⟩
theorem T_M_god (hR : RSk h R) (hW : WA z h) (hi1 : zI h (R + 1) = P) (ok : Ok (P, np, ni, nd)) (hL : OkL P ls) {N : Nat} (hN : N ≤ 80) : ∃ g0 g', ev z (d + 7) 211 0 [.ref R, zu] [] h = some (.inl none, g0) ∧ RSk g0 R ∧ ev z (d + 7) 230 0 [.ref R, .int (nI N), .int (nI 1), zu, zu] [] g0 = some (.inl (some (.int (goS (psD ls nd) P N).2)), mH g' R (sd ls nd P N)) ∧ RSk g' R ∧ ev z (d + 7) 212 0 [.ref R, zu] [] (mH g' R (sd ls nd P N)) = some (.inl none, g') ∧ Rq R h g' := by
  obtain ⟨g0, e0, q0, s0, r0, a0, z0⟩ := T_M_pa (z := z) (d := d + 7) hR
  have W0 : WA z g0 := hW.rz hR q0.1.1
  obtain ⟨g', f', e'⟩ := T_M_goes_d (z := z) (d := d) (P := P) (np := np) (ni := ni) (nd := nd) (ls := ls) s0 W0 ok hL (N := N) (by omega)
  obtain ⟨-, -, q⟩ := goD_ok (np := np) (ni := ni) ok hL N
  have e1 : mH g0 R P = g0 := by
    rw [← hi1, ← r0]
    exact mH_id
  rw [e1] at e'
  have a1 : zI g' (R + 3) = cp P (zI h (R + 3)) 0 381 := by
    rw [f'.1.i (by omega), a0, hi1]
  have i1 : zI g' (R + 1) = P := by
    rw [f'.1.i (by omega), r0, hi1]
  have e2 := T_M_cb (z := z) (d := d + 7) (RSk_fr f'.1 s0) a1 (Q := sd ls nd P N) (fun j hj => q j (by omega))
  have e3 : mH g' R P = g' := by
    rw [← i1]
    exact mH_id
  rw [e3] at e2
  exact ⟨g0, g', e0, s0, e', RSk_fr f'.1 s0, e2, q0.tr (Rq.ra f')⟩
theorem C_needSpan : ev z d 159 0 [.int v] [] h = if inR v 81 then some (.inl none, h) else some (.inr 0, znw h 0 6) := by
  rw [S_LI_needSpan_0, lt_le (by decide)]
/-! WEALTH -/
def weK (np : Nat) (v w : Int32) : Nat := if inR v np then (if inR w 81 then 0 else 2) else 1
def weV (ls : List LN) (nd : Nat) (P : Row) (v w : Int32) : Int32 := sq ls nd (nI 0) P (cN w) (15 + 2 * cN v + 0)
theorem C_wealth (t : Tp h) (H : CI z h X S ls Lo K A tl T ft) (ok : OkA S ls K A) : CA z d h X Lo 122 [.ref X, .int v, .int w] [2, 0] (weK S.2.1 v w) (weV ls S.2.2.2 S.1 v w) ((S, ls, Lo), K, A, tl, T, ft) := by
  have h6 := ok.1.1.1.2.2.2.1
  unfold weK weV
  by_cases c : inR v S.2.1
  · rw [if_pos c]
    obtain ⟨i, hi, rfl⟩ := (inR_iff (by omega)).mp c
    by_cases c2 : inR w 81
    · rw [if_pos c2]
      obtain ⟨n, hn, rfl⟩ := (inR_iff (by decide)).mp c2
      obtain ⟨g', D', e'⟩ := C_goAhead (z := z) (d := d) H ok (N := n) (by omega)
      refine CA.dz H D'.1 ?_
      rw [S_LI_wealth_0 H.1.1, C_needParty H, if_pos c]
      simp only [zbd_i, tl_n]
      rw [S_LI_wealth_5, C_needSpan, if_pos c2]
      simp only [zbd_i, tl_n]
      rw [S_LI_wealth_9 H.1.1, e']
      simp only [zbd_i, tl_n]
      rw [S_LI_wealth_14 (D'.x H), ix_n (by omega) (by decide), D'.2.1.2.1.party hi (by decide), cN_nI (by omega), cN_nI (by omega)]
    · rw [if_neg c2]
      refine CA.x t H rfl ?_
      rw [S_LI_wealth_0 H.1.1, C_needParty H, if_pos c]
      simp only [zbd_i, tl_n]
      rw [S_LI_wealth_5, C_needSpan, if_neg c2]
      simp only [zbd_e]
      exact evx_nil rfl
  · rw [if_neg c]
    refine CA.x t H rfl ?_
    rw [S_LI_wealth_0 H.1.1, C_needParty H, if_neg c]
    simp only [zbd_e]
    exact evx_nil rfl
theorem R_wealth (W : WA z h) (H : RI h R S K A tl T ft) (ok : OkA S ls K A) : RB z (d + 7) h R 257 [.ref R, .int v, .int w, zu, zu] (weK S.2.1 v w) (weV ls S.2.2.2 S.1 v w) ((S, ls, Lo), K, A, tl, T, ft) := by
  have h6 := ok.1.1.1.2.2.2.1
  have e81 : bI (isin w (nI 0) (nI 80)) = bI (inR w 81) := bI_cg (isin_n (by decide))
  unfold weK weV
  by_cases c : inR v S.2.1
  · rw [if_pos c]
    obtain ⟨i, hi, rfl⟩ := (inR_iff (by omega)).mp c
    have st : ev z (d + 7) 257 0 [.ref R, .int (nI i), .int w, zu, zu] [] h = ev z (d + 7) 257 20 [.ref R, .int (nI i), .int w, zu, zu] [.int (bI (inR w 81)), .ref R] h := by
      rw [S_M_wealth_0 H.1.1, R_isParty H ok.1.1]
      simp only [zbd_i, tl_s]
      rw [S_M_wealth_6 H.1.1, chk3, if_pos c, T_M_isIn, e81]
      simp only [zbd_i, tl_s]
    by_cases c2 : inR w 81
    · rw [if_pos c2]
      obtain ⟨n, hn, rfl⟩ := (inR_iff (by decide)).mp c2
      have G := H.w0 (v := nI 0)
      obtain ⟨g0, g', e0, s0, e1, s1, e2, q⟩ := T_M_gon (z := z) (d := d) (ls := ls) (P := S.1) (np := S.2.1) (ni := S.2.2.1) (nd := S.2.2.2) G.1.1 (W.rz H.1.1 FZ0) G.i ok.1.1 ok.1.2.1 G.1.2.2 (N := n) (by omega)
      refine RB.q H q ?_
      rw [st, S_M_wealth_20 H.1.1, chk2, if_pos c2, e0]
      simp only [zbd_i, tl_n]
      rw [S_M_wealth_44 s0, e1]
      simp only [zbd_i, tl_s]
      rw [S_M_wealth_50 (mr s1) rfl, T_M_coins2 s1 (by omega)]
      simp only [zbd_i, tl_s]
      rw [S_M_wealth_56 (mr s1) rfl, e2]
      simp only [zbd_i, tl_n, S_M_wealth_62]
      rw [cN_nI (by omega), cN_nI (by omega)]
    · rw [if_neg c2]
      refine RB.t H (by decide) (w := nI 0) ?_
      rw [st, S_M_wealth_20 H.1.1, chk2, if_neg c2]
  · rw [if_neg c]
    refine RB.t H (by decide) (w := nI 0) ?_
    rw [S_M_wealth_0 H.1.1, R_isParty H ok.1.1]
    simp only [zbd_i, tl_s]
    rw [S_M_wealth_6 H.1.1, chk3, if_neg c]
/-! AHEAD -/
def ahK (nd : Nat) (v w u : Int32) : Nat := if inR v nd then (if inR w 81 then (if inR u 3 then 0 else 3) else 2) else 1
def ahC (u : Nat) : Nat := match u with
  | 0 => 8
  | 1 => 10
  | _ => 11
def ahV (ls : List LN) (nd : Nat) (P : Row) (v w u : Int32) : Int32 := sq ls nd (nI 0) P (cN w) (45 + 12 * cN v + ahC (cN u))
theorem C_ahead (t : Tp h) (H : CI z h X S ls Lo K A tl T ft) (ok : OkA S ls K A) : CA z d h X Lo 144 [.ref X, .int v, .int w, .int u, zu] [2, 0, 4] (ahK S.2.2.2 v w u) (ahV ls S.2.2.2 S.1 v w u) ((S, ls, Lo), K, A, tl, T, ft) := by
  have h8 := ok.1.1.1.2.2.2.2.2
  unfold ahK ahV
  by_cases c : inR v S.2.2.2
  · rw [if_pos c]
    obtain ⟨i, hi, rfl⟩ := (inR_iff (by omega)).mp c
    by_cases c2 : inR w 81
    · rw [if_pos c2]
      obtain ⟨n, hn, rfl⟩ := (inR_iff (by decide)).mp c2
      have st : ev z d 144 0 [.ref X, .int (nI i), .int (nI n), .int u, zu] [] h = ev z d 144 9 [.ref X, .int (nI i), .int (nI n), .int u, zu] [] h := by
        rw [S_LI_ahead_0 H.1.1, C_needDeed H, if_pos c]
        simp only [zbd_i, tl_n]
        rw [S_LI_ahead_5, C_needSpan, if_pos c2]
        simp only [zbd_i, tl_n]
      by_cases c3 : inR u 3
      · rw [if_pos c3]
        obtain ⟨j, hj, rfl⟩ := (inR_iff (by decide)).mp c3
        obtain ⟨g', D', e'⟩ := C_goAhead (z := z) (d := d) H ok (N := n) (by omega)
        obtain ⟨o, -, -⟩ := goN_ok (P := S.1) (np := S.2.1) (ni := S.2.2.1) (nd := S.2.2.2) (ls := ls) ok.1.1 ok.1.2.1 (Or.inl rfl : nI 0 = nI 0 ∨ nI 0 = nI 1) n
        refine CA.dz H D'.1 ?_
        rw [st, S_LI_ahead_9 H.1.1, lt_le (by decide), if_pos c3, e']
        simp only [zbd_i, tl_n]
        rw [S_LI_ahead_31 (D'.x H), ix_n (by omega) (by decide), cN_nI (by omega), cN_nI (by omega), cN_nI (by omega), D'.2.1.2.1.deed hi (by decide), D'.2.1.2.1.deed hi (by decide), D'.2.1.2.1.deed hi (by decide)]
        rcases (by omega : j = 0 ∨ j = 1 ∨ j = 2) with r | r | r <;> subst r
        · rw [if_pos (by decide)]
          rfl
        · rw [if_neg (by decide), if_pos (by decide)]
          rfl
        · rw [if_neg (by decide), if_neg (by decide)]
          show _ = some (Sum.inl (some (Value.int (sq ls S.2.2.2 (nI 0) S.1 n (45 + 12 * i + 11)))), g')
          rcases (o.2.1 i hi).2.2.2.2.2 with e | e
          · have e' : sq ls S.2.2.2 (nI 0) S.1 n (45 + 12 * i + 11) = nI 0 := e
            rw [e', if_pos (by decide)]
          · have e' : sq ls S.2.2.2 (nI 0) S.1 n (45 + 12 * i + 11) = nI 1 := e
            rw [e', if_neg (by decide)]
      · rw [if_neg c3]
        refine CA.x t H rfl ?_
        rw [st, S_LI_ahead_9 H.1.1, lt_le (by decide), if_neg c3]
        rfl
    · rw [if_neg c2]
      refine CA.x t H rfl ?_
      rw [S_LI_ahead_0 H.1.1, C_needDeed H, if_pos c]
      simp only [zbd_i, tl_n]
      rw [S_LI_ahead_5, C_needSpan, if_neg c2]
      simp only [zbd_e]
      exact evx_nil rfl
  · rw [if_neg c]
    refine CA.x t H rfl ?_
    rw [S_LI_ahead_0 H.1.1, C_needDeed H, if_neg c]
    simp only [zbd_e]
    exact evx_nil rfl
theorem chk5 {c : Prop} [Decidable c] {A B C D : Option (zO × Hp)} : (if bI c = 0 then (if nI 3 ≤ 0 then A else C) else (if nI 0 ≤ 0 then B else D)) = if c then B else C := by
  by_cases hc : c
  · rw [if_neg (by rw [bI_0]; exact fun q => q hc), if_pos (by decide), if_pos hc]
  · rw [if_pos (by rw [bI_0]; exact hc), if_neg (by decide), if_neg hc]
theorem R_ahead (W : WA z h) (H : RI h R S K A tl T ft) (ok : OkA S ls K A) : RB z (d + 7) h R 292 [.ref R, .int v, .int w, .int u, zu, zu] (ahK S.2.2.2 v w u) (ahV ls S.2.2.2 S.1 v w u) ((S, ls, Lo), K, A, tl, T, ft) := by
  have h8 := ok.1.1.1.2.2.2.2.2
  have e81 : bI (isin w (nI 0) (nI 80)) = bI (inR w 81) := bI_cg (isin_n (by decide))
  have e3 : bI (isin u (nI 0) (nI 2)) = bI (inR u 3) := bI_cg (isin_n (by decide))
  unfold ahK ahV
  by_cases c : inR v S.2.2.2
  · rw [if_pos c]
    obtain ⟨i, hi, rfl⟩ := (inR_iff (by omega)).mp c
    have st : ev z (d + 7) 292 0 [.ref R, .int (nI i), .int w, .int u, zu, zu] [] h = ev z (d + 7) 292 20 [.ref R, .int (nI i), .int w, .int u, zu, zu] [.int (bI (inR w 81)), .ref R] h := by
      rw [S_M_ahead_0 H.1.1, R_isDeed H ok.1.1]
      simp only [zbd_i, tl_s]
      rw [S_M_ahead_6 H.1.1, chk3, if_pos c, T_M_isIn, e81]
      simp only [zbd_i, tl_s]
    by_cases c2 : inR w 81
    · rw [if_pos c2]
      have st2 : ev z (d + 7) 292 0 [.ref R, .int (nI i), .int w, .int u, zu, zu] [] h = ev z (d + 7) 292 33 [.ref R, .int (nI i), .int w, .int u, zu, zu] [.int (bI (inR u 3)), .ref R] h := by
        rw [st, S_M_ahead_20 H.1.1, chk4, if_pos c2, T_M_isIn, e3]
        simp only [zbd_i, tl_s]
      obtain ⟨n, hn, rfl⟩ := (inR_iff (by decide)).mp c2
      by_cases c3 : inR u 3
      · rw [if_pos c3]
        obtain ⟨j, hj, rfl⟩ := (inR_iff (by decide)).mp c3
        have G := H.w0 (v := nI 0)
        obtain ⟨g0, g', e0, s0, e1, s1, e2, q⟩ := T_M_gon (z := z) (d := d) (ls := ls) (P := S.1) (np := S.2.1) (ni := S.2.2.1) (nd := S.2.2.2) G.1.1 (W.rz H.1.1 FZ0) G.i ok.1.1 ok.1.2.1 G.1.2.2 (N := n) (by omega)
        refine RB.q H q ?_
        rw [st2, S_M_ahead_33 H.1.1, chk5, if_pos c3, e0]
        simp only [zbd_i, tl_n]
        rw [S_M_ahead_57 s0, e1]
        simp only [zbd_i, tl_s]
        have q1 : ∀ {F : Option Value → Hp → Option (zO × Hp)} {E : Nat → Hp → Option (zO × Hp)} {x : Nat}, x < 12 → zbd (ev z (d + 7) 179 0 [.ref R, .int (nI i), .int (nI x)] [] (mH g' R (sq ls S.2.2.2 (nI 0) S.1 n))) F E = F (some (.int (sq ls S.2.2.2 (nI 0) S.1 n (45 + 12 * i + x)))) (mH g' R (sq ls S.2.2.2 (nI 0) S.1 n)) := by
          intro F E x hx
          rw [T_M_of2 s1 (by omega)]
          rfl
        rw [S_M_ahead_63 (mr s1), q1 (by decide), q1 (by decide), q1 (by decide), cN_nI (by omega), cN_nI (by omega), cN_nI (by omega)]
        simp only [tl_s]
        have fin : ∀ {y : Int32} {w4 : Value}, zisL w4 = false → ev z (d + 7) 292 91 [.ref R, .int (nI i), .int (nI n), .int (nI j), w4, zu] [.int y] (mH g' R (sq ls S.2.2.2 (nI 0) S.1 n)) = some (.inl (some (.int y)), g') := by
          intro y w4 hw
          rw [S_M_ahead_91 (mr s1) hw, e2]
          simp only [zbd_i, tl_n, S_M_ahead_97]
        rcases (by omega : j = 0 ∨ j = 1 ∨ j = 2) with r | r | r <;> subst r
        · rw [if_pos (by decide), fin rfl]
          rfl
        · rw [if_neg (by decide), if_pos (by decide), fin rfl]
          rfl
        · rw [if_neg (by decide), if_neg (by decide), fin rfl]
          rfl
      · rw [if_neg c3]
        refine RB.t H (by decide) (w := nI 0) ?_
        rw [st2, S_M_ahead_33 H.1.1, chk5, if_neg c3]
    · rw [if_neg c2]
      refine RB.t H (by decide) (w := nI 0) ?_
      rw [st, S_M_ahead_20 H.1.1, chk4, if_neg c2]
  · rw [if_neg c]
    refine RB.t H (by decide) (w := nI 0) ?_
    rw [S_M_ahead_0 H.1.1, R_isDeed H ok.1.1]
    simp only [zbd_i, tl_s]
    rw [S_M_ahead_6 H.1.1, chk3, if_neg c]
/-! TRIAL -/
theorem up_id {k : Nat} : up P k (P k) = P := up_cg (fun i => by
  unfold up
  by_cases c : i = k
  · rw [if_pos c, c]
  · rw [if_neg c])
def trV (ls : List LN) (np nd : Nat) (P : Row) (v w : Int32) : Int32 := if w = 0 then inS (sd ls nd P (cN v)) (nI 1) nd else brkS (sd ls nd P (cN v)) np
theorem C_trial (t : Tp h) (H : CI z h X S ls Lo K A tl T ft) (ok : OkA S ls K A) : CA z d h X Lo 145 [.ref X, .int v, .int w] [0] (if inR v 81 then 0 else 1) (trV ls S.2.1 S.2.2.2 S.1 v w) ((S, ls, Lo), K, A, tl, T, ft) := by
  unfold trV
  by_cases c : inR v 81
  · rw [if_pos c]
    obtain ⟨n, hn, rfl⟩ := (inR_iff (by decide)).mp c
    obtain ⟨g', D', e'⟩ := C_tryOut (z := z) (d := d) H ok (N := n) (by omega) (w := S.1 10)
    rw [up_id] at D'
    obtain ⟨o, -, -⟩ := goD_ok (P := S.1) (np := S.2.1) (ni := S.2.2.1) (nd := S.2.2.2) (ls := ls) ok.1.1 ok.1.2.1 n
    refine CA.dz H D'.1 ?_
    rw [S_LI_trial_0, C_needSpan, if_pos c]
    simp only [zbd_i, tl_n]
    rw [S_LI_trial_4 H.1.1, H.rp.seed, e']
    simp only [zbd_i, tl_n]
    rw [S_LI_trial_16 (D'.x H), cN_nI (by omega)]
    by_cases c2 : w = 0
    · rw [if_pos c2, if_pos c2, T_Port_inState D'.2.1.1 D'.2.1.2.1]
      simp only [zbd_i, tl_s, S_LI_trial_38]
    · rw [if_neg c2, if_neg c2, T_Port_brokeParties D'.2.1.1 D'.2.1.2.1 o.2.2.2.1]
      simp only [zbd_i, tl_s, S_LI_trial_27]
  · rw [if_neg c]
    refine CA.x t H rfl ?_
    rw [S_LI_trial_0, C_needSpan, if_neg c]
    simp only [zbd_e]
    exact evx_nil rfl
theorem R_trial (W : WA z h) (H : RI h R S K A tl T ft) (ok : OkA S ls K A) : RB z (d + 7) h R 294 [.ref R, .int v, .int w, zu, zu] (if inR v 81 then 0 else 1) (trV ls S.2.1 S.2.2.2 S.1 v w) ((S, ls, Lo), K, A, tl, T, ft) := by
  have e81 : bI (isin v (nI 0) (nI 80)) = bI (inR v 81) := bI_cg (isin_n (by decide))
  unfold trV
  by_cases c : inR v 81
  · rw [if_pos c]
    obtain ⟨n, hn, rfl⟩ := (inR_iff (by decide)).mp c
    have G := H.w0 (v := nI 0)
    obtain ⟨g0, g', e0, s0, e1, s1, e2, q⟩ := T_M_god (z := z) (d := d) (ls := ls) (P := S.1) (np := S.2.1) (ni := S.2.2.1) (nd := S.2.2.2) G.1.1 (W.rz H.1.1 FZ0) G.i ok.1.1 ok.1.2.1 (N := n) (by omega)
    obtain ⟨o, -, -⟩ := goD_ok (P := S.1) (np := S.2.1) (ni := S.2.2.1) (nd := S.2.2.2) (ls := ls) ok.1.1 ok.1.2.1 n
    refine RB.q H q ?_
    rw [S_M_trial_0, T_M_isIn, e81]
    simp only [zbd_i, tl_s]
    rw [S_M_trial_8 H.1.1, chk, if_pos c, e0]
    simp only [zbd_i, tl_n]
    rw [S_M_trial_32 s0, e1]
    simp only [zbd_i, tl_s]
    rw [S_M_trial_38 (mr s1), cN_nI (by omega)]
    by_cases c2 : w = 0
    · rw [if_pos c2, if_pos c2, T_M_inState2 s1 o.1.2.2.1 o.1.2.2.2.2.2]
      simp only [zbd_i, tl_s]
      rw [S_M_trial_55 (mr s1) rfl, e2]
      simp only [zbd_i, tl_n, S_M_trial_61]
    · have e5 : zI (mH g' R (sd ls S.2.2.2 S.1 n)) (R + 1) = sd ls S.2.2.2 S.1 n := m_1
      rw [if_neg c2, if_neg c2, T_M_brokenOnes (mr s1) (by rw [e5]; exact o.1.1) o.1.2.2.2.1, e5]
      simp only [zbd_i, tl_s]
      rw [S_M_trial_47 (mr s1) rfl, e2]
      simp only [zbd_i, tl_n, S_M_trial_61]
  · rw [if_neg c]
    refine RB.t H (by decide) (w := nI 0) ?_
    rw [S_M_trial_0, T_M_isIn, e81]
    simp only [zbd_i, tl_s]
    rw [S_M_trial_8 H.1.1, chk, if_neg c]
end
