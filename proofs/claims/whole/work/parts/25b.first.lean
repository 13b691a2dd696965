/-! WHEN by the class: all deeds' first seasons; by the reference: a first season of something -/
/-- a deed has come up, behind n seasons -/
def upP (ls : List LN) (nd : Nat) (sp : Int32) (P : Row) (i n : Nat) : Bool := decide (¬ sq ls nd sp P n (45 + 12 * i + 9) = -1)
def whS (ls : List LN) (nd : Nat) (sp : Int32) (P : Row) (i : Nat) : Int32 := fpr (upP ls nd sp P i) 81
section
variable {z : ZE} {d : Nat} {h h' g : Hp} {X R p : Nat} {S S1 : PSt} {K : Option Img} {A : List PSt} {tl : Nat} {T : Row} {ft : Int32} {ls : List LN} {Lo : Option Nat} {P : Row} {np ni nd : Nat} {sp v w : Int32}
theorem T_fill_arr {t N : Nat} (hN : N < 2 ^ 31) : ∀ n k g, k + n = N → zK g t = 20 → zN g t = N → ∃ g', Fr (fun x => x = t) g g' ∧ (∀ j, j < k → zI g' t j = zI g t j) ∧ (∀ j, k ≤ j → j < N → zI g' t j = v) ∧ ev z d 315 5 [.ref t, .int v, .int (nI k), .int (nI N)] [] g = some (.inl none, g')
  | 0, k, g, hk, h1, h2 => by
    refine ⟨g, Fr.rf, fun _ _ => rfl, fun j h3 h4 => by omega, ?_⟩
    rw [S_Arr_fill_5 h1 h2, if_pos (nI_le (by omega) (by omega))]
  | n + 1, k, g, hk, h1, h2 => by
    obtain ⟨g', f', b', c', e'⟩ := T_fill_arr hN n (k + 1) (zwI g t k v) (by omega) h1 h2
    refine ⟨g', (Fr.w (A := fun x => x = t) rfl).tr f', fun j hj => (b' j (by omega)).trans (zI_wj (by omega)), fun j h3 h4 => ?_, ?_⟩
    · by_cases e : j = k
      · rw [e, b' k (by omega), zI_wa]
      · exact c' j (by omega) h4
    · rw [S_Arr_fill_5 h1 h2, if_neg (nI_ge (by omega) (by omega)), ix_n (by omega) hN, nI_add]
      exact e'
theorem T_Arr_fill {t N : Nat} (hN : N < 2 ^ 31) (h1 : zK h t = 20) (h2 : zN h t = N) : ∃ g', Fr (fun x => x = t) h g' ∧ (∀ j, j < N → zI g' t j = v) ∧ ev z d 315 0 [.ref t, .int v, zu, zu] [] h = some (.inl none, g') := by
  obtain ⟨g', f', -, c', e'⟩ := T_fill_arr (z := z) (d := d) (v := v) hN N 0 h (by omega) h1 h2
  exact ⟨g', f', fun j hj => c' j (by omega) hj, by rw [S_Arr_fill_0 h1 h2]; exact e'⟩
/-- one look at the draft's deeds -/
theorem C_fill_i (H : CI z h X S ls Lo K A tl T ft) {n : Nat} (hn : n ≤ 80) {p : Nat → Nat → Bool} {Q : Row} (hp : ∀ i, i < nd → p i n = decide (¬ Q (45 + 12 * i + 9) = -1)) : ∀ m k g, k + m = nd → DR z h g X Q np ni nd Lo ls → (∀ i, i < nd → zI g (X + 95) i = fpr (p i) (if i < k then n + 1 else n)) → ∃ g', DR z h g' X Q np ni nd Lo ls ∧ (∀ i, i < nd → zI g' (X + 95) i = fpr (p i) (n + 1)) ∧ ev z d 166 29 [.ref X, .int sp, .int (nI n), .int (nI k)] [] g = zbd (ev z d 61 0 [.ref (X + 32), .int (nI 0), zu, zu] [] g') (fun v h' => ev z d 166 87 [.ref X, .int sp, .int (nI n), .int (nI nd)] (v.toList ++ []) h') (fun e h' => evx z d 166 84 [.ref X, .int sp, .int (nI n), .int (nI nd)] e h')
  | 0, k, g, hk, D, hw => by
    have h8 := D.2.1.ld
    refine ⟨g, D, fun i hi => by rw [hw i hi, if_pos (by omega)], ?_⟩
    rw [S_LI_fillWhens_29 (D.x H), D.2.1.2.1.cd, if_pos (nI_le (by omega) (by omega)), show k = nd by omega]
  | m + 1, k, g, hk, D, hw => by
    have h8 := D.2.1.ld
    have wk := hw k (by omega)
    rw [if_neg (Nat.lt_irrefl k)] at wk
    have dk := D.2.1.2.1.deed (show k < nd by omega) (show 9 < 12 by decide)
    rw [S_LI_fillWhens_29 (D.x H), D.2.1.2.1.cd, if_neg (nI_ge (by omega) (by omega)), ix_n (by omega) (by decide), wk]
    by_cases c : fpr (p k) n = -1
    · rw [if_pos c, ix_n (by omega) (by decide), dk, nI_add]
      by_cases c2 : Q (45 + 12 * k + 9) = -1
      · rw [if_pos c2]
        refine C_fill_i H hn hp m (k + 1) g (by omega) D (fun i hi => ?_)
        rw [hw i hi]
        by_cases e : i = k
        · subst e
          rw [if_neg (by omega), if_pos (by omega), fpr_f (by rw [hp i hi]; simp [c2])]
        · by_cases e2 : i < k
          · rw [if_pos e2, if_pos (by omega)]
          · rw [if_neg e2, if_neg (by omega)]
      · rw [if_neg c2, ix_n (by omega) (by decide)]
        have fw : Fr (Dz X Lo) g (zwI g (X + 95) k (nI n)) := Fr.w (Or.inr (Or.inl (by omega)))
        have D2 : DR z h (zwI g (X + 95) k (nI n)) X Q np ni nd Lo ls := by
          refine ⟨D.1.tr fw, D.2.fr (Fr.w (A := fun x => x = X + 95) rfl) (fun x q => by omega) (fun x L q e => ?_)⟩
          have := H.1.2.2.1 L e
          have q' : x = X + 95 := q
          omega
        refine C_fill_i H hn hp m (k + 1) _ (by omega) D2 (fun i hi => ?_)
        by_cases e : i = k
        · subst e
          rw [zI_wa, if_pos (by omega), fpr_p c (by rw [hp i hi]; simp [c2])]
        · rw [zI_wj e, hw i hi]
          by_cases e2 : i < k
          · rw [if_pos e2, if_pos (by omega)]
          · rw [if_neg e2, if_neg (by omega)]
    · rw [if_neg c, nI_add]
      refine C_fill_i H hn hp m (k + 1) g (by omega) D (fun i hi => ?_)
      rw [hw i hi]
      by_cases e : i = k
      · subst e
        rw [if_neg (by omega), if_pos (by omega)]
        exact (fpr_s c 1).symm
      · by_cases e2 : i < k
        · rw [if_pos e2, if_pos (by omega)]
        · rw [if_neg e2, if_neg (by omega)]
theorem C_fill_l (H : CI z h X S ls Lo K A tl T ft) (ok : Ok (P, np, ni, nd)) (hL : OkL P ls) (hsp : sp = nI 0 ∨ sp = nI 1) : ∀ m n g w3, n + m = 81 → DR z h g X (sq ls nd sp P n) np ni nd Lo ls → (∀ i, i < nd → zI g (X + 95) i = fpr (upP ls nd sp P i) n) → ∃ g', Fr (Dz X Lo) h g' ∧ (∀ i, i < nd → zI g' (X + 95) i = whS ls nd sp P i) ∧ ev z d 166 21 [.ref X, .int sp, .int (nI n), w3] [] g = some (.inl none, g')
  | 0, n, g, w3, hk, D, hw => by
    obtain rfl : n = 81 := by omega
    exact ⟨g, D.1, hw, by rw [S_LI_fillWhens_21, if_pos (by decide)]⟩
  | m + 1, n, g, w3, hk, D, hw => by
    have h8 := D.2.1.ld
    obtain ⟨a, b, -⟩ := goN_ok (np := np) (ni := ni) ok hL hsp n
    obtain ⟨g1, D1, w1, e1⟩ := C_fill_i (d := d) (sp := sp) H (n := n) (by omega) (p := upP ls nd sp P) (Q := sq ls nd sp P n) (fun i _ => rfl) nd 0 g (by omega) D (fun i hi => by rw [hw i hi, if_neg (by omega)])
    rw [S_LI_fillWhens_21, if_neg (nI_nlt (by omega) (by decide)), e1, T_Port_inState D1.2.1.1 D1.2.1.2.1]
    simp only [zbd_i, tl_s]
    rw [S_LI_fillWhens_87 (D1.x H)]
    by_cases c : inS (sq ls nd sp P n) (nI 0) nd = 0
    · rw [if_pos c]
      refine ⟨g1, D1.1, fun i hi => ?_, rfl⟩
      rw [w1 i hi]
      have nb := inS_nb nd h8 c
      have q := fpr_q (p := upP ls nd sp P i) (n := n + 1) (by omega) (fun k h1 h2 => ⟨n, by omega, by
        obtain ⟨j, rfl⟩ : ∃ j, k = n + j := ⟨k - n, by omega⟩
        have := (sq_nb ok hL hsp nb j).2 i hi
        unfold upP at h2 ⊢
        rw [this] at h2
        exact h2⟩) m
      rw [show n + 1 + m = 81 by omega] at q
      exact q.symm
    · rw [if_neg c]
      obtain ⟨g2, D2, i2, e2⟩ := D1.pass (d := d) a b hsp
      rw [e2]
      simp only [zbd_i, tl_s, S_LI_fillWhens_99, nI_add]
      refine C_fill_l H ok hL hsp m (n + 1) g2 _ (by omega) D2 (fun i hi => ?_)
      rw [i2 _ (DR.n95 H)]
      exact w1 i hi
theorem C_fillWhens (H : CI z h X S ls Lo K A tl T ft) (ok : OkA S ls K A) (hsp : sp = nI 0 ∨ sp = nI 1) : ∃ g', Fr (Dz X Lo) h g' ∧ (∀ i, i < S.2.2.2 → zI g' (X + 95) i = whS ls S.2.2.2 sp S.1 i) ∧ ev z d 166 0 [.ref X, .int sp, zu, zu] [] h = some (.inl none, g') := by
  have h8 := ok.1.1.1.2.2.2.2.2
  obtain ⟨h1, e1, f1, G1⟩ := C_draft (z := z) (d := d) H ok.1.1
  have X1 := (H.dz f1).1.1
  obtain ⟨h2, f2, w2, e2⟩ := T_Arr_fill (z := z) (d := d) (v := -1) (h := h1) (t := X + 95) (N := 8) (by decide) (XSk_a12k X1) (XSk_a12n X1)
  have D2 : DR z h h2 X (sq ls S.2.2.2 sp S.1 0) S.2.1 S.2.2.1 S.2.2.2 Lo ls := by
    refine ⟨f1.tr (f2.mo (fun x q => Or.inr (Or.inl (by omega)))), G1.fr f2 (fun x q => by omega) (fun x L q e => ?_)⟩
    have := H.1.2.2.1 L e
    omega
  obtain ⟨g', f', w', e'⟩ := C_fill_l (z := z) (d := d) H (P := S.1) (np := S.2.1) (ni := S.2.2.1) (nd := S.2.2.2) ok.1.1 ok.1.2.1 hsp 81 0 h2 zu (by omega) D2 (fun i hi => w2 i (by omega))
  refine ⟨g', f', w', ?_⟩
  rw [S_LI_fillWhens_0 H.1.1, e1]
  simp only [zbd_i, tl_n]
  rw [S_LI_fillWhens_11 X1, e2]
  simp only [zbd_i, tl_n, S_LI_fillWhens_19]
  exact e'
/-! the reference: put aside, seasons, brought back -/
/-- scratch that keeps the answer's field too -/
def Rq (R : Nat) (h h' : Hp) : Prop := Rs R h h' ∧ zI h' R 0 = zI h R 0
theorem Rq.rf : Rq R h h := ⟨Rs.rf, rfl⟩
theorem Rq.tr (a : Rq R h g) (b : Rq R g h') : Rq R h h' := ⟨a.1.tr b.1, b.2.trans a.2⟩
theorem Rq.ra (f : RA R h h') : Rq R h h' := ⟨Rs.ra f, f.R0⟩
theorem mm {Q : Row} : mH (mH h R P) R Q = mH h R Q := by
  unfold mH
  simp only [hIhI, zIhI]
  refine hI_ext (fun x y => ?_)
  by_cases c : x = R + 1
  · rw [if_pos c, if_pos c]
  · rw [if_neg c, if_neg c, if_neg c]
theorem T_M_pa (hR : RSk h R) : ∃ g, ev z d 211 0 [.ref R, zu] [] h = some (.inl none, g) ∧ Rq R h g ∧ RSk g R ∧ zI g (R + 1) = zI h (R + 1) ∧ zI g (R + 3) = cp (zI h (R + 1)) (zI h (R + 3)) 0 381 ∧ zI g R = zI h R := by
  refine ⟨_, T_M_putsAside hR, ⟨⟨v_f ⟨by omega, by omega⟩, fun y _ => congrFun (v_o (by omega)) y, v_o (by omega), v_o (by omega), v_o (by omega), v_o (by omega)⟩, congrFun (v_o (by omega)) 0⟩, vr hR, v_o (by omega), v_1, v_o (by omega)⟩
theorem T_M_cb {f Q : Row} (hR : RSk g R) (ha : zI g (R + 3) = cp P f 0 381) (hQ : ∀ i, 381 ≤ i → Q i = P i) : ev z d 212 0 [.ref R, zu] [] (mH g R Q) = some (.inl none, mH g R P) := by
  have e1 : zI (mH g R Q) (R + 3) = cp P f 0 381 := (funext fun y => m_o (by omega)).trans ha
  have e2 : zI (mH g R Q) (R + 1) = Q := m_1
  rw [T_M_comesBack (mr hR), e1, e2, aside_row hQ, ← mv, mm]
/-- the first season of something, by the reference -/
def fbP (ls : List LN) (nd : Nat) (sp : Int32) (P : Row) (i c : Nat) (w : Int32) (n : Nat) : Bool := decide (¬ sq ls nd sp P n (45 + 12 * i + c) = w)
theorem T_M_first_l (hR : RSk h R) (hW : WA z h) (ok : Ok (P, np, ni, nd)) (hL : OkL P ls) (hsp : sp = nI 0 ∨ sp = nI 1) (h19 : zI h R 19 = sp) (cb : ∀ g Q, RA R h g → (∀ j, 381 ≤ j → Q j = P j) → ev z (d + 7) 212 0 [.ref R, zu] [] (mH g R Q) = some (.inl none, mH g R P)) {i c : Nat} (hi : i < 8) (hc : c < 12) : ∀ m n g w6, n + m = 81 → RA R h g → ∃ g', RA R h g' ∧ ev z (d + 7) 251 10 [.ref R, .int (nI i), .int (nI c), .int w, .int (fpr (fbP ls nd sp P i c w) n), .int (nI n), w6] [] (mH g R (sq ls nd sp P n)) = some (.inl (some (.int (fpr (fbP ls nd sp P i c w) 81))), mH g' R P)
  | 0, n, g, w6, hk, ra => by
    obtain rfl : n = 81 := by omega
    obtain ⟨-, -, q⟩ := goN_ok (np := np) (ni := ni) ok hL hsp 81
    refine ⟨g, ra, ?_⟩
    rw [S_M_firstBy_10 (mr (RSk_fr ra.1 hR)), if_pos (by decide), cb g _ ra (fun j hj => q j (by omega))]
    simp only [zbd_i, tl_n, S_M_firstBy_54]
  | m + 1, n, g, w6, hk, ra => by
    obtain ⟨a, b, q⟩ := goN_ok (np := np) (ni := ni) ok hL hsp n
    have Rg : RSk g R := RSk_fr ra.1 hR
    rw [S_M_firstBy_10 (mr Rg), if_neg (nI_nlt (by omega) (by decide))]
    by_cases c1 : fpr (fbP ls nd sp P i c w) n = -1
    · rw [if_pos c1, T_M_of2 Rg (by omega)]
      simp only [zbd_i, tl_s]
      obtain ⟨g1, f1, e1⟩ := T_M_passes_n (z := z) (d := d) Rg (WA_fr ra.1 (fun x q => RA_k hR q) hW) a b hsp ((ra.2 19 (by omega)).trans h19)
      rw [S_M_firstBy_29 (mr Rg), e1]
      simp only [zbd_i, tl_s, S_M_firstBy_42, nI_add]
      obtain ⟨g', f', e'⟩ := T_M_first_l hR hW ok hL hsp h19 cb hi hc m (n + 1) g1 (.int (psS ls nd (sq ls nd sp P n) sp).2) (by omega) (ra.tr f1)
      refine ⟨g', f', ?_⟩
      rw [← e']
      by_cases c2 : sq ls nd sp P n (45 + 12 * i + c) = w
      · rw [if_pos c2, fpr_f (p := fbP ls nd sp P i c w) (n := n) (by unfold fbP; simp [c2])]
        rfl
      · rw [if_neg c2, fpr_p (p := fbP ls nd sp P i c w) (n := n) c1 (by unfold fbP; simp [c2])]
        rfl
    · have e2 : fpr (fbP ls nd sp P i c w) 81 = fpr (fbP ls nd sp P i c w) n := by
        have := fpr_s c1 (m + 1)
        rwa [show n + (m + 1) = 81 by omega] at this
      rw [if_neg c1, e2, cb g _ ra (fun j hj => q j (by omega))]
      exact ⟨g, ra, by simp only [zbd_i, tl_n, S_M_firstBy_54]⟩
theorem T_M_firstBy (hR : RSk h R) (hW : WA z h) (hi1 : zI h (R + 1) = P) (ok : Ok (P, np, ni, nd)) (hL : OkL P ls) (hsp : sp = nI 0 ∨ sp = nI 1) (h19 : zI h R 19 = sp) {i c : Nat} (hi : i < 8) (hc : c < 12) : ∃ h', ev z (d + 7) 251 0 [.ref R, .int (nI i), .int (nI c), .int w, zu, zu, zu] [] h = some (.inl (some (.int (fpr (fbP ls nd sp P i c w) 81))), h') ∧ Rq R h h' := by
  obtain ⟨g0, e0, q0, s0, r0, a0, z0⟩ := T_M_pa (z := z) (d := d + 7) hR
  have W0 : WA z g0 := hW.rz hR q0.1.1
  have cb : ∀ g Q, RA R g0 g → (∀ j, 381 ≤ j → Q j = P j) → ev z (d + 7) 212 0 [.ref R, zu] [] (mH g R Q) = some (.inl none, mH g R P) := fun g Q ra hQ => T_M_cb (f := zI h (R + 3)) (RSk_fr ra.1 s0) (by rw [ra.1.i (by omega), a0, hi1]) hQ
  obtain ⟨g', f', e'⟩ := T_M_first_l (z := z) (d := d) (w := w) s0 W0 ok hL hsp ((congrFun z0 19).trans h19) cb hi hc 81 0 g0 zu (by omega) RA.rf
  have e1 : mH g0 R (sq ls nd sp P 0) = g0 := by
    have : sq ls nd sp P 0 = zI g0 (R + 1) := (r0.trans hi1).symm
    rw [this]
    exact mH_id
  rw [e1] at e'
  have i1 : zI g' (R + 1) = P := by
    rw [f'.1.i (by omega), r0, hi1]
  have e3 : fpr (fbP ls nd sp P i c w) 0 = -1 := rfl
  rw [e3] at e'
  refine ⟨g', ?_, q0.tr (Rq.ra f')⟩
  rw [S_M_firstBy_0 hR, e0]
  simp only [zbd_i, tl_n, S_M_firstBy_4]
  rw [e', ← i1, mH_id]
theorem RI.q (H : RI h R S K A tl T ft) (f : Rq R h h') : RI h' R S K A tl T ft := H.s f.1
end
