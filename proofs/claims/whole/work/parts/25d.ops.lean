/-! RUIN, LATE, EARLY, DEED in both -/
def btP (b : Int32) (j : Nat) : Bool := isB b (nI j)
/-- the least of the broke -/
def lob (b : Int32) : Int32 := fpr (btP b) 6
/-- who is broke first, or when -/
def rnS (ls : List LN) (np nd : Nat) (P : Row) (w : Int32) : Nat → Int32
  | 0 => -1
  | n + 1 => if rnS ls np nd P w n = -1 then (if brkS (sq ls nd (nI 0) P n) np = 0 then -1 else if w = 0 then nI n else lob (brkS (sq ls nd (nI 0) P n) np)) else rnS ls np nd P w n
section
variable {z : ZE} {d : Nat} {h h' g : Hp} {X R p : Nat} {S S1 : PSt} {K : Option Img} {A : List PSt} {tl : Nat} {T : Row} {ft : Int32} {ls : List LN} {Lo : Option Nat} {P : Row} {np ni nd m k : Nat} {as : List Value} {es : List Nat} {sp u v w b : Int32}
theorem rnS_u {n : Nat} : rnS ls np nd P w (n + 1) = if rnS ls np nd P w n = -1 then (if brkS (sq ls nd (nI 0) P n) np = 0 then -1 else if w = 0 then nI n else lob (brkS (sq ls nd (nI 0) P n) np)) else rnS ls np nd P w n := rfl
theorem rnS_s {n : Nat} (hn : ¬ rnS ls np nd P w n = -1) : ∀ j, rnS ls np nd P w (n + j) = rnS ls np nd P w n
  | 0 => rfl
  | j + 1 => by
    have ih := rnS_s hn j
    show rnS ls np nd P w (n + j + 1) = _
    rw [rnS_u, ih, if_neg hn]
theorem brkS_N (hP : OkP P np) : ∀ n, n ≤ np → n ≤ 6 → brkS P n = nI (bsN (fun k => P (15 + 2 * k + 1) = nI 1) n)
  | 0, _, _ => rfl
  | n + 1, h, h6 => by
    have ih := brkS_N hP n (by omega) (by omega)
    unfold brkS bsN
    rw [ih]
    rcases (hP n (by omega)).1 with e | e
    · rw [e, n0_shl, or_n0, if_neg (by decide)]
    · rw [e, if_pos rfl, nI_shl n (by omega), nI_or, or_pow (bsN_lt _ n)]
theorem brk_w (hP : OkP P np) (h6 : np ≤ 6) : ∃ a, a < 2 ^ np ∧ brkS P np = nI a := ⟨_, bsN_lt _ np, brkS_N hP np (Nat.le_refl _) h6⟩
theorem fpr_hi {p : Nat → Bool} {n : Nat} (h : ∀ j, n ≤ j → ¬ p j = true) : ∀ m, fpr p (n + m) = fpr p n
  | 0 => rfl
  | m + 1 => by
    show fpr p (n + m + 1) = _
    rw [fpr_f (h _ (by omega))]
    exact fpr_hi h m
theorem lob_np (hP : OkP P np) (h6 : np ≤ 6) : fpr (btP (brkS P np)) np = lob (brkS P np) ∧ (lob (brkS P np) = -1 ↔ brkS P np = 0) := by
  obtain ⟨a, ha, e⟩ := brk_w hP h6
  have l64 : a < 2 ^ 6 := Nat.lt_of_lt_of_le ha (Nat.pow_le_pow_right (by decide) h6)
  rw [e]
  unfold lob
  constructor
  · obtain ⟨m, hm⟩ : ∃ m, np + m = 6 := ⟨6 - np, by omega⟩
    rw [← hm]
    have bnd : ∀ j, j < np + m → np ≤ j → ¬ btP (nI a) j = true := by
      intro j h1 h2
      unfold btP
      rw [isB_nI (by omega), Nat.testBit_lt_two_pow (Nat.lt_of_lt_of_le ha (Nat.pow_le_pow_right (by decide) h2))]
      decide
    have : ∀ t, t ≤ m → fpr (btP (nI a)) (np + t) = fpr (btP (nI a)) np := by
      intro t
      induction t with
      | zero => intro _; rfl
      | succ t ih =>
        intro ht
        show fpr (btP (nI a)) (np + t + 1) = _
        rw [fpr_f (bnd _ (by omega) (by omega))]
        exact ih (by omega)
    exact (this m (Nat.le_refl _)).symm
  · constructor
    · intro c
      have nb := fpr_np 6 (by decide) c
      have : a = 0 := by
        refine Nat.eq_of_testBit_eq (fun i => ?_)
        rw [Nat.zero_testBit]
        by_cases hi : i < 6
        · have := nb i hi
          unfold btP at this
          rw [isB_nI (by omega)] at this
          simpa using this
        · exact Nat.testBit_lt_two_pow (Nat.lt_of_lt_of_le l64 (Nat.pow_le_pow_right (by decide) (by omega)))
      rw [this]
      rfl
    · intro c
      have : a = 0 := (nI_eq (by omega) (by decide)).mp c
      rw [this]
      decide
theorem T_LI_leastOf_l : ∀ f k, k + f = 6 → fpr (btP b) k = -1 → ev z d 169 2 [.int b, .int (nI k)] [] h = some (.inl (some (.int (lob b))), h)
  | 0, k, hk, hf => by
    obtain rfl : k = 6 := by omega
    unfold lob
    rw [S_LI_leastOf_2, if_pos (by decide), hf]
  | f + 1, k, hk, hf => by
    rw [S_LI_leastOf_2, if_neg (nI_ge (by omega) (by decide))]
    simp only [isB_d]
    by_cases c : isB b (nI k) = true
    · rw [if_pos c]
      have e := fpr_p (p := btP b) hf c
      have e2 := fpr_s (p := btP b) (n := k + 1) (by rw [e]; exact nI_ne1 (by omega)) f
      rw [show k + 1 + f = 6 by omega, e] at e2
      unfold lob
      rw [e2]
    · rw [if_neg c, nI_add]
      exact T_LI_leastOf_l f (k + 1) (by omega) ((fpr_f c).trans hf)
theorem C_ruin_l (H : CI z h X S ls Lo K A tl T ft) (ok : Ok (P, np, ni, nd)) (hL : OkL P ls) : ∀ m n g w3, n + m = 81 → DR z h g X (sq ls nd (nI 0) P n) np ni nd Lo ls → rnS ls np nd P w n = -1 → ∃ g', Fr (Dz X Lo) h g' ∧ ev z d 121 13 [.ref X, .int w, .int (nI n), w3] [] g = some (.inl (some (.int (rnS ls np nd P w 81))), g')
  | 0, n, g, w3, hk, D, hw => by
    obtain rfl : n = 81 := by omega
    refine ⟨g, D.1, ?_⟩
    rw [S_LI_ruin_13 (D.x H), if_pos (by decide), hw]
  | m + 1, n, g, w3, hk, D, hw => by
    obtain ⟨a, b, -⟩ := goN_ok (np := np) (ni := ni) ok hL (Or.inl rfl) n
    rw [S_LI_ruin_13 (D.x H), if_neg (nI_nlt (by omega) (by decide)), T_Port_brokeParties D.2.1.1 D.2.1.2.1 a.2.2.2.1]
    simp only [zbd_i, tl_s]
    have lb := lob_np a.2.2.2.1 a.1.2.2.2.1
    have nx : ∀ j, ¬ rnS ls np nd P w (n + 1) = -1 → j = m → rnS ls np nd P w 81 = rnS ls np nd P w (n + 1) := by
      intro j h1 h2
      have := rnS_s h1 m
      rwa [show n + 1 + m = 81 by omega] at this
    rw [S_LI_ruin_26 (D.x H)]
    by_cases c : brkS (sq ls nd (nI 0) P n) np = 0
    · rw [if_pos c]
      obtain ⟨g1, D1, -, e1⟩ := D.pass (d := d) (sp := nI 0) a b (Or.inl rfl)
      rw [e1]
      simp only [zbd_i, tl_s, S_LI_ruin_52, nI_add]
      exact C_ruin_l H ok hL m (n + 1) g1 _ (by omega) D1 (by rw [rnS_u, if_pos hw, if_pos c])
    · rw [if_neg c]
      refine ⟨g, D.1, ?_⟩
      by_cases c2 : w = 0
      · have e : rnS ls np nd P w (n + 1) = nI n := by rw [rnS_u, if_pos hw, if_neg c, if_pos c2]
        rw [if_pos c2, nx m (by rw [e]; exact nI_ne1 (by omega)) rfl, e]
      · have e : rnS ls np nd P w (n + 1) = lob (brkS (sq ls nd (nI 0) P n) np) := by rw [rnS_u, if_pos hw, if_neg c, if_neg c2]
        rw [if_neg c2, S_LI_leastOf_0, T_LI_leastOf_l 6 0 rfl rfl]
        simp only [zbd_i, tl_s, S_LI_ruin_39]
        rw [nx m (by rw [e]; exact fun q => c (lb.2.mp q)) rfl, e]
theorem C_ruin (H : CI z h X S ls Lo K A tl T ft) (ok : OkA S ls K A) : CA z d h X Lo 121 [.ref X, .int w, zu, zu] [] 0 (rnS ls S.2.1 S.2.2.2 S.1 w 81) ((S, ls, Lo), K, A, tl, T, ft) := by
  obtain ⟨h1, e1, f1, G1⟩ := C_draft (z := z) (d := d) H ok.1.1
  obtain ⟨g', f', e'⟩ := C_ruin_l (z := z) (d := d) (w := w) H (P := S.1) (np := S.2.1) (ni := S.2.2.1) (nd := S.2.2.2) ok.1.1 ok.1.2.1 81 0 h1 zu (by omega) ⟨f1, G1⟩ rfl
  refine CA.dz H f' ?_
  rw [S_LI_ruin_0 H.1.1, e1]
  simp only [zbd_i, tl_n, S_LI_ruin_11]
  exact e'
theorem R_ruin_i (hR : RSk h R) {n : Nat} {w5 : Int32} : ∀ k cur, k ≤ 6 → ev z d 256 40 [.ref R, .int w, .int cur, .int (nI n), .int b, .int (nI k - nI 1)] [] h = ev z d 256 40 [.ref R, .int w, .int (if fpr (btP b) k = -1 then cur else if w = 0 then nI n else fpr (btP b) k), .int (nI n), .int b, .int (nI 0 - nI 1)] [] h
  | 0, cur, _ => by
    rw [if_pos (show fpr (btP b) 0 = -1 from rfl)]
  | k + 1, cur, hk => by
    rw [pk_sub (by omega), Nat.add_sub_cancel, S_M_ruin_40 hR, if_neg (nI_pos (by omega)), T_M_isOf]
    simp only [zbd_i, tl_s]
    rw [S_M_ruin_52, chk0, m1_sub]
    by_cases c : isB b (nI k) = true
    · rw [if_pos c]
      have e : (if w = 0 then ev z d 256 40 [.ref R, .int w, .int (nI n), .int (nI n), .int b, .int (nI k - nI 1)] [] h else ev z d 256 40 [.ref R, .int w, .int (nI k), .int (nI n), .int b, .int (nI k - nI 1)] [] h) = ev z d 256 40 [.ref R, .int w, .int (if w = 0 then nI n else nI k), .int (nI n), .int b, .int (nI k - nI 1)] [] h := by
        split <;> rfl
      rw [e, R_ruin_i hR (w5 := w5) k _ (by omega)]
      by_cases c2 : fpr (btP b) k = -1
      · have e2 : fpr (btP b) (k + 1) = nI k := fpr_p c2 c
        rw [if_pos c2, e2, if_neg (nI_ne1 (by omega))]
      · have e2 : fpr (btP b) (k + 1) = fpr (btP b) k := fpr_s c2 1
        rw [if_neg c2, e2, if_neg c2]
    · rw [if_neg c, R_ruin_i hR (w5 := w5) k _ (by omega)]
      have e2 : fpr (btP b) (k + 1) = fpr (btP b) k := fpr_f c
      rw [e2]
theorem R_ruin_l (hR : RSk h R) (hW : WA z h) (ok : Ok (P, np, ni, nd)) (hL : OkL P ls) (h19 : zI h R 19 = nI 0) (cb : ∀ g Q, RA R h g → (∀ j, 381 ≤ j → Q j = P j) → ev z (d + 7) 212 0 [.ref R, zu] [] (mH g R Q) = some (.inl none, mH g R P)) : ∀ m n g w4 w5, n + m = 81 → RA R h g → ∃ g', RA R h g' ∧ ev z (d + 7) 256 13 [.ref R, .int w, .int (rnS ls np nd P w n), .int (nI n), w4, w5] [] (mH g R (sq ls nd (nI 0) P n)) = some (.inl (some (.int (rnS ls np nd P w 81))), mH g' R P)
  | 0, n, g, w4, w5, hk, ra => by
    obtain rfl : n = 81 := by omega
    obtain ⟨-, -, q⟩ := goN_ok (np := np) (ni := ni) ok hL (Or.inl rfl : nI 0 = nI 0 ∨ nI 0 = nI 1) 81
    refine ⟨g, ra, ?_⟩
    rw [S_M_ruin_13 (mr (RSk_fr ra.1 hR)), if_pos (by decide), cb g _ ra (fun j hj => q j (by omega))]
    simp only [zbd_i, tl_n, S_M_ruin_89]
  | m + 1, n, g, w4, w5, hk, ra => by
    obtain ⟨a, b, q⟩ := goN_ok (np := np) (ni := ni) ok hL (Or.inl rfl : nI 0 = nI 0 ∨ nI 0 = nI 1) n
    have Rg : RSk g R := RSk_fr ra.1 hR
    have i1 : zI (mH g R (sq ls nd (nI 0) P n)) (R + 1) = sq ls nd (nI 0) P n := m_1
    have l6 : np ≤ 6 := a.1.2.2.2.1
    have h3 : sq ls nd (nI 0) P n 3 = nI np := a.1.1
    have lb := lob_np a.2.2.2.1 a.1.2.2.2.1
    rw [S_M_ruin_13 (mr Rg), if_neg (nI_nlt (by omega) (by decide))]
    by_cases c1 : rnS ls np nd P w n = -1
    · rw [if_pos c1, T_M_brokenOnes (mr Rg) (by rw [i1]; exact h3) l6, i1]
      simp only [zbd_i, tl_s]
      rw [S_M_ruin_28 (mr Rg), i1, h3, R_ruin_i (mr Rg) (w5 := nI 0) np _ l6, S_M_ruin_40 (mr Rg), if_pos (by decide)]
      obtain ⟨g1, f1, e1⟩ := T_M_passes_n (z := z) (d := d) Rg (WA_fr ra.1 (fun x q => RA_k hR q) hW) a b (Or.inl rfl) ((ra.2 19 (by omega)).trans h19)
      rw [e1]
      simp only [zbd_i, tl_s]
      rw [S_M_ruin_77 rfl, nI_add]
      obtain ⟨g', f', e'⟩ := R_ruin_l hR hW ok hL h19 cb m (n + 1) g1 (.int (brkS (sq ls nd (nI 0) P n) np)) (.int (psS ls nd (sq ls nd (nI 0) P n) (nI 0)).2) (by omega) (ra.tr f1)
      refine ⟨g', f', ?_⟩
      rw [← e', rnS_u, if_pos c1, c1, lb.1]
      by_cases c2 : brkS (sq ls nd (nI 0) P n) np = 0
      · rw [if_pos c2, if_pos (lb.2.mpr c2)]
        rfl
      · rw [if_neg c2, if_neg (fun q => c2 (lb.2.mp q))]
        rfl
    · have e2 : rnS ls np nd P w 81 = rnS ls np nd P w n := by
        have := rnS_s c1 (m + 1)
        rwa [show n + (m + 1) = 81 by omega] at this
      rw [if_neg c1, e2, cb g _ ra (fun j hj => q j (by omega))]
      exact ⟨g, ra, by simp only [zbd_i, tl_n, S_M_ruin_89]⟩
theorem R_ruin (W : WA z h) (H : RI h R S K A tl T ft) (ok : OkA S ls K A) : RB z (d + 7) h R 256 [.ref R, .int w, zu, zu, zu, zu] 0 (rnS ls S.2.1 S.2.2.2 S.1 w 81) ((S, ls, Lo), K, A, tl, T, ft) := by
  have G := H.w0 (v := nI 0)
  obtain ⟨g0, e0, q0, s0, r0, a0, z0⟩ := T_M_pa (z := z) (d := d + 7) G.1.1
  have W0 : WA z g0 := (W.rz H.1.1 FZ0).rz G.1.1 q0.1.1
  have cb : ∀ g Q, RA R g0 g → (∀ j, 381 ≤ j → Q j = S.1 j) → ev z (d + 7) 212 0 [.ref R, zu] [] (mH g R Q) = some (.inl none, mH g R S.1) := fun g Q ra hQ => T_M_cb (f := zI (zwI h R 0 (nI 0)) (R + 3)) (RSk_fr ra.1 s0) (by rw [ra.1.i (by omega), a0, G.i]) hQ
  obtain ⟨g', f', e'⟩ := R_ruin_l (z := z) (d := d) (w := w) (P := S.1) (np := S.2.1) (ni := S.2.2.1) (nd := S.2.2.2) s0 W0 ok.1.1 ok.1.2.1 ((congrFun z0 19).trans G.1.2.2) cb 81 0 g0 zu zu (by omega) RA.rf
  have e1 : mH g0 R (sq ls S.2.2.2 (nI 0) S.1 0) = g0 := by
    have : sq ls S.2.2.2 (nI 0) S.1 0 = zI g0 (R + 1) := (r0.trans G.i).symm
    rw [this]
    exact mH_id
  rw [e1] at e'
  have i1 : mH g' R S.1 = g' := by
    have : S.1 = zI g' (R + 1) := by rw [f'.1.i (by omega), r0, G.i]
    rw [this]
    exact mH_id
  rw [i1] at e'
  refine RB.q H (q0.tr (Rq.ra f')) ?_
  rw [S_M_ruin_0 H.1.1, e0]
  simp only [zbd_i, tl_n, S_M_ruin_9]
  exact e'
end
