/-! A SEASON by the reference, its end; seasons -/
section
variable {z : ZE} {d : Nat} {h g : Hp} {R k : Nat} {P Q : Row} {np ni nd : Nat} {ls : List LN} {sp B r : Int32} {w1 w2 w3 : Value}
theorem T_M_fad_l (hR : RSk g R) (H : Ok (Q, np, ni, nd)) (hB : ∀ k, k < nd → isB B (nI k) = true → Q (45 + 12 * k + 10) = 0 ∨ (Q (45 + 12 * k + 10) = nI 1 ∧ Q (45 + 12 * k + 9) = Q 6)) : ∀ n k w5, k + n = nd → ev z d 229 138 [.ref R, w1, w2, .int B, .int (nI k), w5] [] (mH g R (fadL Q k)) = ev z d 229 242 [.ref R, w1, w2, .int B, .int (nI 0), .int (nI 0)] [] (mH g R (fadL Q nd)) := by
  have l8 : nd ≤ 8 := H.1.2.2.2.2.2
  have h5 : Q 5 = nI nd := H.1.2.2.1
  have l7 : ni ≤ 6 := H.1.2.2.2.2.1
  intro n
  induction n with
  | zero =>
    intro k w5 hk
    obtain rfl : k = nd := by omega
    obtain ⟨-, q, -⟩ := fadL_ok H k (Nat.le_refl _)
    rw [S_M_passes_138 (mr hR), m1, q 5 (by omega), h5, if_pos (nI_le (Nat.le_refl _) (by omega))]
  | succ n ih =>
    intro k w5 hk
    obtain ⟨⟨K1, K2, K3, K4, K5, K6⟩, q, t, e⟩ := fadL_ok H k (by omega)
    dsimp only at K1 K2 K3 K4 K5 K6
    obtain ⟨i1, i2⟩ := ink_e K2 (show k < nd by omega) l7
    have kp := K5.keeps i2
    have fo : fadL Q (k + 1) = if fadC (fadL Q k) k = true then fadD (fadL Q k) k else fadL Q k := rfl
    have cd : fadC (fadL Q k) k = true ↔ (fadL Q k (45 + 12 * k + 10) = nI 1 ∧ ¬ fadL Q k (27 + 3 * cN (fadL Q k (45 + 12 * k + 0)) + 1) ≤ 0 ∧ ¬ fadL Q k 6 - fadL Q k (45 + 12 * k + 9) < fadL Q k (27 + 3 * cN (fadL Q k (45 + 12 * k + 0)) + 1)) := by
      unfold fadC iN
      exact decide_eq_true_iff
    have e10 := e k 10 (Nat.le_refl _) (by omega) (by decide)
    have e9 := e k 9 (Nat.le_refl _) (by omega) (by decide)
    have sk : ∀ w5, ¬ fadC (fadL Q k) k = true → ev z d 229 138 [.ref R, w1, w2, .int B, .int (nI k + nI 1), w5] [] (mH g R (fadL Q k)) = ev z d 229 242 [.ref R, w1, w2, .int B, .int (nI 0), .int (nI 0)] [] (mH g R (fadL Q nd)) := by
      intro w5 nc
      rw [if_neg nc] at fo
      rw [nI_add, ← fo]
      exact ih (k + 1) w5 (by omega)
    rw [S_M_passes_138 (mr hR), m1, q 5 (by omega), h5, if_neg (nI_ge (by omega) (by omega)), T_M_of2 hR (by omega), i1]
    simp only [zbd_i, tl_s]
    rw [S_M_passes_157 (mr hR), T_M_ofInk2 hR (by omega)]
    simp only [zbd_i, tl_s, S_M_passes_161, T_M_isOf]
    rw [S_M_passes_169 (mr hR)]
    generalize hkp : fadL Q k (27 + 3 * cN (fadL Q k (45 + 12 * k + 0)) + 1) = kv at cd kp ⊢
    have kz : ¬ kv = 0 → ¬ kv ≤ 0 := fun h1 h2 => by
      rw [kp.1] at h1 h2
      by_cases c : cN kv = 0
      · rw [c] at h1; exact h1 rfl
      · exact nI_nle (by omega) (by omega) h2
    by_cases c1 : isB B (nI k) = true
    · rw [if_neg (by rw [bI_0]; exact fun x => x c1)]
      refine sk _ (fun x => ?_)
      obtain ⟨x1, x2, x3⟩ := cd.mp x
      rcases hB k (by omega) c1 with y | ⟨y1, y2⟩
      · rw [e10, y] at x1
        exact absurd x1 (by decide)
      · rw [t, e9, y2, Int32.sub_self] at x3
        exact x2 (Int32.not_lt.mp x3)
    · rw [if_pos (by rw [bI_0]; exact c1), T_M_of2 hR (by omega)]
      simp only [zbd_i, tl_s]
      rw [S_M_passes_180 (mr hR)]
      by_cases c2 : fadL Q k (45 + 12 * k + 10) = nI 1
      · rw [if_pos c2]
        by_cases c3 : kv = 0
        · rw [if_pos c3]
          exact sk _ (fun x => (cd.mp x).2.1 (by rw [c3]; exact Int32.le_refl _))
        · rw [if_neg c3, T_M_of2 hR (by omega), m1]
          simp only [zbd_i, tl_s]
          rw [S_M_passes_204 (mr hR)]
          by_cases c4 : kv ≤ fadL Q k 6 - fadL Q k (45 + 12 * k + 9)
          · have fc := cd.mpr ⟨c2, kz c3, Int32.not_lt.mpr c4⟩
            rw [if_pos fc] at fo
            rw [if_pos c4, T_M_lays2 hR (by omega)]
            simp only [zbd_i, tl_n]
            rw [S_M_passes_222 (mr hR), T_M_logs hR]
            simp only [zbd_i, tl_n, S_M_passes_230, nI_add]
            have f2 : logP (up (fadL Q k) (45 + 12 * k + 10) (nI 2)) (nI k) (nI 1) (nI 0) = fadL Q (k + 1) := fo.symm
            rw [f2]
            exact ih (k + 1) _ (by omega)
          · rw [if_neg c4]
            exact sk _ (fun x => c4 (Int32.not_lt.mp (cd.mp x).2.2))
      · rw [if_neg c2]
        exact sk _ (fun x => c2 (cd.mp x).1)
theorem T_M_pay_l (hR : RSk g R) (H : Ok (Q, np, ni, nd)) (hr : r = inS Q (nI 1) nd) (hw3 : zisL w3 = false) : ∀ n k, k + n = nd → ev z d 229 242 [.ref R, w1, w2, w3, .int (payL r Q k).2, .int (nI k)] [] (mH g R (payL r Q k).1) = some (.inl (some (.int (payL r Q nd).2)), mH g R (up (payL r Q nd).1 6 (mn (nI 9999) ((payL r Q nd).1 6 + nI 1)))) := by
  have l8 : nd ≤ 8 := H.1.2.2.2.2.2
  have h5 : Q 5 = nI nd := H.1.2.2.1
  intro n
  induction n with
  | zero =>
    intro k hk
    obtain rfl : k = nd := by omega
    obtain ⟨-, q, -⟩ := payL_ok (r := r) H k (Nat.le_refl _)
    rw [S_M_passes_242 (mr hR), m1, m1, q 5 (by omega), h5, if_pos (nI_le (Nat.le_refl _) (by omega)), T_M_lesser]
    simp only [zbd_i, tl_s]
    rw [S_M_passes_339 (mr hR), ix_n (by decide) (by decide), mw]
    rfl
  | succ n ih =>
    intro k hk
    obtain ⟨K, q, t, e, -⟩ := payL_ok (r := r) H k (by omega)
    have pd := (K.2.1 k (show k < nd by omega)).2.2.2.2.2
    dsimp only at pd
    have po : payL r Q (k + 1) = if payC (payL r Q k).1 r k = true then (payD (payL r Q k).1 k, (payL r Q k).2 + nI 1) else payL r Q k := rfl
    have rs : inS (payL r Q k).1 (nI 1) nd = r := by
      rw [hr]
      exact inS_cg nd (fun j hj => by rw [← hr]; exact e j 10 (by omega) (by decide))
    have cd : payC (payL r Q k).1 r k = true ↔ vld (payL r Q k).1 k r = true ∧ (payL r Q k).1 (45 + 12 * k + 11) = 0 ∧ ¬ (payL r Q k).1 6 - (payL r Q k).1 (45 + 12 * k + 9) < (payL r Q k).1 (45 + 12 * k + 4) := by
      unfold payC
      rw [Bool.and_eq_true_iff, decide_eq_true_iff]
    have sk : ¬ payC (payL r Q k).1 r k = true → ev z d 229 242 [.ref R, w1, w2, w3, .int (payL r Q k).2, .int (nI k + nI 1)] [] (mH g R (payL r Q k).1) = some (.inl (some (.int (payL r Q nd).2)), mH g R (up (payL r Q nd).1 6 (mn (nI 9999) ((payL r Q nd).1 6 + nI 1)))) := by
      intro nc
      rw [if_neg nc] at po
      rw [nI_add, ← po]
      exact ih (k + 1) (by omega)
    rw [S_M_passes_242 (mr hR), m1, q 5 (by omega), h5, if_neg (nI_ge (by omega) (by omega)), T_M_vnow2 hR ((q 5 (by omega)).trans h5) l8 (by omega), rs]
    simp only [zbd_i, tl_s]
    rw [S_M_passes_259 (mr hR)]
    by_cases c1 : vld (payL r Q k).1 k r = true
    · rw [if_neg (by rw [bI_0]; exact fun x => x c1), T_M_of2 hR (by omega)]
      simp only [zbd_i, tl_s]
      rw [S_M_passes_270 (mr hR)]
      by_cases c2 : (payL r Q k).1 (45 + 12 * k + 11) = nI 1
      · rw [if_pos c2]
        exact sk (fun x => by have := (cd.mp x).2.1; rw [c2] at this; exact absurd this (by decide))
      · have c3 : (payL r Q k).1 (45 + 12 * k + 11) = 0 := by
          rcases pd with y | y
          · exact y
          · exact absurd y c2
        rw [if_neg c2, T_M_of2 hR (by omega), m1]
        simp only [zbd_i, tl_s]
        rw [S_M_passes_289 (mr hR), T_M_of2 hR (by omega)]
        simp only [zbd_i, tl_s]
        rw [S_M_passes_297 (mr hR)]
        by_cases c4 : (payL r Q k).1 (45 + 12 * k + 4) ≤ (payL r Q k).1 6 - (payL r Q k).1 (45 + 12 * k + 9)
        · rw [if_pos (cd.mpr ⟨c1, c3, Int32.not_lt.mpr c4⟩)] at po
          rw [if_pos c4, T_M_pays hR K (by omega)]
          simp only [zbd_i, tl_n]
          rw [S_M_passes_309 hw3, nI_add]
          have := ih (k + 1) (by omega)
          rw [po] at this
          exact this
        · rw [if_neg c4]
          exact sk (fun x => c4 (Int32.not_lt.mp (cd.mp x).2.2))
    · rw [if_pos (by rw [bI_0]; exact c1)]
      exact sk (fun x => c1 (cd.mp x).1)
theorem T_M_pass (hR : RSk h R) (hW : WA z h) (H : Ok (P, np, ni, nd)) (hL : OkL P ls) (hsp : sp = nI 0 ∨ sp = nI 1) (hw1 : zisL w1 = false) {w3' w4 w5 : Value} : ∃ g', RA R h g' ∧ ev z (d + 7) 229 38 [.ref R, w1, .int sp, w3', w4, w5] [.int (inS P (nI 0) nd)] (mH h R P) = some (.inl (some (.int (psS ls nd P sp).2)), mH g' R (psS ls nd P sp).1) := by
  have l8 : nd ≤ 8 := H.1.2.2.2.2.2
  rw [S_M_passes_38]
  obtain ⟨g', ra, e1⟩ := T_M_rip_l (z := z) (d := d) (w1 := w1) (w5 := w5) hR hW H hL hsp nd 0 h (by omega) RA.rf
  obtain ⟨K1, q1, t1, e2, b1⟩ := ripL_ok H hL hsp nd (Nat.le_refl _)
  have Rg : RSk g' R := RSk_fr ra.1 hR
  have r0 : ripL ls sp P 0 = P := rfl
  rw [r0] at e1
  have f0 : fadL (ripL ls sp P nd) 0 = ripL ls sp P nd := rfl
  have e3 := T_M_fad_l (z := z) (d := d + 7) (w1 := w1) (w2 := .int sp) (B := inS P (nI 0) nd) Rg K1 (fun k hk hb => by
    rw [t1]
    exact b1 k hk ((isB_inS hk l8).mp hb)) nd 0 w5 (by omega)
  rw [f0] at e3
  obtain ⟨K2, -⟩ := fadL_ok K1 nd (Nat.le_refl _)
  have e4 := T_M_pay_l (z := z) (d := d + 7) (w1 := w1) (w2 := .int sp) (w3 := .int (inS P (nI 0) nd)) (r := inS (fadL (ripL ls sp P nd) nd) (nI 1) nd) Rg K2 rfl zisL_i nd 0 (by omega)
  exact ⟨g', ra, e1.trans (e3.trans e4)⟩
theorem T_M_passes_n (hR : RSk h R) (hW : WA z h) (H : Ok (P, np, ni, nd)) (hL : OkL P ls) (hsp : sp = nI 0 ∨ sp = nI 1) (h19 : zI h R 19 = sp) : ∃ g', RA R h g' ∧ ev z (d + 7) 229 0 [.ref R, .int (nI 0), zu, zu, zu, zu] [] (mH h R P) = some (.inl (some (.int (psS ls nd P sp).2)), mH g' R (psS ls nd P sp).1) := by
  have l8 : nd ≤ 8 := H.1.2.2.2.2.2
  have h5 : P 5 = nI nd := H.1.2.2.1
  rw [S_M_passes_0 (mr hR), if_pos (by decide), T_M_inState2 hR h5 l8, moR, h19]
  simp only [zbd_i, tl_s]
  exact T_M_pass hR hW H hL hsp zisL_i
/-- the draw of spray -/
def sdS (P : Row) : Int32 := nI 1103515245 * P 10 + nI 12345
def drS (P : Row) : Int32 := ((zus (sdS P) (nI 16)) &&& nI 32767) - ((zus (sdS P) (nI 16)) &&& nI 32767) / nI 100 * nI 100
def spS (P : Row) : Int32 := if P 8 ≤ drS P then nI 0 else nI 1
def psD (ls : List LN) (nd : Nat) (P : Row) : Row × Int32 := psS ls nd (up P 10 (sdS P)) (spS P)
theorem spS_b : spS P = nI 0 ∨ spS P = nI 1 := by
  unfold spS
  split
  · exact Or.inl rfl
  · exact Or.inr rfl
theorem Ok_10 {v : Int32} (H : Ok (P, np, ni, nd)) : Ok (up P 10 v, np, ni, nd) := by
  obtain ⟨⟨h3, h4, h5, l6, l7, l8⟩, hD, hE, hP, hI, hS⟩ := H
  have n : ∀ i, i ≠ 10 → up P 10 v i = P i := fun i hi => up_n hi
  exact ⟨⟨(n 3 (by decide)).trans h3, (n 4 (by decide)).trans h4, (n 5 (by decide)).trans h5, l6, l7, l8⟩, OkD_cg hD (fun i c hi hc => n _ (by omega)) (Nat.le_refl _) (Nat.le_refl _), OkE_cg hE (fun i c hi hc => n _ (by omega)), OkP_cg hP (fun i c hi hc => n _ (by omega)), OkI_cg hI (fun i c hi hc => n _ (by omega)) (fun k hk => n _ (by omega)), OkS_cg hS (n 0 (by decide)) (n 6 (by decide)) (n 7 (by decide)) (n 8 (by decide)) (n 9 (by decide))⟩
theorem OkL_10 {v : Int32} (H : OkL P ls) : OkL (up P 10 v) ls := OkL_cg H (fun i hi => up_n (by omega))
theorem T_M_passes_d (hR : RSk h R) (hW : WA z h) (H : Ok (P, np, ni, nd)) (hL : OkL P ls) : ∃ g', RA R h g' ∧ ev z (d + 7) 229 0 [.ref R, .int (nI 1), zu, zu, zu, zu] [] (mH h R P) = some (.inl (some (.int (psD ls nd P).2)), mH g' R (psD ls nd P).1) := by
  have l8 : nd ≤ 8 := H.1.2.2.2.2.2
  have h5 : P 5 = nI nd := H.1.2.2.1
  have e10 : up P 10 (sdS P) 10 = sdS P := up_a
  have fold : nI 1103515245 * P 10 + nI 12345 = sdS P := rfl
  rw [S_M_passes_0 (mr hR), if_neg (by decide), S_M_draw_0 (mr hR), if_neg (by decide), m1, fold, mw, m1, e10]
  simp only [zbd_i, tl_s]
  rw [S_M_passes_10 (mr hR) zisL_i, m1, up_n (by decide), T_M_inState2 hR ((up_n (by decide)).trans h5) l8]
  simp only [zbd_i, tl_s]
  have fold2 : (zus (sdS P) (nI 16) &&& nI 32767) - (zus (sdS P) (nI 16) &&& nI 32767) / nI 100 * nI 100 = drS P := rfl
  rw [fold2]
  unfold psD spS
  by_cases c : P 8 ≤ drS P
  · rw [if_pos c, if_pos c]
    exact T_M_pass hR hW (Ok_10 H) (OkL_10 hL) (Or.inl rfl) zisL_i
  · rw [if_neg c, if_neg c]
    exact T_M_pass hR hW (Ok_10 H) (OkL_10 hL) (Or.inr rfl) zisL_i
theorem psD_ok (H : Ok (P, np, ni, nd)) (hL : OkL P ls) : Ok ((psD ls nd P).1, np, ni, nd) ∧ OkL (psD ls nd P).1 ls ∧ ∀ i, i < 6 ∨ i = 7 ∨ i = 8 ∨ (11 ≤ i ∧ i < 15) ∨ (27 ≤ i ∧ i < 45) ∨ 381 ≤ i → (psD ls nd P).1 i = P i := by
  obtain ⟨a, q, b⟩ := psS_ok (Ok_10 (v := sdS P) H) (OkL_10 (v := sdS P) hL) spS_b
  exact ⟨a, b, fun i hi => (q i (by omega)).trans (up_n (by omega))⟩
/-- n steps -/
def goS (f : Row → Row × Int32) (P : Row) : Nat → Row × Int32
  | 0 => (P, nI 0)
  | n + 1 => ((f (goS f P n).1).1, (goS f P n).2 + (f (goS f P n).1).2)
def stF (ls : List LN) (nd : Nat) (sp : Int32) : Row → Row × Int32 := fun P => psS ls nd P sp
theorem goN_ok (H : Ok (P, np, ni, nd)) (hL : OkL P ls) (hsp : sp = nI 0 ∨ sp = nI 1) : ∀ n, Ok ((goS (stF ls nd sp) P n).1, np, ni, nd) ∧ OkL (goS (stF ls nd sp) P n).1 ls ∧ Qt P (goS (stF ls nd sp) P n).1
  | 0 => ⟨H, hL, Qt.rf⟩
  | n + 1 => by
    obtain ⟨a, b, q⟩ := goN_ok H hL hsp n
    obtain ⟨a', q', b'⟩ := psS_ok a b hsp
    exact ⟨a', b', q.tr q'⟩
theorem goD_ok (H : Ok (P, np, ni, nd)) (hL : OkL P ls) : ∀ n, Ok ((goS (psD ls nd) P n).1, np, ni, nd) ∧ OkL (goS (psD ls nd) P n).1 ls ∧ ∀ i, i < 6 ∨ i = 7 ∨ i = 8 ∨ (11 ≤ i ∧ i < 15) ∨ (27 ≤ i ∧ i < 45) ∨ 381 ≤ i → (goS (psD ls nd) P n).1 i = P i
  | 0 => ⟨H, hL, fun _ _ => rfl⟩
  | n + 1 => by
    obtain ⟨a, b, q⟩ := goD_ok H hL n
    obtain ⟨a', b', q'⟩ := psD_ok a b
    exact ⟨a', b', fun i hi => (q' i hi).trans (q i hi)⟩
theorem T_M_goes_n (hR : RSk h R) (hW : WA z h) (H : Ok (P, np, ni, nd)) (hL : OkL P ls) (hsp : sp = nI 0 ∨ sp = nI 1) (h19 : zI h R 19 = sp) {N : Nat} (hN : N < 2 ^ 31) : ∃ g', RA R h g' ∧ ev z (d + 7) 230 0 [.ref R, .int (nI N), .int (nI 0), zu, zu] [] (mH h R P) = some (.inl (some (.int (goS (stF ls nd sp) P N).2)), mH g' R (goS (stF ls nd sp) P N).1) := by
  have l : ∀ n k g, k + n = N → RA R h g → ∃ g', RA R h g' ∧ ev z (d + 7) 230 5 [.ref R, .int (nI N), .int (nI 0), .int (goS (stF ls nd sp) P k).2, .int (nI k)] [] (mH g R (goS (stF ls nd sp) P k).1) = some (.inl (some (.int (goS (stF ls nd sp) P N).2)), mH g' R (goS (stF ls nd sp) P N).1) := by
    intro n
    induction n with
    | zero =>
      intro k g hk ra
      obtain rfl : k = N := by omega
      refine ⟨g, ra, ?_⟩
      rw [S_M_goes_5 (mr (RSk_fr ra.1 hR)), if_pos (nI_le (Nat.le_refl _) hN)]
    | succ n ih =>
      intro k g hk ra
      obtain ⟨a, b, -⟩ := goN_ok H hL hsp k
      have Rg : RSk g R := RSk_fr ra.1 hR
      obtain ⟨g1, f1, e1⟩ := T_M_passes_n (z := z) (d := d) Rg (WA_fr ra.1 (fun x q => RA_k hR q) hW) a b hsp ((ra.2 19 (by omega)).trans h19)
      rw [S_M_goes_5 (mr Rg), if_neg (nI_ge (by omega) hN), e1]
      simp only [zbd_i, tl_s, S_M_goes_17, nI_add]
      exact ih (k + 1) g1 (by omega) (ra.tr f1)
  rw [S_M_goes_0]
  exact l N 0 h (by omega) RA.rf
theorem T_M_goes_d (hR : RSk h R) (hW : WA z h) (H : Ok (P, np, ni, nd)) (hL : OkL P ls) {N : Nat} (hN : N < 2 ^ 31) : ∃ g', RA R h g' ∧ ev z (d + 7) 230 0 [.ref R, .int (nI N), .int (nI 1), zu, zu] [] (mH h R P) = some (.inl (some (.int (goS (psD ls nd) P N).2)), mH g' R (goS (psD ls nd) P N).1) := by
  have l : ∀ n k g, k + n = N → RA R h g → ∃ g', RA R h g' ∧ ev z (d + 7) 230 5 [.ref R, .int (nI N), .int (nI 1), .int (goS (psD ls nd) P k).2, .int (nI k)] [] (mH g R (goS (psD ls nd) P k).1) = some (.inl (some (.int (goS (psD ls nd) P N).2)), mH g' R (goS (psD ls nd) P N).1) := by
    intro n
    induction n with
    | zero =>
      intro k g hk ra
      obtain rfl : k = N := by omega
      refine ⟨g, ra, ?_⟩
      rw [S_M_goes_5 (mr (RSk_fr ra.1 hR)), if_pos (nI_le (Nat.le_refl _) hN)]
    | succ n ih =>
      intro k g hk ra
      obtain ⟨a, b, -⟩ := goD_ok H hL k
      have Rg : RSk g R := RSk_fr ra.1 hR
      obtain ⟨g1, f1, e1⟩ := T_M_passes_d (z := z) (d := d) Rg (WA_fr ra.1 (fun x q => RA_k hR q) hW) a b
      rw [S_M_goes_5 (mr Rg), if_neg (nI_ge (by omega) hN), e1]
      simp only [zbd_i, tl_s, S_M_goes_17, nI_add]
      exact ih (k + 1) g1 (by omega) (ra.tr f1)
  rw [S_M_goes_0]
  exact l N 0 h (by omega) RA.rf
end
