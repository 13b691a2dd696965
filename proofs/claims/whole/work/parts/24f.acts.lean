/-! COUNT, SEASONS, WARM in both -/
section
variable {z : ZE} {d : Nat} {h h' g : Hp} {X R : Nat} {S S1 : PSt} {K : Option Img} {A : List PSt} {tl : Nat} {T : Row} {ft : Int32} {ls : List LN} {Lo : Option Nat} {m k x p np ni nd : Nat} {P Q : Row} {u v w : Int32}
def cnV (P : Row) (np nd al : Nat) (v : Int32) : Int32 := if inR v 12 then coV P np nd al (cN v) else -1
theorem C_count (H : CI z h X S ls Lo K A tl T ft) (ok : Ok S) : CA z d h X Lo 154 [.ref X, .int v] [] 0 (cnV S.1 S.2.1 S.2.2.2 A.length v) ((S, ls, Lo), K, A, tl, T, ft) := by
  refine CA.rf H ?_
  unfold cnV
  by_cases c : inR v 12
  · rw [if_pos c]
    obtain ⟨j, hj, rfl⟩ := (inR_iff (by decide)).mp c
    rw [cN_nI (by omega), S_LI_countn_0]
    unfold coV
    rcases (by omega : j = 0 ∨ j = 1 ∨ j = 2 ∨ j = 3 ∨ j = 4 ∨ j = 5 ∨ j = 6 ∨ j = 7 ∨ j = 8 ∨ j = 9 ∨ j = 10 ∨ j = 11) with r | r | r | r | r | r | r | r | r | r | r | r <;> subst r
    · rw [T_LI_countn_1_0, S_LI_countn_64 H.1.1, H.rp.cp, H.rp.P3]
      rfl
    · rw [T_LI_countn_1_1, S_LI_countn_72 H.1.1, H.rp.ci, H.rp.P4]
      rfl
    · rw [T_LI_countn_1_2, S_LI_countn_80 H.1.1, H.rp.cd, H.rp.P5]
      rfl
    · rw [T_LI_countn_1_3, S_LI_countn_88 H.1.1, H.rp.texts]
      rfl
    · rw [T_LI_countn_1_4]
      have q := H.2.1.2.1
      have W := H.2.1.2.2.1
      cases Lo with
      | none =>
        rw [S_LI_countn_96 H.1.1 q, W.1]
        rfl
      | some L =>
        obtain ⟨E, W1, W2⟩ := W
        rw [S_LI_counts_96 H.1.1 W1.1.1.1 q, W1.1.2.1, W2]
        rfl
    · rw [T_LI_countn_1_5, S_LI_countn_121 H.1.1, H.rp.time]
      rfl
    · rw [T_LI_countn_1_6, S_LI_countn_129 H.1.1, H.rp.salt]
      rfl
    · rw [T_LI_countn_1_7, S_LI_countn_137 H.1.1, H.rp.spray]
      rfl
    · rw [T_LI_countn_1_8, S_LI_countn_145 H.1.1, T_Port_allCoins H.sk H.rp]
      simp only [zbd_i, tl_s, S_LI_countn_152]
    · rw [T_LI_countn_1_9, S_LI_countn_153 H.1.1, T_Port_paidDeeds H.sk H.rp ok.2.1]
      simp only [zbd_i, tl_s, S_LI_countn_160]
    · obtain ⟨n, y, -, -, b3, b4, -⟩ := H.bk
      rw [T_LI_countn_1_10, S_LI_countn_161 H.1.1, b4, ← b3]
      rfl
    · obtain ⟨nx, -, -, n3, -⟩ := H.2.2.2.2.2
      rw [T_LI_countn_1_11, S_LI_countn_172 H.1.1, n3]
      rfl
  · rw [if_neg c, S_LI_countn_0, T_LI_countn_1_d (swd (by decide) c), S_LI_countn_177]
theorem R_count_l (hR : RSk h R) {n : Nat} (hn : n ≤ 6) (h3 : zI h (R + 1) 3 = nI n) : ev z d 304 126 [.ref R, .int v, .int (nI 0), .int (nI 0)] [] h = some (.inl (some (.int (if v = nI 8 then coinS (zI h (R + 1)) n else -1))), h) := by
  refine (lp (E := fun k => ev z d 304 126 [.ref R, .int v, .int (coinS (zI h (R + 1)) k), .int (nI k)] [] h) n ?_).trans ?_
  · intro k hk
    rw [S_M_count_126 hR, h3, if_neg (nI_ge hk (by omega)), T_M_coins hR (by omega)]
    simp only [zbd_i, tl_s, S_M_count_142, nI_add]
    rfl
  · rw [S_M_count_126 hR, h3, if_pos (nI_le (Nat.le_refl _) (by omega))]
    split <;> rfl
theorem R_count (H : RI h R S K A tl T ft) (ok : Ok S) : RB z d h R 304 [.ref R, .int v, zu, zu] 0 (cnV S.1 S.2.1 S.2.2.2 A.length v) ((S, ls, Lo), K, A, tl, T, ft) := by
  refine RB.g H ?_
  have G := H.w0 (v := nI 0)
  have h6 := ok.1.2.2.2.1
  have h8 := ok.1.2.2.2.2.2
  have h3 : zI (zwI h R 0 (nI 0)) (R + 1) 3 = nI S.2.1 := by rw [G.i]; exact ok.1.1
  have h5 : zI (zwI h R 0 (nI 0)) (R + 1) 5 = nI S.2.2.2 := by rw [G.i]; exact ok.1.2.2.1
  rw [S_M_count_0 H.1.1]
  generalize zwI h R 0 (nI 0) = g at *
  unfold cnV
  by_cases c : inR v 12
  · rw [if_pos c]
    obtain ⟨j, hj, rfl⟩ := (inR_iff (by decide)).mp c
    rw [cN_nI (by omega), G.i, T_M_isIn]
    simp only [zbd_i, tl_s]
    unfold coV
    have e0 : ∀ i, nI i = 0 ↔ nI i = nI 0 := fun i => Iff.rfl
    rcases (by omega : j = 0 ∨ j = 1 ∨ j = 2 ∨ j = 3 ∨ j = 4 ∨ j = 5 ∨ j = 6 ∨ j = 7 ∨ j = 8 ∨ j = 9 ∨ j = 10 ∨ j = 11) with r | r | r | r | r | r | r | r | r | r | r | r <;> subst r
    · rw [if_pos (by decide)]
      rfl
    · rw [if_neg (by decide), if_pos (by decide)]
      rfl
    · rw [if_neg (by decide), if_neg (by decide), if_pos (by decide)]
      rfl
    · rw [if_neg (by decide), if_neg (by decide), if_neg (by decide), if_pos (by decide)]
      rfl
    · rw [if_neg (by decide), if_neg (by decide), if_neg (by decide), if_neg (by decide), if_pos (by decide)]
      rfl
    · rw [if_neg (by decide), if_neg (by decide), if_neg (by decide), if_neg (by decide), if_neg (by decide), S_M_count_71 G.1.1, chk0, if_pos (by decide), nI_add, pk_sub (by decide), ix_n (by decide) (by decide), G.i]
      rfl
    · rw [if_neg (by decide), if_neg (by decide), if_neg (by decide), if_neg (by decide), if_neg (by decide), S_M_count_71 G.1.1, chk0, if_pos (by decide), nI_add, pk_sub (by decide), ix_n (by decide) (by decide), G.i]
      rfl
    · rw [if_neg (by decide), if_neg (by decide), if_neg (by decide), if_neg (by decide), if_neg (by decide), S_M_count_71 G.1.1, chk0, if_pos (by decide), nI_add, pk_sub (by decide), ix_n (by decide) (by decide), G.i]
      rfl
    · rw [if_neg (by decide), if_neg (by decide), if_neg (by decide), if_neg (by decide), if_neg (by decide), S_M_count_71 G.1.1, chk0, if_neg (by decide), if_neg (by decide), if_neg (by decide), if_neg (by decide), R_count_l G.1.1 h6 h3, if_pos rfl, G.i]
      rfl
    · rw [if_neg (by decide), if_neg (by decide), if_neg (by decide), if_neg (by decide), if_neg (by decide), S_M_count_71 G.1.1, chk0, if_neg (by decide), if_pos (by decide), T_M_paidOnes G.1.1 h5 h8, G.i]
      simp only [zbd_i, tl_s, S_M_count_96]
    · rw [if_neg (by decide), if_neg (by decide), if_neg (by decide), if_neg (by decide), if_neg (by decide), S_M_count_71 G.1.1, chk0, if_neg (by decide), if_neg (by decide), if_pos (by decide), G.i]
      rfl
    · rw [if_neg (by decide), if_neg (by decide), if_neg (by decide), if_neg (by decide), if_neg (by decide), S_M_count_71 G.1.1, chk0, if_neg (by decide), if_neg (by decide), if_neg (by decide), if_pos (by decide), G.2.2.2.2.1]
      rfl
  · rw [if_neg c]
    have nv : ∀ i, i < 12 → ¬ v = nI i := fun i hi e => c (by rw [e]; exact inR_nI hi (by decide))
    have n57 : ¬ isin v (nI 5) (nI 7) := by
      rintro ⟨q1, q2⟩
      have h0 : ¬ v < 0 := by
        rw [Int32.le_iff_toInt_le] at q1
        rw [Int32.lt_iff_toInt_lt]
        have : (nI 5).toInt = 5 := by decide
        have : (0 : Int32).toInt = 0 := by decide
        omega
      obtain ⟨j, hj, rfl⟩ := nI_of h0
      have := (nI_leI hj (by decide)).mp q2
      exact nv j (by omega) rfl
    rw [if_neg (show ¬ v = 0 from nv 0 (by decide)), if_neg (nv 1 (by decide)), if_neg (nv 2 (by decide)), if_neg (nv 3 (by decide)), if_neg (nv 4 (by decide)), T_M_isIn]
    simp only [zbd_i, tl_s]
    rw [S_M_count_71 G.1.1, chk0, if_neg n57, if_neg (nv 9 (by decide)), if_neg (nv 10 (by decide)), if_neg (nv 11 (by decide)), R_count_l G.1.1 h6 h3, if_neg (nv 8 (by decide))]
/-! SEASONS -/
def seV (ls : List LN) (S : PSt) (v : Int32) : Row × Int32 := goS (psD ls S.2.2.2) S.1 (cN v)
def seQ (S : PSt) (ls : List LN) (Lo : Option Nat) (K : Option Img) (A : List PSt) (tl : Nat) (T : Row) (ft v : Int32) : Stt := if in1 80 v then ((((seV ls S v).1, S.2), ls, Lo), K, rmA S A, tl, T, ft) else ((S, ls, Lo), K, A, tl, T, ft)
theorem Fp.nX (f : Fp (X + 4) Lo h h') (hl : ∀ L, Lo = some L → X + 433 ≤ L) (s : XSk h X) : XSk h' X := by
  refine XSk_fr f.1 (fun q => ?_) s
  rcases q with q | ⟨L, e, q⟩
  · have := q.1; omega
  · have := hl L e; omega
theorem C_go_l (hl : ∀ L, Lo = some L → X + 433 ≤ L) (ok : Ok (P, np, ni, nd)) (hL : OkL P ls) {N : Nat} (hN : N ≤ 80) : ∀ n k g, k + n = N → XSk g X → PL g (X + 4) (goS (psD ls nd) P k).1 np ni nd Lo ls → ∃ g', Fp (X + 4) Lo g g' ∧ PL g' (X + 4) (goS (psD ls nd) P N).1 np ni nd Lo ls ∧ ev z d 109 27 [.ref X, .int (nI N), .int (goS (psD ls nd) P k).2, .int (nI k)] [] g = some (.inl (some (.int (goS (psD ls nd) P N).2)), g') := by
  intro n
  induction n with
  | zero =>
    intro k g hk hX G
    obtain rfl : k = N := by omega
    refine ⟨g, Fp.rf, G, ?_⟩
    rw [S_LI_seasons_27 hX, if_pos (nI_le (Nat.le_refl _) (by omega))]
  | succ n ih =>
    intro k g hk hX G
    obtain ⟨a, b, -⟩ := goD_ok (np := np) (ni := ni) ok hL k
    obtain ⟨g1, g2, f2, f1, -, G2, e1, e2⟩ := T_C_passD (z := z) (d := d) a b G
    obtain ⟨g', f', G', e'⟩ := ih (k + 1) g2 (by omega) (f2.nX hl hX) G2
    refine ⟨g', f2.tr f', G', ?_⟩
    rw [S_LI_seasons_27 hX, if_neg (nI_ge (by omega) (by omega)), e1]
    simp only [zbd_i, tl_s]
    rw [S_LI_seasons_44 (f1.nX hl hX), e2]
    simp only [zbd_i, tl_s, S_LI_seasons_47, nI_add]
    exact e'
theorem C_seasons (t : Tp h) (H : CI z h X S ls Lo K A tl T ft) (ok : OkA S ls K A) : CA z d h X Lo 109 [.ref X, .int v, zu, zu] [0] (if in1 80 v then 0 else 1) (seV ls S v).2 (seQ S ls Lo K A tl T ft v) := by
  unfold seQ
  by_cases c : in1 80 v
  · rw [if_pos c, if_pos c]
    obtain ⟨n, n1, n2, rfl⟩ := (in1_iff (by decide)).mp c
    unfold seV
    rw [cN_nI (by omega)]
    obtain ⟨h1, e1, f1, H1⟩ := C_remember (z := z) (d := d) H ok.1.1
    obtain ⟨g', f', G', e'⟩ := C_go_l (z := z) (d := d) H1.1.2.2.1 (P := S.1) (np := S.2.1) (ni := S.2.2.1) (nd := S.2.2.2) ok.1.1 ok.1.2.1 n2 n 0 h1 (by omega) H1.1.1 H1.2.1
    refine CA.act (S1 := ((goS (psD ls S.2.2.2) S.1 n).1, S.2)) (h' := g') f1 H1 f' G' ?_
    rw [S_LI_seasons_0 H.1.1, lt_le1, if_pos c, e1]
    simp only [zbd_i, tl_n]
    rw [S_LI_seasons_23]
    exact e'
  · rw [if_neg c, if_neg c]
    refine CA.x t H rfl ?_
    rw [S_LI_seasons_0 H.1.1, lt_le1, if_neg c]
    rfl
theorem RA.R0 (f : RA R h h') : zI h' R 0 = zI h R 0 := f.2 0 (Or.inl (by decide))
theorem RA.fz (f : RA R h h') : Fr (Rz R) h h' := f.1.mo (fun x q => by omega)
theorem WA.rz (W : WA z h) (s : RSk h R) (f : Fr (Rz R) h h') : WA z h' := by
  refine WA_fr f (fun x q => ?_) W
  obtain ⟨q1, q2⟩ := q
  rcases (by omega : x = R ∨ x = R + 1 ∨ x = R + 2 ∨ x = R + 3 ∨ x = R + 4 ∨ x = R + 5 ∨ x = R + 6 ∨ x = R + 7 ∨ x = R + 8 ∨ x = R + 9 ∨ x = R + 10) with r | r | r | r | r | r | r | r | r | r | r <;> rw [r]
  · rw [RSk_K s]; decide
  · rw [RSk_k1 s]; decide
  · rw [RSk_k2 s]; decide
  · rw [RSk_k4 s]; decide
  · rw [RSk_k5 s]; decide
  · rw [RSk_k7 s]; decide
  · rw [RSk_k14 s]; decide
  · rw [RSk_k20 s]; decide
  · rw [RSk_k21 s]; decide
  · rw [RSk_k22 s]; decide
  · rw [RSk_k23 s]; decide
theorem R_seasons (W : WA z h) (H : RI h R S K A tl T ft) (ok : OkA S ls K A) : RB z (d + 7) h R 241 [.ref R, .int v] (if in1 80 v then 0 else 1) (seV ls S v).2 (seQ S ls Lo K A tl T ft v) := by
  unfold seQ
  by_cases c : in1 80 v
  · rw [if_pos c, if_pos c]
    obtain ⟨n, n1, n2, rfl⟩ := (in1_iff (by decide)).mp c
    unfold seV
    rw [cN_nI (by omega)]
    have G := H.w0 (v := nI 0)
    obtain ⟨h1, e1, f1, H1, z1⟩ := R_rem (z := z) (d := d + 7) G
    obtain ⟨g', f', e'⟩ := T_M_goes_d (z := z) (d := d) (P := S.1) (np := S.2.1) (ni := S.2.2.1) (nd := S.2.2.2) H1.1.1 (W.rz H.1.1 (FZ0.tr f1)) ok.1.1 ok.1.2.1 (N := n) (by omega)
    rw [H1.id] at e'
    refine RB.s (h' := mH g' R (goS (psD ls S.2.2.2) S.1 n).1) ?_ ((FZ0.tr f1).tr (f'.fz.tr (v_f ⟨by omega, by omega⟩))) (moR.trans (f'.R0.trans (z1.trans zI_wa))) (H1.s (Rs.ra f')).m
    rw [S_M_seasons_0, T_M_isIn]
    simp only [zbd_i, tl_s]
    rw [S_M_seasons_8 H.1.1, chk, if_pos c, e1]
    simp only [zbd_i, tl_n]
    rw [S_M_seasons_32 H1.1.1, e']
    simp only [zbd_i, tl_s, S_M_seasons_38]
  · rw [if_neg c, if_neg c]
    refine RB.t H (by decide) (w := nI 0) ?_
    rw [S_M_seasons_0, T_M_isIn]
    simp only [zbd_i, tl_s]
    rw [S_M_seasons_8 H.1.1, chk, if_neg c]
theorem O_seasons (ok : OkA S ls K A) : OV (seQ S ls Lo K A tl T ft v) := by
  unfold seQ
  by_cases c : in1 80 v
  · rw [if_pos c]
    obtain ⟨a, b, q⟩ := goD_ok (P := S.1) (np := S.2.1) (ni := S.2.2.1) (nd := S.2.2.2) ok.1.1 ok.1.2.1 (cN v)
    exact OkA.act (S1 := ((goS (psD ls S.2.2.2) S.1 (cN v)).1, S.2)) ok.rm a (fun i hi => q i (by omega)) b
  · rw [if_neg c]
    exact ok
/-! WARM -/
def hvS (P : Row) : Nat → Nat → Row
  | 0, _ => P
  | f + 1, k => if P (45 + 12 * k + 10) = 0 then up P (45 + 12 * k + 8) (P (45 + 12 * k + 8) / nI 2) else hvS P f (k + 1)
theorem hvS_o {i : Nat} (hi : i < 45 ∨ 141 ≤ i) : ∀ f k, k + f ≤ 8 → hvS P f k i = P i
  | 0, _, _ => rfl
  | f + 1, k, hk => by
    unfold hvS
    split
    · exact up_n (by omega)
    · exact hvS_o hi f (k + 1) (by omega)
theorem hvS_ok (H : Ok (P, np, ni, nd)) : ∀ f k, k + f = nd → Ok (hvS P f k, np, ni, nd)
  | 0, _, _ => H
  | f + 1, k, hk => by
    unfold hvS
    split
    · obtain ⟨a, ha, e⟩ := (H.2.2.1 k (show k < nd by omega)).2.2.2.1
      refine Ok_D (S := (P, np, ni, nd)) H (show k < nd by omega) (by decide) (by decide) (by omega) (fun _ => ⟨a / 2, by omega, ?_⟩) (by omega) (by omega) (by omega)
      rw [show P (45 + 12 * k + 8) = nI a from e, pk_div (by omega) (by decide) (by decide)]
    · exact hvS_ok H f (k + 1) (by omega)
theorem T_C_hv {w1 : Value} (hw : zisL w1 = false) : ∀ f k, k + f = nd → PL h p P np ni nd Lo ls → ∃ h', Fp p Lo h h' ∧ PL h' p (hvS P f k) np ni nd Lo ls ∧ ev z d 57 4 [.ref p, w1, .int (nI k)] [] h = some (.inl none, h')
  | 0, k, hk, G => by
    have h8 := G.1.ld
    refine ⟨h, Fp.rf, G, ?_⟩
    rw [S_Port_halveNextBlank_4 G.1.1 hw, G.1.2.1.cd, if_pos (nI_le (by omega) (by omega))]
  | f + 1, k, hk, G => by
    have h8 := G.1.ld
    have d1 := G.1.2.1.deed (show k < nd by omega) (show 10 < 12 by decide)
    have d2 := G.1.2.1.deed (show k < nd by omega) (show 8 < 12 by decide)
    unfold hvS
    by_cases c : P (45 + 12 * k + 10) = 0
    · rw [if_pos c]
      refine ⟨_, Fp.w ⟨by omega, by omega⟩, PT.wD1 (v := P (45 + 12 * k + 8) / nI 2) G (i := k) (c := 8) (by omega) (by decide), ?_⟩
      rw [S_Port_halveNextBlank_4 G.1.1 hw, G.1.2.1.cd, if_neg (nI_ge (by omega) (by omega)), ix_n (by omega) (by decide), d1, if_pos c, ix_n (by omega) (by decide), d2]
    · rw [if_neg c]
      obtain ⟨h', f', G', e'⟩ := T_C_hv hw f (k + 1) (by omega) G
      refine ⟨h', f', G', ?_⟩
      rw [S_Port_halveNextBlank_4 G.1.1 hw, G.1.2.1.cd, if_neg (nI_ge (by omega) (by omega)), ix_n (by omega) (by decide), d1, if_neg c, nI_add]
      exact e'
theorem T_M_hv (hR : RSk h R) (h5 : P 5 = nI nd) (h8 : nd ≤ 8) {j : Nat} (hj : j < 6) {w1 w3 : Value} (hw : zisL w3 = false) : ∀ f k, k + f = nd → ev z d 243 106 [.ref R, w1, .int (nI j), w3, .int (nI k)] [] (mH h R P) = some (.inl (some (.int (P (15 + 2 * j + 0)))), mH h R (hvS P f k))
  | 0, k, hk => by
    rw [S_M_warm_106 (mr hR), m1, h5, if_pos (nI_le (by omega) (by omega)), if_pos (nI_le (by omega) (by omega)), T_M_coins2 hR (by omega)]
    simp only [zbd_i, tl_s, S_M_warm_168]
    rfl
  | f + 1, k, hk => by
    rw [S_M_warm_106 (mr hR), m1, h5, if_neg (nI_ge (by omega) (by omega)), T_M_of2 hR (by omega)]
    simp only [zbd_i, tl_s]
    rw [S_M_warm_125 (mr hR) hw, m1, h5]
    unfold hvS
    by_cases c : P (45 + 12 * k + 10) = 0
    · rw [if_pos c, if_pos c, if_neg (nI_ge (by omega) (by omega)), T_M_of2 hR (by omega)]
      simp only [zbd_i, tl_s]
      rw [S_M_warm_158 (mr hR), T_M_lays2 hR (by omega)]
      simp only [zbd_i, tl_n]
      rw [S_M_warm_163 (mr hR), T_M_coins2 hR (by omega)]
      simp only [zbd_i, tl_s, S_M_warm_168]
      rw [up_n (by omega)]
    · rw [if_neg c, if_neg c, nI_add]
      exact T_M_hv hR h5 h8 hj hw f (k + 1) (by omega)
def wmK (P : Row) (ls : List LN) (np nd : Nat) (v w : Int32) : Nat := if inR v nd ∧ inR w np then (if P (45 + 12 * cN v + 10) = 0 ∧ cosS P ls (cN v) ≤ P (15 + 2 * cN w + 0) then 0 else 2) else 1
def wmR (P : Row) (ls : List LN) (nd : Nat) (i j : Nat) : Row := hvS (comeS (up P (15 + 2 * j + 0) (P (15 + 2 * j + 0) - cosS P ls i)) i) (nd - (i + 1)) (i + 1)
def wmQ (S : PSt) (ls : List LN) (Lo : Option Nat) (K : Option Img) (A : List PSt) (tl : Nat) (T : Row) (ft v w : Int32) : Stt := if wmK S.1 ls S.2.1 S.2.2.2 v w = 0 then (((wmR S.1 ls S.2.2.2 (cN v) (cN w), S.2), ls, Lo), K, rmA S A, tl, T, ft) else ((S, ls, Lo), K, A, tl, T, ft)
theorem wmR_c {i j : Nat} (hi : i < nd) (h8 : nd ≤ 8) (hj : j < 6) : wmR P ls nd i j (15 + 2 * j + 0) = P (15 + 2 * j + 0) - cosS P ls i := (hvS_o (by omega) _ _ (by omega)).trans ((comeS_o (by omega) (by omega) (by omega) (by omega)).trans up_a)
theorem C_warm (t : Tp h) (H : CI z h X S ls Lo K A tl T ft) (ok : OkA S ls K A) : CA z d h X Lo 111 [.ref X, .int v, .int w, zu] [2, 1] (wmK S.1 ls S.2.1 S.2.2.2 v w) (S.1 (15 + 2 * cN w + 0) - cosS S.1 ls (cN v)) (wmQ S ls Lo K A tl T ft v w) := by
  have h8 := ok.1.1.1.2.2.2.2.2
  have h6 := ok.1.1.1.2.2.2.1
  unfold wmQ wmK
  by_cases c : inR v S.2.2.2 ∧ inR w S.2.1
  · simp only [if_pos c]
    obtain ⟨i, hi, rfl⟩ := (inR_iff (by omega)).mp c.1
    obtain ⟨j, hj, rfl⟩ := (inR_iff (by omega)).mp c.2
    obtain ⟨h1, e1, f1⟩ := T_Port_costsOf (z := z) (d := d) (k := i) H.sk H.rp ok.1.1.2.2.2.2.2 hi H.2.1.2.1 H.2.1.2.2.1 H.2.1.2.2.2
    have fd : Fr (Dz X Lo) h h1 := f1.mo (fun x q => Az_D q)
    have H1 := H.dz fd
    have st : ev z d 111 0 [.ref X, .int (nI i), .int (nI j), zu] [] h = ev z d 111 18 [.ref X, .int (nI i), .int (nI j), zu] [.int (cosS S.1 ls i)] h1 := by
      rw [S_LI_warm_0 H.1.1, C_needDeed H, if_pos c.1]
      simp only [zbd_i, tl_n]
      rw [S_LI_warm_5 H.1.1, C_needParty H, if_pos c.2]
      simp only [zbd_i, tl_n]
      rw [S_LI_warm_10 H.1.1, e1]
      simp only [zbd_i, tl_s]
    rw [S_LI_warm_18 H1.1.1, ix_n (by omega) (by decide), H1.rp.deed hi (by decide), ix_n (by omega) (by decide), H1.rp.party hj (by decide)] at st
    simp only [cN_nI (show i < 2 ^ 31 by omega), cN_nI (show j < 2 ^ 31 by omega)]
    by_cases c2 : S.1 (45 + 12 * i + 10) = 0 ∧ cosS S.1 ls i ≤ S.1 (15 + 2 * j + 0)
    · simp only [if_pos c2]
      rw [if_pos trivial]
      rw [if_pos c2.1, if_pos c2.2] at st
      obtain ⟨h2, e2, f2, H2⟩ := C_remember (z := z) (d := d) H1 ok.1.1
      have G := PT.wP1 (v := S.1 (15 + 2 * j + 0) - cosS S.1 ls i) (c := 0) H2.2.1 (i := j) (by omega) (by decide)
      have f3 : Fp (X + 4) Lo h2 (zwI h2 (X + 4 + 8 + j) 0 (S.1 (15 + 2 * j + 0) - cosS S.1 ls i)) := Fp.w ⟨by omega, by omega⟩
      obtain ⟨h4, e4, f4, P4⟩ := T_C_comeUp (z := z) (d := d) (k := i) (Lo := Lo) G.1 hi
      have G4 := G.of f4 P4 (comeS_o (by decide) (Or.inl (by decide)) (by omega) (by omega))
      obtain ⟨h5, f5, G5, e5⟩ := T_C_hv (z := z) (d := d) (w1 := .int (nI i)) rfl (S.2.2.2 - (i + 1)) (i + 1) (by omega) G4
      have X4 : XSk h4 X := (f3.tr f4).nX H2.1.2.2.1 H2.1.1
      have X5 : XSk h5 X := f5.nX H2.1.2.2.1 X4
      have ff : Fp (X + 4) Lo h2 h5 := (f3.tr f4).tr f5
      refine ⟨h5, ?_, ?_, H2.port (S1 := (wmR S.1 ls S.2.2.2 i j, S.2)) ff G5⟩
      · rw [st, e2]
        simp only [zbd_i, tl_n]
        rw [S_LI_warm_62 H2.1.1, ix_n (by omega) (by decide), H2.rp.party hj (by decide), e4]
        simp only [zbd_i, tl_n]
        rw [S_LI_warm_88 X4, S_Port_halveNextBlank_0, nI_add, e5]
        simp only [zbd_i, tl_n]
        rw [S_LI_warm_96 X5, ix_n (by omega) (by decide), G5.1.2.1.party hj (by decide)]
        have := wmR_c (P := S.1) (ls := ls) hi h8 (show j < 6 by omega)
        unfold wmR at this
        rw [this]
        rfl
      · exact (Mv.fr ((fd.mo (fun y q => Dz_X q)).tr ((f2.mo (fun y q => Or.inl q)).tr (ff.1.mo (fun y q => Sz_X q))))).mo (fun _ q => q) (by decide) (by decide)
    · simp only [if_neg c2]
      rw [if_neg (by decide)]
      refine CA.dx t H fd rfl ?_
      rw [st]
      by_cases c3 : S.1 (45 + 12 * i + 10) = 0
      · rw [if_pos c3, if_neg (fun q => c2 ⟨c3, q⟩)]
        rfl
      · rw [if_neg c3]
        rfl
  · simp only [if_neg c]
    rw [if_neg (by decide)]
    refine CA.x t H rfl ?_
    rw [S_LI_warm_0 H.1.1, C_needDeed H]
    by_cases c1 : inR v S.2.2.2
    · rw [if_pos c1]
      simp only [zbd_i, tl_n]
      rw [S_LI_warm_5 H.1.1, C_needParty H, if_neg (fun q => c ⟨c1, q⟩)]
      simp only [zbd_e]
      exact evx_nil rfl
    · rw [if_neg c1]
      simp only [zbd_e]
      exact evx_nil rfl
theorem R_warm (W : WA z h) (H : RI h R S K A tl T ft) (ok : OkA S ls K A) : RB z (d + 7) h R 243 [.ref R, .int v, .int w, zu, zu] (wmK S.1 ls S.2.1 S.2.2.2 v w) (S.1 (15 + 2 * cN w + 0) - cosS S.1 ls (cN v)) (wmQ S ls Lo K A tl T ft v w) := by
  have h8 := ok.1.1.1.2.2.2.2.2
  have h6 := ok.1.1.1.2.2.2.1
  unfold wmQ wmK
  by_cases c : inR v S.2.2.2 ∧ inR w S.2.1
  · simp only [if_pos c]
    obtain ⟨i, hi, rfl⟩ := (inR_iff (by omega)).mp c.1
    obtain ⟨j, hj, rfl⟩ := (inR_iff (by omega)).mp c.2
    have G := H.w0 (v := nI 0)
    obtain ⟨h1, e1, f1⟩ := T_M_costsOf (z := z) (d := d) (P := S.1) (np := S.2.1) (ni := S.2.2.1) (nd := S.2.2.2) (k := i) G.1.1 (W.rz H.1.1 FZ0) ok.1.1.2.1 ok.1.1.2.2.2.2.2 ok.1.1.1.2.2.2.2.1 h8 ok.1.2.1 hi
    have H1 := G.s (Rs.ra f1)
    rw [G.id, H1.id] at e1
    have st : ev z (d + 7) 243 0 [.ref R, .int (nI i), .int (nI j), zu, zu] [] h = ev z (d + 7) 243 48 [.ref R, .int (nI i), .int (nI j), .int (cosS S.1 ls i), zu] [.int (S.1 (45 + 12 * i + 10)), .ref R] h1 := by
      rw [S_M_warm_0 H.1.1, R_isDeed H ok.1.1]
      simp only [zbd_i, tl_s]
      rw [S_M_warm_6 H.1.1, chk3, if_pos c.1, R_isParty H ok.1.1]
      simp only [zbd_i, tl_s]
      rw [S_M_warm_14 H.1.1, chk, if_pos c.2, e1]
      simp only [zbd_i, tl_s]
      rw [S_M_warm_39 H1.1.1, T_M_of H1.1.1 (by omega), H1.i]
      simp only [zbd_i, tl_s]
    simp only [cN_nI (show i < 2 ^ 31 by omega), cN_nI (show j < 2 ^ 31 by omega)]
    by_cases c2 : S.1 (45 + 12 * i + 10) = 0 ∧ cosS S.1 ls i ≤ S.1 (15 + 2 * j + 0)
    · simp only [if_pos c2]
      rw [if_pos trivial]
      have G1 := H1.w0 (v := nI 0)
      obtain ⟨h2, e2, f2, H2, z2⟩ := R_rem (z := z) (d := d + 7) G1
      have e3 : zwI h2 (R + 1) (15 + 2 * j) (S.1 (15 + 2 * j) - cosS S.1 ls i) = mH h2 R (up S.1 (15 + 2 * j + 0) (S.1 (15 + 2 * j + 0) - cosS S.1 ls i)) := by
        rw [← mw (k := 15 + 2 * j + 0), H2.id]
        rfl
      have s1 : RSk h2 R := H2.1.1
      refine RB.s (h' := mH h2 R (wmR S.1 ls S.2.2.2 i j)) ?_ (FZ0.tr (f1.fz.tr (FZ0.tr (f2.tr (v_f ⟨by omega, by omega⟩))))) (moR.trans (z2.trans zI_wa)) H2.m
      rw [st, S_M_warm_48 H1.1.1, if_pos c2.1, T_M_coins H1.1.1 (by omega), H1.i]
      simp only [zbd_i, tl_s]
      rw [S_M_warm_56 H1.1.1, if_pos (show cosS S.1 ls i ≤ S.1 (15 + 2 * j) from c2.2), if_pos (by decide), e2]
      simp only [zbd_i, tl_n]
      rw [S_M_warm_81 s1, pk_mul, nI_add, ix_n (by omega) (by decide), ix_n (by omega) (by decide), H2.i, e3, T_M_comesUp s1 (by omega)]
      simp only [zbd_i, tl_n]
      rw [S_M_warm_101 rfl, nI_add, T_M_hv s1 ((comeS_o (by decide) (Or.inl (by decide)) (by omega) (by omega)).trans ((up_n (by omega)).trans ok.1.1.1.2.2.1)) h8 (by omega) rfl (S.2.2.2 - (i + 1)) (i + 1) (by omega), comeS_o (by omega) (by omega) (by omega) (by omega), up_a]
      rfl
    · simp only [if_neg c2]
      rw [if_neg (by decide)]
      refine RB.t2 (h' := zwI h1 R 0 (nI 2)) (w := nI 0) (by decide) ?_ (FZ0.tr (f1.fz.tr FZ0)) zI_wa H1.w0
      rw [st, S_M_warm_48 H1.1.1]
      by_cases c3 : S.1 (45 + 12 * i + 10) = 0
      · rw [if_pos c3, T_M_coins H1.1.1 (by omega), H1.i]
        simp only [zbd_i, tl_s]
        rw [S_M_warm_56 H1.1.1, if_neg (show ¬ cosS S.1 ls i ≤ S.1 (15 + 2 * j) from fun q => c2 ⟨c3, q⟩), if_neg (by decide)]
      · rw [if_neg c3, if_neg (by decide)]
  · simp only [if_neg c]
    rw [if_neg (by decide)]
    refine RB.t H (by decide) (w := nI 0) ?_
    rw [S_M_warm_0 H.1.1, R_isDeed H ok.1.1]
    simp only [zbd_i, tl_s]
    rw [S_M_warm_6 H.1.1, chk3]
    by_cases c1 : inR v S.2.2.2
    · rw [if_pos c1, R_isParty H ok.1.1]
      simp only [zbd_i, tl_s]
      rw [S_M_warm_14 H.1.1, chk, if_neg (fun q => c ⟨c1, q⟩)]
    · rw [if_neg c1]
theorem O_warm (ok : OkA S ls K A) : OV (wmQ S ls Lo K A tl T ft v w) := by
  have h8 := ok.1.1.1.2.2.2.2.2
  have h6 := ok.1.1.1.2.2.2.1
  unfold wmQ
  by_cases c : wmK S.1 ls S.2.1 S.2.2.2 v w = 0
  · rw [if_pos c]
    unfold wmK at c
    by_cases c1 : inR v S.2.2.2 ∧ inR w S.2.1
    · rw [if_pos c1] at c
      obtain ⟨i, hi, rfl⟩ := (inR_iff (by omega)).mp c1.1
      obtain ⟨j, hj, rfl⟩ := (inR_iff (by omega)).mp c1.2
      rw [cN_nI (by omega), cN_nI (by omega)] at c ⊢
      by_cases c2 : S.1 (45 + 12 * i + 10) = 0 ∧ cosS S.1 ls i ≤ S.1 (15 + 2 * j + 0)
      · obtain ⟨a, ha, ea⟩ := (ok.1.1.2.2.2.1 j hj).2
        obtain ⟨r, hr, er⟩ := cosS_b (k := i) ok.1.1.2.2.2.2.2 ok.1.2.1
        have l1 : r ≤ a := (nI_leI (by omega) (by omega)).mp (by rw [← er, ← ea]; exact c2.2)
        have O1 := Ok_P ok.1.1 hj (c := 0) (v := S.1 (15 + 2 * j + 0) - cosS S.1 ls i) (by decide) (fun _ => ⟨a - r, by omega, by rw [ea, er, pk_sub l1]⟩) (by omega)
        have O2 := comeS_ok (P := up S.1 (15 + 2 * j + 0) (S.1 (15 + 2 * j + 0) - cosS S.1 ls i)) (np := S.2.1) (ni := S.2.2.1) (nd := S.2.2.2) O1 hi
        have O3 := hvS_ok O2 (S.2.2.2 - (i + 1)) (i + 1) (by omega)
        have e : ∀ y, (y = 1 ∨ y = 2 ∨ 381 ≤ y) → wmR S.1 ls S.2.2.2 i j y = S.1 y := fun y hy => (hvS_o (by omega) _ _ (by omega)).trans ((comeS_o (by omega) (by omega) (by omega) (by omega)).trans (up_n (by omega)))
        exact OkA.act (S1 := (wmR S.1 ls S.2.2.2 i j, S.2)) ok.rm O3 e (OkL_cg ok.1.2.1 e)
      · rw [if_neg c2] at c; cases c
    · rw [if_neg c1] at c; cases c
  · rw [if_neg c]
    exact ok
end
