/-! BURN, LEND, WRITE in both -/
section
variable {z : ZE} {d : Nat} {h h' g : Hp} {X R : Nat} {S S1 : PSt} {K : Option Img} {A : List PSt} {tl : Nat} {T : Row} {ft : Int32} {ls : List LN} {Lo : Option Nat} {m k x : Nat} {as : List Value} {es : List Nat} {v w u : Int32}
def brnK (P : Row) (nd : Nat) (v : Int32) : Nat := if inR v nd then (if P (45 + 12 * cN v + 10) = nI 3 then 2 else 0) else 1
def brnR (P : Row) (v : Int32) : Row := logP (up P (45 + 12 * cN v + 10) (nI 3)) v (nI 4) (nI 0)
def brnQ (S : PSt) (ls : List LN) (Lo : Option Nat) (K : Option Img) (A : List PSt) (tl : Nat) (T : Row) (ft v : Int32) : Stt := if brnK S.1 S.2.2.2 v = 0 then (((brnR S.1 v, S.2), ls, Lo), K, rmA S A, tl, T, ft) else ((S, ls, Lo), K, A, tl, T, ft)
theorem RB.t2 {q : Stt} (hk : k ≠ 0) (e : ev z d m 0 as [] h = some (.inl (some (.int w)), h')) (f : Fr (Rz R) h h') (z0 : zI h' R 0 = nI k) (H : RV h' R q) : RB z d h R m as k v q := ⟨h', w, e, f, z0, fun q => absurd q hk, H⟩
theorem C_burn (t : Tp h) (H : CI z h X S ls Lo K A tl T ft) (ok : Ok S) : CA z d h X Lo 112 [.ref X, .int v, zu] [2, 1] (brnK S.1 S.2.2.2 v) (S.1 (45 + 12 * cN v + 10)) (brnQ S ls Lo K A tl T ft v) := by
  have h8 := ok.1.2.2.2.2.2
  unfold brnQ brnK
  by_cases c : inR v S.2.2.2
  · obtain ⟨i, hi, rfl⟩ := (inR_iff (by omega)).mp c
    simp only [if_pos c]
    by_cases c2 : S.1 (45 + 12 * cN (nI i) + 10) = nI 3
    · simp only [if_pos c2]
      rw [if_neg (by decide)]
      refine CA.x t H rfl ?_
      rw [S_LI_burn_0 H.1.1, C_needDeed H, if_pos c]
      simp only [zbd_i, tl_n]
      rw [S_LI_burn_5 H.1.1, ix_n (by omega) (by decide), H.rp.deed hi (by decide)]
      rw [cN_nI (by omega)] at c2
      rw [if_pos c2]
      rfl
    · simp only [if_neg c2]
      rw [if_pos trivial]
      rw [cN_nI (by omega)] at c2 ⊢
      unfold brnR
      rw [cN_nI (by omega)]
      obtain ⟨h1, e1, f1, H1⟩ := C_remember (z := z) (d := d) H ok
      have G := PT.wD1 (v := nI 3) (c := 10) H1.2.1 (i := i) (by omega) (by decide)
      have f2 : Fp (X + 4) Lo h1 (zwI h1 (X + 4 + 20 + i) 10 (nI 3)) := Fp.w ⟨by omega, by omega⟩
      obtain ⟨h2, e2, f3, P2⟩ := T_Port_log (z := z) (d := d) (u := nI i) (v := nI 4) (w := nI 0) G.1
      have e11 : logP (up S.1 (45 + 12 * i + 10) (nI 3)) (nI i) (nI 4) (nI 0) 1 = up S.1 (45 + 12 * i + 10) (nI 3) 1 := logP_o (by decide) (Or.inl (by decide))
      have G2 := G.of (Fp.lg f3) P2 e11
      refine CA.act (h' := h2) f1 H1 (f2.tr (Fp.lg f3)) G2 ?_
      rw [S_LI_burn_0 H.1.1, C_needDeed H, if_pos c]
      simp only [zbd_i, tl_n]
      rw [S_LI_burn_5 H.1.1, ix_n (by omega) (by decide), H.rp.deed hi (by decide), if_neg c2, e1]
      simp only [zbd_i, tl_n]
      have e6 : up S.1 (45 + 12 * i + 10) (nI 3) 6 = S.1 6 := up_n (by omega)
      rw [e6] at e2
      rw [S_LI_burn_35 H1.1.1, ix_n (by omega) (by decide), H1.rp.time, e2]
      simp only [zbd_i, tl_n, S_LI_burn_68]
  · simp only [if_neg c]
    rw [if_neg (by decide)]
    refine CA.x t H rfl ?_
    rw [S_LI_burn_0 H.1.1, C_needDeed H, if_neg c]
    simp only [zbd_e]
    exact evx_nil rfl
theorem R_burn (H : RI h R S K A tl T ft) (ok : Ok S) : RB z d h R 244 [.ref R, .int v, zu] (brnK S.1 S.2.2.2 v) (S.1 (45 + 12 * cN v + 10)) (brnQ S ls Lo K A tl T ft v) := by
  have h8 := ok.1.2.2.2.2.2
  unfold brnQ brnK
  by_cases c : inR v S.2.2.2
  · obtain ⟨i, hi, rfl⟩ := (inR_iff (by omega)).mp c
    simp only [if_pos c]
    have G := H.w0 (v := nI 0)
    have q1 : ∀ {F : Option Value → Hp → Option (zO × Hp)} {E : Nat → Hp → Option (zO × Hp)}, zbd (ev z d 179 0 [.ref R, .int (nI i), .int (nI 10)] [] (zwI h R 0 (nI 0))) F E = F (some (.int (S.1 (45 + 12 * i + 10)))) (zwI h R 0 (nI 0)) := by
      intro F E
      rw [T_M_of G.1.1 (by omega), G.i]
      rfl
    by_cases c2 : S.1 (45 + 12 * cN (nI i) + 10) = nI 3
    · simp only [if_pos c2]
      rw [if_neg (by decide)]
      refine RB.t2 (h' := zwI (zwI h R 0 (nI 0)) R 0 (nI 2)) (w := nI 0) (by decide) ?_ (FZ0.tr FZ0) zI_wa G.w0
      rw [cN_nI (by omega)] at c2
      rw [S_M_burn_0 H.1.1, R_isDeed H ok]
      simp only [zbd_i, tl_s]
      rw [S_M_burn_6 H.1.1, chk, if_pos c, q1]
      simp only [tl_s]
      rw [S_M_burn_34 G.1.1, if_pos c2, if_neg (by decide)]
    · simp only [if_neg c2]
      rw [if_pos trivial]
      rw [cN_nI (by omega)] at c2 ⊢
      unfold brnR
      rw [cN_nI (by omega)]
      have G2 := G.w0 (v := nI 0)
      obtain ⟨h1, e1, f1, H1, z1⟩ := R_sets (z := z) (d := d) (v := nI 3) G2 (k := 45 + 12 * i + 10) (by omega)
      have e2 := T_M_logs (z := z) (d := d) (P := up S.1 (45 + 12 * i + 10) (nI 3)) (u := nI i) (v := nI 4) (w := nI 0) H1.1.1
      have i1 := H1.id
      dsimp only at i1
      rw [i1] at e2
      refine RB.s (h' := mH h1 R (logP (up S.1 (45 + 12 * i + 10) (nI 3)) (nI i) (nI 4) (nI 0))) ?_ ((FZ0.tr FZ0).tr (f1.tr (v_f ⟨by omega, by omega⟩))) (moR.trans (z1.trans zI_wa)) H1.m
      rw [S_M_burn_0 H.1.1, R_isDeed H ok]
      simp only [zbd_i, tl_s]
      rw [S_M_burn_6 H.1.1, chk, if_pos c, q1]
      simp only [tl_s]
      rw [S_M_burn_34 G.1.1, if_neg c2, if_pos (by decide), pk_mul, nI_add, nI_add, e1]
      simp only [zbd_i, tl_s]
      rw [S_M_burn_70 H1.1.1, e2]
      simp only [zbd_i, tl_n, S_M_burn_78]
  · simp only [if_neg c]
    rw [if_neg (by decide)]
    refine RB.t H (by decide) (w := nI 0) ?_
    rw [S_M_burn_0 H.1.1, R_isDeed H ok]
    simp only [zbd_i, tl_s]
    rw [S_M_burn_6 H.1.1, chk, if_neg c]
theorem O_burn (ok : OkA S ls K A) : OV (brnQ S ls Lo K A tl T ft v) := by
  have h8 := ok.1.1.1.2.2.2.2.2
  unfold brnQ
  by_cases c : brnK S.1 S.2.2.2 v = 0
  · rw [if_pos c]
    unfold brnK at c
    by_cases c1 : inR v S.2.2.2
    · obtain ⟨i, hi, rfl⟩ := (inR_iff (by omega)).mp c1
      unfold brnR
      rw [cN_nI (by omega)]
      have e : ∀ j, (j = 1 ∨ j = 2 ∨ 381 ≤ j) → logP (up S.1 (45 + 12 * i + 10) (nI 3)) (nI i) (nI 4) (nI 0) j = S.1 j := fun j hj => (logP_o (by omega) (by omega)).trans (up_n (by omega))
      exact OkA.act ok.rm (Ok_log (S := (up S.1 (45 + 12 * i + 10) (nI 3), S.2)) (Ok_D ok.1.1 hi (by decide) (by decide) (by omega) (by omega) (by omega) (fun _ => ⟨3, by decide, rfl⟩) (by omega))) e (OkL_cg ok.1.2.1 e)
    · rw [if_neg c1] at c; cases c
  · rw [if_neg c]
    exact ok
/-! LEND -/
abbrev in1 (n : Nat) (v : Int32) : Prop := isin v (nI 1) (nI n)
theorem in1_iff {n : Nat} (hn : n < 2 ^ 31) : in1 n v ↔ ∃ j, 1 ≤ j ∧ j ≤ n ∧ v = nI j := by
  constructor
  · rintro ⟨h1, h2⟩
    have h0 : ¬ v < 0 := by
      rw [Int32.le_iff_toInt_le] at h1
      rw [Int32.lt_iff_toInt_lt]
      have : (nI 1).toInt = 1 := by decide
      have : (0 : Int32).toInt = 0 := by decide
      omega
    obtain ⟨j, hj, rfl⟩ := nI_of h0
    exact ⟨j, (nI_leI (by omega) hj).mp h1, (nI_leI hj hn).mp h2, rfl⟩
  · rintro ⟨j, h1, h2, rfl⟩
    exact ⟨nI_le h1 (by omega), nI_le h2 hn⟩
theorem lt_le1 {n : Nat} {A B : Option (zO × Hp)} : (if v < nI 1 then A else (if v ≤ nI n then B else A)) = if in1 n v then B else A := by
  by_cases h1 : v < nI 1
  · rw [if_pos h1, if_neg (fun q => Int32.not_le.mpr h1 q.1)]
  · rw [if_neg h1]
    by_cases h2 : v ≤ nI n
    · rw [if_pos h2, if_pos ⟨Int32.not_lt.mp h1, h2⟩]
    · rw [if_neg h2, if_neg (fun q => h2 q.2)]
def lnK (P : Row) (np : Nat) (v w u : Int32) : Nat := if inR v np then (if inR w np then (if v = w then 2 else if in1 999 u then (if P (15 + 2 * cN v + 0) < u then 3 else if P (15 + 2 * cN w + 0) + u ≤ nI 9999 then 0 else 3) else 2) else 1) else 1
def lnR (P : Row) (v w u : Int32) : Row := up (up P (15 + 2 * cN v + 0) (P (15 + 2 * cN v + 0) - u)) (15 + 2 * cN w + 0) (up P (15 + 2 * cN v + 0) (P (15 + 2 * cN v + 0) - u) (15 + 2 * cN w + 0) + u)
def lnQ (S : PSt) (ls : List LN) (Lo : Option Nat) (K : Option Img) (A : List PSt) (tl : Nat) (T : Row) (ft v w u : Int32) : Stt := if lnK S.1 S.2.1 v w u = 0 then (((lnR S.1 v w u, S.2), ls, Lo), K, rmA S A, tl, T, ft) else ((S, ls, Lo), K, A, tl, T, ft)
theorem C_lend (t : Tp h) (H : CI z h X S ls Lo K A tl T ft) (ok : Ok S) : CA z d h X Lo 113 [.ref X, .int v, .int w, .int u] [2, 0, 1] (lnK S.1 S.2.1 v w u) (S.1 (15 + 2 * cN v + 0) - u) (lnQ S ls Lo K A tl T ft v w u) := by
  have h6 := ok.1.2.2.2.1
  unfold lnQ lnK
  by_cases c : inR v S.2.1
  · obtain ⟨i, hi, rfl⟩ := (inR_iff (by omega)).mp c
    have q1 : ∀ {F : Option Value → Hp → Option (zO × Hp)} {E : Nat → Hp → Option (zO × Hp)}, zbd (ev z d 155 0 [.ref X, .int (nI i)] [] h) F E = F none h := by
      intro F E
      rw [C_needParty H, if_pos c]
      rfl
    simp only [if_pos c]
    by_cases c2 : inR w S.2.1
    · obtain ⟨j, hj, rfl⟩ := (inR_iff (by omega)).mp c2
      simp only [if_pos c2]
      have q2 : ∀ {F : Option Value → Hp → Option (zO × Hp)} {E : Nat → Hp → Option (zO × Hp)}, zbd (ev z d 155 0 [.ref X, .int (nI j)] [] h) F E = F none h := by
        intro F E
        rw [C_needParty H, if_pos c2]
        rfl
      by_cases c3 : nI i = nI j
      · simp only [if_pos c3]
        rw [if_neg (by decide)]
        refine CA.x t H rfl ?_
        rw [S_LI_lend_0 H.1.1, q1]
        simp only [tl_n]
        rw [S_LI_lend_5 H.1.1, q2]
        simp only [tl_n]
        rw [S_LI_lend_10, S_LI_needTwo_0, if_pos c3]
        simp only [zbd_e]
        exact evx_nil rfl
      · simp only [if_neg c3]
        have st : ev z d 113 0 [.ref X, .int (nI i), .int (nI j), .int u] [] h = ev z d 113 15 [.ref X, .int (nI i), .int (nI j), .int u] [] h := by
          rw [S_LI_lend_0 H.1.1, q1]
          simp only [tl_n]
          rw [S_LI_lend_5 H.1.1, q2]
          simp only [tl_n]
          rw [S_LI_lend_10, S_LI_needTwo_0, if_neg c3]
          simp only [zbd_i, tl_n]
        by_cases c4 : in1 999 u
        · simp only [if_pos c4]
          have a1 := H.rp.party hi (show 0 < 2 by decide)
          have a2 := H.rp.party hj (show 0 < 2 by decide)
          simp only [cN_nI (show i < 2 ^ 31 by omega), cN_nI (show j < 2 ^ 31 by omega)]
          by_cases c5 : S.1 (15 + 2 * i + 0) < u
          · simp only [if_pos c5]
            rw [if_neg (by decide)]
            refine CA.x t H rfl ?_
            rw [st, S_LI_lend_15 H.1.1, lt_le1, if_pos c4, ix_n (by omega) (by decide), a1, if_pos c5]
            rfl
          · simp only [if_neg c5]
            by_cases c6 : S.1 (15 + 2 * j + 0) + u ≤ nI 9999
            · simp only [if_pos c6]
              rw [if_pos trivial]
              unfold lnR
              rw [cN_nI (show i < 2 ^ 31 by omega), cN_nI (show j < 2 ^ 31 by omega)]
              obtain ⟨h1, e1, f1, H1⟩ := C_remember (z := z) (d := d) H ok
              have G := PT.wP1 (v := S.1 (15 + 2 * i + 0) - u) (c := 0) H1.2.1 (i := i) (by omega) (by decide)
              have f2 : Fp (X + 4) Lo h1 (zwI h1 (X + 4 + 8 + i) 0 (S.1 (15 + 2 * i + 0) - u)) := Fp.w ⟨by omega, by omega⟩
              have b1 := H1.rp.party hi (show 0 < 2 by decide)
              have b2 := G.1.2.1.party hj (show 0 < 2 by decide)
              have G2 := PT.wP1 (v := up S.1 (15 + 2 * i + 0) (S.1 (15 + 2 * i + 0) - u) (15 + 2 * j + 0) + u) (c := 0) G (i := j) (by omega) (by decide)
              refine CA.act f1 H1 (f2.a (show Pz (X + 4) (X + 4 + 8 + j) from ⟨by omega, by omega⟩)) G2 ?_
              rw [st, S_LI_lend_15 H.1.1, lt_le1, if_pos c4, ix_n (by omega) (by decide), a1, if_neg c5, ix_n (by omega) (by decide), a2, if_pos c6, e1]
              simp only [zbd_i, tl_n]
              have ne : i ≠ j := fun q => c3 (by rw [q])
              rw [S_LI_lend_83 H1.1.1, ix_n (by omega) (by decide), ix_n (by omega) (by decide), ix_n (by omega) (by decide), b1, b2, zI_wb (by omega), zI_wa]
            · simp only [if_neg c6]
              rw [if_neg (by decide)]
              refine CA.x t H rfl ?_
              rw [st, S_LI_lend_15 H.1.1, lt_le1, if_pos c4, ix_n (by omega) (by decide), a1, if_neg c5, ix_n (by omega) (by decide), a2, if_neg c6]
              rfl
        · simp only [if_neg c4]
          rw [if_neg (by decide)]
          refine CA.x t H rfl ?_
          rw [st, S_LI_lend_15 H.1.1, lt_le1, if_neg c4]
          rfl
    · simp only [if_neg c2]
      rw [if_neg (by decide)]
      refine CA.x t H rfl ?_
      rw [S_LI_lend_0 H.1.1, q1]
      simp only [tl_n]
      rw [S_LI_lend_5 H.1.1, C_needParty H, if_neg c2]
      simp only [zbd_e]
      exact evx_nil rfl
  · simp only [if_neg c]
    rw [if_neg (by decide)]
    refine CA.x t H rfl ?_
    rw [S_LI_lend_0 H.1.1, C_needParty H, if_neg c]
    simp only [zbd_e]
    exact evx_nil rfl
theorem R_lend (H : RI h R S K A tl T ft) (ok : Ok S) : RB z d h R 245 [.ref R, .int v, .int w, .int u, zu] (lnK S.1 S.2.1 v w u) (S.1 (15 + 2 * cN v + 0) - u) (lnQ S ls Lo K A tl T ft v w u) := by
  have h6 := ok.1.2.2.2.1
  unfold lnQ lnK
  by_cases c : inR v S.2.1
  · obtain ⟨i, hi, rfl⟩ := (inR_iff (by omega)).mp c
    simp only [if_pos c]
    by_cases c2 : inR w S.2.1
    · obtain ⟨j, hj, rfl⟩ := (inR_iff (by omega)).mp c2
      simp only [if_pos c2]
      have st : ev z d 245 0 [.ref R, .int (nI i), .int (nI j), .int u, zu] [] h = ev z d 245 14 [.ref R, .int (nI i), .int (nI j), .int u, zu] [.int (bI (inR (nI j) S.2.1)), .ref R] h := by
        rw [S_M_lend_0 H.1.1, R_isParty H ok]
        simp only [zbd_i, tl_s]
        rw [S_M_lend_6 H.1.1, chk3, if_pos c, R_isParty H ok]
        simp only [zbd_i, tl_s]
      by_cases c3 : nI i = nI j
      · simp only [if_pos c3]
        rw [if_neg (by decide)]
        refine RB.t H (by decide) (w := nI 0) ?_
        rw [st, S_M_lend_14 H.1.1, chk3, if_pos c2, if_pos c3, if_neg (by decide)]
      · simp only [if_neg c3]
        have st2 : ev z d 245 0 [.ref R, .int (nI i), .int (nI j), .int u, zu] [] h = ev z d 245 34 [.ref R, .int (nI i), .int (nI j), .int u, zu] [.int (bI (in1 999 u)), .ref R] h := by
          rw [st, S_M_lend_14 H.1.1, chk3, if_pos c2, if_neg c3, T_M_isIn]
          simp only [zbd_i, tl_s]
        by_cases c4 : in1 999 u
        · simp only [if_pos c4]
          have G := H.w0 (v := nI 0)
          have G2 := G.w0 (v := nI 0)
          have G3 := G2
          have st3 : ev z d 245 0 [.ref R, .int (nI i), .int (nI j), .int u, zu] [] h = ev z d 245 60 [.ref R, .int (nI i), .int (nI j), .int u, zu] [.int (S.1 (15 + 2 * i + 0)), .ref R] (zwI h R 0 (nI 0)) := by
            rw [st2, S_M_lend_34 H.1.1, chk2, if_pos c4, T_M_coins G.1.1 (by omega), G.i]
            simp only [zbd_i, tl_s]
            rfl
          simp only [cN_nI (show i < 2 ^ 31 by omega), cN_nI (show j < 2 ^ 31 by omega)]
          by_cases c5 : S.1 (15 + 2 * i + 0) < u
          · simp only [if_pos c5]
            rw [if_neg (by decide)]
            refine RB.t2 (h' := zwI (zwI h R 0 (nI 0)) R 0 (nI 3)) (w := nI 0) (by decide) ?_ (FZ0.tr FZ0) zI_wa G.w0
            rw [st3, S_M_lend_60 G.1.1, if_pos c5, if_neg (by decide)]
          · simp only [if_neg c5]
            have st4 : ev z d 245 0 [.ref R, .int (nI i), .int (nI j), .int u, zu] [] h = ev z d 245 69 [.ref R, .int (nI i), .int (nI j), .int u, zu] [.int (S.1 (15 + 2 * j + 0)), .ref R] (zwI h R 0 (nI 0)) := by
              rw [st3, S_M_lend_60 G.1.1, if_neg c5, T_M_coins G.1.1 (by omega), G.i]
              simp only [zbd_i, tl_s]
              rfl
            by_cases c6 : S.1 (15 + 2 * j + 0) + u ≤ nI 9999
            · simp only [if_pos c6]
              rw [if_pos trivial]
              unfold lnR
              rw [cN_nI (show i < 2 ^ 31 by omega), cN_nI (show j < 2 ^ 31 by omega)]
              obtain ⟨h1, e1, f1, H1, z1⟩ := R_sets (z := z) (d := d) (v := S.1 (15 + 2 * i + 0) - u) G2 (k := 15 + 2 * i + 0) (by omega)
              refine RB.s (h' := zwI h1 (R + 1) (15 + 2 * j + 0) (up S.1 (15 + 2 * i + 0) (S.1 (15 + 2 * i + 0) - u) (15 + 2 * j + 0) + u)) ?_ (((FZ0.tr FZ0).tr f1).a ⟨by omega, by omega⟩) ((zI_wb (by omega)).trans (z1.trans zI_wa)) H1.wr
              rw [st4, S_M_lend_69 G.1.1, if_pos c6, if_pos (by decide), T_M_coins G2.1.1 (by omega), G2.i]
              simp only [zbd_i, tl_s]
              rw [S_M_lend_106 G2.1.1, pk_mul, nI_add]
              have e1' : ev z d 240 0 [.ref R, .int (nI (15 + 2 * i)), .int (S.1 (15 + 2 * i) - u), zu] [] (zwI (zwI h R 0 (nI 0)) R 0 (nI 0)) = some (.inl (some (.int (S.1 (15 + 2 * i + 0)))), h1) := e1
              rw [e1']
              simp only [zbd_i, tl_s]
              rw [S_M_lend_111 H1.1.1, pk_mul, nI_add, ix_n (by omega) (by decide), ix_n (by omega) (by decide), H1.i]
              rfl
            · simp only [if_neg c6]
              rw [if_neg (by decide)]
              refine RB.t2 (h' := zwI (zwI h R 0 (nI 0)) R 0 (nI 3)) (w := nI 0) (by decide) ?_ (FZ0.tr FZ0) zI_wa G.w0
              rw [st4, S_M_lend_69 G.1.1, if_neg c6, if_neg (by decide)]
        · simp only [if_neg c4]
          rw [if_neg (by decide)]
          refine RB.t H (by decide) (w := nI 0) ?_
          rw [st2, S_M_lend_34 H.1.1, chk2, if_neg c4]
    · simp only [if_neg c2]
      rw [if_neg (by decide)]
      refine RB.t H (by decide) (w := nI 0) ?_
      rw [S_M_lend_0 H.1.1, R_isParty H ok]
      simp only [zbd_i, tl_s]
      rw [S_M_lend_6 H.1.1, chk3, if_pos c, R_isParty H ok]
      simp only [zbd_i, tl_s]
      rw [S_M_lend_14 H.1.1, chk3, if_neg c2]
  · simp only [if_neg c]
    rw [if_neg (by decide)]
    refine RB.t H (by decide) (w := nI 0) ?_
    rw [S_M_lend_0 H.1.1, R_isParty H ok]
    simp only [zbd_i, tl_s]
    rw [S_M_lend_6 H.1.1, chk3, if_neg c]
theorem O_lend (ok : OkA S ls K A) : OV (lnQ S ls Lo K A tl T ft v w u) := by
  have h6 := ok.1.1.1.2.2.2.1
  unfold lnQ
  by_cases c : lnK S.1 S.2.1 v w u = 0
  · rw [if_pos c]
    unfold lnK at c
    by_cases c1 : inR v S.2.1
    · rw [if_pos c1] at c
      by_cases c2 : inR w S.2.1
      · rw [if_pos c2] at c
        by_cases c3 : v = w
        · rw [if_pos c3] at c; cases c
        · rw [if_neg c3] at c
          by_cases c4 : in1 999 u
          · rw [if_pos c4] at c
            obtain ⟨i, hi, rfl⟩ := (inR_iff (by omega)).mp c1
            obtain ⟨j, hj, rfl⟩ := (inR_iff (by omega)).mp c2
            obtain ⟨n, n1, n2, rfl⟩ := (in1_iff (by decide)).mp c4
            unfold lnR
            rw [cN_nI (show i < 2 ^ 31 by omega), cN_nI (show j < 2 ^ 31 by omega)] at c ⊢
            by_cases c5 : S.1 (15 + 2 * i + 0) < nI n
            · rw [if_pos c5] at c; cases c
            · rw [if_neg c5] at c
              by_cases c6 : S.1 (15 + 2 * j + 0) + nI n ≤ nI 9999
              · have ne : i ≠ j := fun q => c3 (by rw [q])
                obtain ⟨a, ha, ea⟩ := (ok.1.1.2.2.2.1 i hi).2
                obtain ⟨b, hb, eb⟩ := (ok.1.1.2.2.2.1 j hj).2
                have w1 : up S.1 (15 + 2 * i + 0) (S.1 (15 + 2 * i + 0) - nI n) (15 + 2 * j + 0) = S.1 (15 + 2 * j + 0) := up_n (by omega)
                rw [w1]
                rw [ea] at c5 ⊢
                rw [eb, nI_add] at c6 ⊢
                have l1 : n ≤ a := by
                  rcases Nat.lt_or_ge a n with q | q
                  · exact absurd (nI_lt q (by omega)) c5
                  · exact q
                have l2 : b + n ≤ 9999 := (nI_leI (by omega) (by decide)).mp c6
                rw [pk_sub l1]
                have O1 := Ok_P ok.1.1 hi (c := 0) (v := nI (a - n)) (by decide) (fun _ => ⟨a - n, by omega, rfl⟩) (by omega)
                have O2 := Ok_P O1 hj (c := 0) (v := nI (b + n)) (by decide) (fun _ => ⟨b + n, by omega, rfl⟩) (by omega)
                have e : ∀ y, (y = 1 ∨ y = 2 ∨ 381 ≤ y) → up (up S.1 (15 + 2 * i + 0) (nI (a - n))) (15 + 2 * j + 0) (nI (b + n)) y = S.1 y := fun y hy => (up_n (by omega)).trans (up_n (by omega))
                exact OkA.act ok.rm O2 e (OkL_cg ok.1.2.1 e)
              · rw [if_neg c6] at c; cases c
          · rw [if_neg c4] at c; cases c
      · rw [if_neg c2] at c; cases c
    · rw [if_neg c1] at c; cases c
  · rw [if_neg c]
    exact ok
end
