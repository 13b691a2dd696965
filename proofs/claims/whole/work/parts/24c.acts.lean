/-! ACTS: what a port is written; SALT, SEED, BAR, BURN, LEND in both -/
def OV (q : Stt) : Prop := OkA q.1.1 q.1.2.1 q.2.1 q.2.2.1
section
variable {z : ZE} {d : Nat} {h h' g : Hp} {X R : Nat} {S S1 : PSt} {K : Option Img} {A : List PSt} {tl : Nat} {T : Row} {ft : Int32} {ls : List LN} {Lo : Option Nat} {m k x : Nat} {as : List Value} {es : List Nat} {v w : Int32}
theorem CI.port (H : CI z h X S ls Lo K A tl T ft) (f : Fp (X + 4) Lo h h') (G : PL h' (X + 4) S1.1 S1.2.1 S1.2.2.1 S1.2.2.2 Lo ls) : CI z h' X S1 ls Lo K A tl T ft := by
  have ks : ∀ y, Sz (X + 4) Lo y → zK h y ≠ 12 ∧ zK h y ≠ 27 := fun y hy => by
    rcases hy with e | e
    · exact Pz_k H.sk e
    · rw [(H.k4 e).1]; decide
  have sp : ∀ y, Sz (X + 4) Lo y → (X + 4 ≤ y ∧ y < X + 32) ∨ (X + 433 ≤ y ∧ Sc X Lo K y) := fun y hy => by
    rcases hy with e | e
    · exact Or.inl ⟨e.1, by have := e.2; omega⟩
    · exact Or.inr ⟨(H.k4 e).2, H.sep e⟩
  obtain ⟨⟨x1, x2, x3⟩, p1, ⟨t1, t2, t3⟩, f1, k1, nx, n1, n2, n3, n4, n5⟩ := H
  have n : ∀ j, j < 4 → ¬ Sz (X + 4) Lo (X + j) := fun j hj q => by have := sp _ q; omega
  have n0 : ¬ Sz (X + 4) Lo X := n 0 (by decide)
  have pl : ∀ {q : Nat} {Q : Row} {np ni nd : Nat} {Lo' : Option Nat} {ls' : List LN}, X + 32 ≤ q → q + 28 ≤ X + 433 → (∀ L, Lo' = some L → Lo = some L ∨ ∃ q, K = some q ∧ q.2.2 = some L) → PL h q Q np ni nd Lo' ls' → PL h' q Q np ni nd Lo' ls' := fun h1 h2 hL G => G.fr f.1 (fun y hy => by have := sp y hy; omega) (fun y L hy e => by
    rcases sp y hy with r | r
    · have l : X + 433 ≤ L := by
        rcases hL L e with e | ⟨q, e1, e2⟩
        · exact x3.1 L e
        · exact x3.2 q L e1 e2
      omega
    · exact Sc_l x3 r.2 (hL L e))
  refine ⟨⟨XSk_fr f.1 n0 x1, WA_fr f.1 ks x2, x3⟩, G, ⟨?_, t2, fun k hk => ?_⟩, ?_, ?_, nx, n1, ?_, ?_, n4, fun a S' e => ?_⟩
  · rw [f.1.i n0]; exact t1
  · rw [f.1.i (n 1 (by decide))]; exact t3 k hk
  · rw [f.1.i (n 2 (by decide))]; exact f1
  · cases K with
    | none => show zI h' X 6 = _; rw [f.1.i n0]; exact k1
    | some q => exact ⟨by rw [f.1.i n0]; exact k1.1, pl (by omega) (by omega) (fun L e => Or.inr ⟨q, rfl, e⟩) k1.2⟩
  · rw [f.1.i n0]; exact n2
  · rw [f.1.i n0]; exact n3
  · have hm : (nx + 11 - a) % 12 < 12 := Nat.mod_lt _ (by decide)
    exact pl (by omega) (by omega) (fun L e => Or.inl e) (n5 a S' e)
theorem Sz_X {y : Nat} (hy : Sz (X + 4) Lo y) : Xz X Lo y := by
  rcases hy with e | e
  · exact Or.inl ⟨by have := e.1; omega, by have := e.2; omega⟩
  · exact Or.inr e
/-- an act of the class: remembered, then the port is written -/
theorem CA.act {h1 : Hp} (f1 : Fr (fun x => X ≤ x ∧ x < X + 433) h h1) (H : CI z h1 X S ls Lo K A tl T ft) (f : Fp (X + 4) Lo h1 h') (G : PL h' (X + 4) S1.1 S1.2.1 S1.2.2.1 S1.2.2.2 Lo ls) (e : ev z d m 0 as [] h = some (.inl (some (.int v)), h')) : CA z d h X Lo m as es 0 v ((S1, ls, Lo), K, A, tl, T, ft) :=
  ⟨h', e, (Mv.fr ((f1.mo (fun y q => Or.inl q)).tr (f.1.mo (fun y q => Sz_X q)))).mo (fun _ q => q) (by decide) (by decide), H.port f G⟩
theorem PT.wS1 {p : Nat} {P : Row} {np ni nd : Nat} (G : PL h p P np ni nd Lo ls) {y c : Nat} (hy : (y = 7 ∧ c = 7) ∨ (y = 8 ∧ c = 8) ∨ (y = 9 ∧ c = 6) ∨ (y = 10 ∧ c = 10) ∨ (y = 11 ∧ c = 0)) : PL (zwI h p y v) p (up P c v) np ni nd Lo ls :=
  G.of (Fp.w ⟨by omega, by omega⟩) (G.1.wS hy) (up_n (by omega))
theorem PT.wD1 {p : Nat} {P : Row} {np ni nd : Nat} (G : PL h p P np ni nd Lo ls) {i c : Nat} (hi : i < 8) (hc : c < 12) : PL (zwI h (p + 20 + i) c v) p (up P (45 + 12 * i + c) v) np ni nd Lo ls :=
  G.of (Fp.w ⟨by omega, by omega⟩) (G.1.wD hi hc) (up_n (by omega))
theorem PT.wP1 {p : Nat} {P : Row} {np ni nd : Nat} (G : PL h p P np ni nd Lo ls) {i c : Nat} (hi : i < 6) (hc : c < 2) : PL (zwI h (p + 8 + i) c v) p (up P (15 + 2 * i + c) v) np ni nd Lo ls :=
  G.of (Fp.w ⟨by omega, by omega⟩) (G.1.wP hi hc) (up_n (by omega))
/-! the reference remembers, its answer's field stays -/
theorem R_rem_0 (H : RI h R S K A tl T ft) : ∃ h', ev z d 239 0 [.ref R, zu] [] h = some (.inl none, h') ∧ zI h' R 0 = zI h R 0 := by
  have hl := H.2.2.2.2.2.1
  have h6 := H.2.2.2.2.1
  rw [S_M_remembers_0 H.1.1, h6]
  by_cases c : A.length = 12
  · rw [if_pos (by rw [c]), T_M_rem_s H.1.1 (by rw [h6, c])]
    have r1 : RSk (zwI (vH h (R + 4) (shA (zI h (R + 4)) 4191)) R 6 (nI 11)) R := RSk_w (vr H.1.1)
    have e6 : zI (zwI (vH h (R + 4) (shA (zI h (R + 4)) 4191)) R 6 (nI 11)) R 6 = nI 11 := zI_wa
    have e0 : zI (zwI (vH h (R + 4) (shA (zI h (R + 4)) 4191)) R 6 (nI 11)) R 0 = zI h R 0 := (zI_wj (by decide)).trans (congrFun (v_o (by omega)) 0)
    generalize zwI (vH h (R + 4) (shA (zI h (R + 4)) 4191)) R 6 (nI 11) = g at *
    refine ⟨_, T_M_rem_c r1 (by decide) e6, ?_⟩
    exact ((zI_wj (by decide)).trans (congrFun (v_o (by omega)) 0)).trans e0
  · rw [if_neg (fun q => c ((nI_eq (by omega) (by decide)).mp q))]
    refine ⟨_, T_M_rem_c H.1.1 (by omega) h6, ?_⟩
    exact (zI_wj (by decide)).trans (congrFun (v_o (by omega)) 0)
theorem R_rem (H : RI h R S K A tl T ft) : ∃ h', ev z d 239 0 [.ref R, zu] [] h = some (.inl none, h') ∧ Fr (Rz R) h h' ∧ RI h' R S K (rmA S A) tl T ft ∧ zI h' R 0 = zI h R 0 := by
  obtain ⟨h1, e1, f1, H1⟩ := R_remember (z := z) (d := d) H
  obtain ⟨h2, e2, z2⟩ := R_rem_0 (z := z) (d := d) H
  rw [e1] at e2
  have : h1 = h2 := (Prod.mk.inj (Option.some.inj e2)).2
  subst this
  exact ⟨h1, e1, f1, H1, z2⟩
theorem RI.wr (H : RI h R S K A tl T ft) : RI (zwI h (R + 1) k v) R (up S.1 k v, S.2) K A tl T ft := by
  have := H.m (Q := up S.1 k v)
  rwa [← mw, H.id] at this
theorem R_sets (H : RI h R S K A tl T ft) (hk : k < 781) : ∃ h', ev z d 240 0 [.ref R, .int (nI k), .int v, zu] [] h = some (.inl (some (.int (S.1 k))), h') ∧ Fr (Rz R) h h' ∧ RI h' R (up S.1 k v, S.2) K (rmA S A) tl T ft ∧ zI h' R 0 = zI h R 0 := by
  obtain ⟨h1, e1, f1, H1, z1⟩ := R_rem (z := z) (d := d) H
  rw [S_M_sets_0 H.1.1, e1]
  simp only [zbd_i, tl_n]
  rw [S_M_sets_4 H1.1.1, ix_n hk (by decide), ix_n hk (by decide), H1.i]
  exact ⟨_, rfl, f1.a ⟨by omega, by omega⟩, H1.wr, (zI_wb (by omega)).trans z1⟩
theorem RB.s {q : Stt} (e : ev z d m 0 as [] h = some (.inl (some (.int v)), h')) (f : Fr (Rz R) h h') (z0 : zI h' R 0 = nI 0) (H : RV h' R q) : RB z d h R m as 0 v q := ⟨h', v, e, f, z0, fun _ => rfl, H⟩
theorem FZ0 {v : Int32} : Fr (Rz R) h (zwI h R 0 v) := Fr.w ⟨by omega, by omega⟩
/-! SALT -/
def saQ (S : PSt) (ls : List LN) (Lo : Option Nat) (K : Option Img) (A : List PSt) (tl : Nat) (T : Row) (ft v : Int32) : Stt := if inR v 10 then (((up S.1 7 v, S.2), ls, Lo), K, rmA S A, tl, T, ft) else ((S, ls, Lo), K, A, tl, T, ft)
theorem lt_le {n : Nat} {A B : Option (zO × Hp)} (hn : n + 1 < 2 ^ 31) : (if v < 0 then A else (if v ≤ nI n then B else A)) = if inR v (n + 1) then B else A := by
  by_cases h1 : v < 0
  · rw [if_pos h1, if_neg (fun q => q.1 h1)]
  · rw [if_neg h1]
    obtain ⟨j, hj, rfl⟩ := nI_of h1
    by_cases h2 : j ≤ n
    · rw [if_pos (nI_le h2 (by omega)), if_pos (inR_nI (by omega) hn)]
    · rw [if_neg (nI_ge (by omega) (by omega)), if_neg (fun q => h2 (by have := (nI_ltI hj hn).mp q.2; omega))]
theorem C_salt (t : Tp h) (H : CI z h X S ls Lo K A tl T ft) (ok : Ok S) : CA z d h X Lo 114 [.ref X, .int v, zu] [0] (if inR v 10 then 0 else 1) (S.1 7) (saQ S ls Lo K A tl T ft v) := by
  unfold saQ
  by_cases c : inR v 10
  · rw [if_pos c, if_pos c]
    obtain ⟨h1, e1, f1, H1⟩ := C_remember (z := z) (d := d) H ok
    refine CA.act (h' := zwI h1 (X + 4) 7 v) f1 H1 (Fp.w ⟨by omega, by omega⟩) (PT.wS1 H1.2.1 (by decide)) ?_
    rw [S_LI_salt_0 H.1.1, lt_le (by decide), if_pos c, e1]
    simp only [zbd_i, tl_n]
    rw [S_LI_salt_22 H1.1.1, H1.rp.salt]
  · rw [if_neg c, if_neg c]
    refine CA.x t H rfl ?_
    rw [S_LI_salt_0 H.1.1, lt_le (by decide), if_neg c]
    rfl
theorem R_salt (H : RI h R S K A tl T ft) : RB z d h R 246 [.ref R, .int v] (if inR v 10 then 0 else 1) (S.1 7) (saQ S ls Lo K A tl T ft v) := by
  have e : bI (isin v (nI 0) (nI 9)) = bI (inR v 10) := bI_cg (isin_n (by decide))
  unfold saQ
  by_cases c : inR v 10
  · rw [if_pos c, if_pos c]
    have G := H.w0 (v := nI 0)
    obtain ⟨h1, e1, f1, H1, z1⟩ := R_sets (z := z) (d := d) (v := v) G (k := 7) (by decide)
    refine RB.s (h' := h1) ?_ (FZ0.tr f1) (z1.trans zI_wa) H1
    rw [S_M_salt_0, T_M_isIn, e]
    simp only [zbd_i, tl_s]
    rw [S_M_salt_8 H.1.1, chk, if_pos c, e1]
    simp only [zbd_i, tl_s, S_M_salt_37]
  · rw [if_neg c, if_neg c]
    refine RB.t H (by decide) (w := nI 0) ?_
    rw [S_M_salt_0, T_M_isIn, e]
    simp only [zbd_i, tl_s]
    rw [S_M_salt_8 H.1.1, chk, if_neg c]
theorem OkL_up {P : Row} {c : Nat} (hc : c ≠ 1 ∧ c ≠ 2 ∧ c < 381) (H : OkL P ls) : OkL (up P c v) ls := by
  have e : lTx (up P c v) = lTx P := funext fun i => up_n (by omega)
  rcases H with ⟨h1, h2⟩ | ⟨E, h1, h2, h3, h4⟩
  · exact Or.inl ⟨(up_n (by omega)).trans h1, h2⟩
  · exact Or.inr ⟨E, h1, (up_n (by omega)).trans h2, (up_n (by omega)).trans h3, by rw [e]; exact h4⟩
theorem O_salt (ok : OkA S ls K A) : OV (saQ S ls Lo K A tl T ft v) := by
  unfold saQ
  by_cases c : inR v 10
  · rw [if_pos c]
    obtain ⟨j, hj, rfl⟩ := (inR_iff (by decide)).mp c
    exact OkA.act ok.rm (Ok_up ok.1.1 (by decide) (by omega) (fun _ => ⟨j, by omega, rfl⟩) (by omega) (by omega)) (fun i hi => up_n (by omega)) (OkL_up (by decide) ok.1.2.1)
  · rw [if_neg c]
    exact ok
/-! SEED -/
theorem C_seed (H : CI z h X S ls Lo K A tl T ft) : CA z d h X Lo 150 [.ref X, .int v, zu] [] 0 (S.1 10) (((up S.1 10 v, S.2), ls, Lo), K, A, tl, T, ft) := by
  refine CA.act (h' := zwI h (X + 4) 10 v) Fr.rf H (Fp.w ⟨by omega, by omega⟩) (PT.wS1 H.2.1 (by decide)) ?_
  rw [S_LI_seed_0 H.1.1, H.rp.seed]
theorem R_seed (H : RI h R S K A tl T ft) : RB z d h R 300 [.ref R, .int v, zu] 0 (S.1 10) (((up S.1 10 v, S.2), ls, Lo), K, A, tl, T, ft) := by
  have G := H.w0 (v := nI 0)
  refine RB.s (h' := zwI (zwI h R 0 (nI 0)) (R + 1) 10 v) ?_ (FZ0.a ⟨by omega, by omega⟩) ((zI_wb (by omega)).trans zI_wa) G.wr
  rw [S_M_seed_0 H.1.1, G.i]
theorem O_seed (ok : OkA S ls K A) : OV (((up S.1 10 v, S.2), ls, Lo), K, A, tl, T, ft) :=
  OkA.act ok (Ok_10 ok.1.1) (fun i hi => up_n (by omega)) (OkL_10 ok.1.2.1)
/-! BAR -/
def barK (nd : Nat) (v w : Int32) : Nat := if inR v nd then (if w = -1 ∨ inR w nd then (if w < v then 0 else 2) else 1) else 1
def barQ (S : PSt) (ls : List LN) (Lo : Option Nat) (K : Option Img) (A : List PSt) (tl : Nat) (T : Row) (ft v w : Int32) : Stt := if barK S.2.2.2 v w = 0 then (((up S.1 (45 + 12 * cN v + 6) w, S.2), ls, Lo), K, rmA S A, tl, T, ft) else ((S, ls, Lo), K, A, tl, T, ft)
theorem m1_lt {v : Int32} (h : ¬ v < 0) : (-1 : Int32) < v := by
  obtain ⟨j, hj, rfl⟩ := nI_of h
  rw [Int32.lt_iff_toInt_lt, nI_toInt hj]
  have h1 : (-1 : Int32).toInt = -1 := by decide
  omega
theorem C_bar (t : Tp h) (H : CI z h X S ls Lo K A tl T ft) (ok : Ok S) : CA z d h X Lo 115 [.ref X, .int v, .int w, zu] [2, 0] (barK S.2.2.2 v w) (S.1 (45 + 12 * cN v + 6)) (barQ S ls Lo K A tl T ft v w) := by
  have h8 := ok.1.2.2.2.2.2
  unfold barQ barK
  by_cases c : inR v S.2.2.2
  · obtain ⟨i, hi, rfl⟩ := (inR_iff (by omega)).mp c
    simp only [if_pos c]
    by_cases c2 : w = -1 ∨ inR w S.2.2.2
    · simp only [if_pos c2]
      by_cases c3 : w < nI i
      · simp only [if_pos c3]
        obtain ⟨h1, e1, f1, H1⟩ := C_remember (z := z) (d := d) H ok
        rw [if_pos trivial]
        refine CA.act (h' := zwI h1 (X + 4 + 20 + i) 6 w) f1 H1 (Fp.w ⟨by omega, by omega⟩) (by rw [cN_nI (by omega)]; exact PT.wD1 H1.2.1 (by omega) (by decide)) ?_
        rw [S_LI_bar_0 H.1.1, C_needDeed H, if_pos c]
        simp only [zbd_i, tl_n]
        rw [S_LI_bar_5 H.1.1]
        have fin : ev z d 115 32 [.ref X, .int (nI i), .int w, zu] [] h1 = some (.inl (some (.int (S.1 (45 + 12 * cN (nI i) + 6)))), zwI h1 (X + 4 + 20 + i) 6 w) := by
          rw [S_LI_bar_32 H1.1.1, ix_n (by omega) (by decide), ix_n (by omega) (by decide), H1.rp.deed hi (by decide), cN_nI (by omega)]
        by_cases c4 : w = -1
        · rw [if_pos c4, if_pos c3, e1]
          simp only [zbd_i, tl_n]
          exact fin
        · rw [if_neg c4, C_needDeed H, if_pos (c2.resolve_left c4)]
          simp only [zbd_i, tl_n]
          rw [S_LI_bar_15 H.1.1, if_pos c3, e1]
          simp only [zbd_i, tl_n]
          exact fin
      · simp only [if_neg c3]
        rw [if_neg (by decide)]
        refine CA.x t H rfl ?_
        rw [S_LI_bar_0 H.1.1, C_needDeed H, if_pos c]
        simp only [zbd_i, tl_n]
        rw [S_LI_bar_5 H.1.1]
        by_cases c4 : w = -1
        · exact absurd (by rw [c4]; exact m1_lt (nI_pos (by omega))) c3
        · rw [if_neg c4, C_needDeed H, if_pos (c2.resolve_left c4)]
          simp only [zbd_i, tl_n]
          rw [S_LI_bar_15 H.1.1, if_neg c3]
          rfl
    · simp only [if_neg c2]
      rw [if_neg (by decide)]
      refine CA.x t H rfl ?_
      rw [S_LI_bar_0 H.1.1, C_needDeed H, if_pos c]
      simp only [zbd_i, tl_n]
      rw [S_LI_bar_5 H.1.1, if_neg (fun q => c2 (Or.inl q)), C_needDeed H, if_neg (fun q => c2 (Or.inr q))]
      simp only [zbd_e]
      exact evx_nil rfl
  · simp only [if_neg c]
    rw [if_neg (by decide)]
    refine CA.x t H rfl ?_
    rw [S_LI_bar_0 H.1.1, C_needDeed H, if_neg c]
    simp only [zbd_e]
    exact evx_nil rfl
theorem R_bar (H : RI h R S K A tl T ft) (ok : Ok S) : RB z d h R 247 [.ref R, .int v, .int w] (barK S.2.2.2 v w) (S.1 (45 + 12 * cN v + 6)) (barQ S ls Lo K A tl T ft v w) := by
  have h8 := ok.1.2.2.2.2.2
  have t3 : ∀ {A B C D : Option (zO × Hp)}, (if w < v then (if nI 0 ≤ 0 then A else B) else (if nI 2 ≤ 0 then C else D)) = if w < v then A else D := by
    intro A B C D
    rw [if_pos (show nI 0 ≤ 0 by decide), if_neg (show ¬ nI 2 ≤ 0 by decide)]
  unfold barQ barK
  by_cases c : inR v S.2.2.2
  · obtain ⟨i, hi, rfl⟩ := (inR_iff (by omega)).mp c
    simp only [if_pos c]
    by_cases c2 : w = -1 ∨ inR w S.2.2.2
    · simp only [if_pos c2]
      by_cases c3 : w < nI i
      · simp only [if_pos c3]
        rw [if_pos trivial]
        have G := H.w0 (v := nI 0)
        obtain ⟨h1, e1, f1, H1, z1⟩ := R_sets (z := z) (d := d) (v := w) G (k := 45 + 12 * i + 6) (by omega)
        refine RB.s (h' := h1) ?_ (FZ0.tr f1) (z1.trans zI_wa) (by rw [cN_nI (by omega)]; exact H1)
        rw [S_M_bar_0 H.1.1, R_isDeed H ok]
        simp only [zbd_i, tl_s]
        rw [S_M_bar_6 H.1.1, chk3, if_pos c]
        simp only [t3, if_pos c3, pk_mul, nI_add]
        by_cases c4 : w = -1
        · rw [if_pos c4, e1]
          simp only [zbd_i, tl_s, S_M_bar_65, cN_nI (show i < 2 ^ 31 by omega)]
        · rw [if_neg c4, R_isDeed H ok]
          simp only [zbd_i, tl_s]
          rw [S_M_bar_19 H.1.1, chk3, if_pos (c2.resolve_left c4)]
          simp only [t3, if_pos c3, pk_mul, nI_add]
          rw [e1]
          simp only [zbd_i, tl_s, S_M_bar_65, cN_nI (show i < 2 ^ 31 by omega)]
      · simp only [if_neg c3]
        rw [if_neg (by decide)]
        refine RB.t H (by decide) (w := nI 0) ?_
        rw [S_M_bar_0 H.1.1, R_isDeed H ok]
        simp only [zbd_i, tl_s]
        rw [S_M_bar_6 H.1.1, chk3, if_pos c]
        simp only [t3, if_neg c3]
        by_cases c4 : w = -1
        · rw [if_pos c4]
        · rw [if_neg c4, R_isDeed H ok]
          simp only [zbd_i, tl_s]
          rw [S_M_bar_19 H.1.1, chk3, if_pos (c2.resolve_left c4)]
          simp only [t3, if_neg c3]
    · simp only [if_neg c2]
      rw [if_neg (by decide)]
      refine RB.t H (by decide) (w := nI 0) ?_
      rw [S_M_bar_0 H.1.1, R_isDeed H ok]
      simp only [zbd_i, tl_s]
      rw [S_M_bar_6 H.1.1, chk3, if_pos c, if_neg (fun q => c2 (Or.inl q)), R_isDeed H ok]
      simp only [zbd_i, tl_s]
      rw [S_M_bar_19 H.1.1, chk3, if_neg (fun q => c2 (Or.inr q))]
  · simp only [if_neg c]
    rw [if_neg (by decide)]
    refine RB.t H (by decide) (w := nI 0) ?_
    rw [S_M_bar_0 H.1.1, R_isDeed H ok]
    simp only [zbd_i, tl_s]
    rw [S_M_bar_6 H.1.1, chk3, if_neg c]
theorem O_bar (ok : OkA S ls K A) : OV (barQ S ls Lo K A tl T ft v w) := by
  have h8 := ok.1.1.1.2.2.2.2.2
  unfold barQ
  by_cases c : barK S.2.2.2 v w = 0
  · rw [if_pos c]
    unfold barK at c
    by_cases c1 : inR v S.2.2.2
    · rw [if_pos c1] at c
      by_cases c2 : w = -1 ∨ inR w S.2.2.2
      · rw [if_pos c2] at c
        by_cases c3 : w < v
        · obtain ⟨i, hi, rfl⟩ := (inR_iff (by omega)).mp c1
          rw [cN_nI (by omega)]
          refine OkA.act ok.rm (Ok_D ok.1.1 hi (by decide) (by decide) (fun _ => ?_) (by omega) (by omega) (by omega) (by omega)) (fun j hj => up_n (by omega)) (OkL_up (by omega) ok.1.2.1)
          rcases c2 with c2 | c2
          · exact Or.inl c2
          · obtain ⟨j, hj, rfl⟩ := (inR_iff (by omega)).mp c2
            exact Or.inr ⟨j, (nI_ltI (by omega) (by omega)).mp c3, rfl⟩
        · rw [if_neg c3] at c; cases c
      · rw [if_neg c2] at c; cases c
    · rw [if_neg c1] at c; cases c
  · rw [if_neg c]
    exact ok
end
