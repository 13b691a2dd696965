/-! RESTS in both -/
def flg : Bool → Int32
  | true => nI 1
  | false => nI 0
def gaP (P : Row) (i : Nat) (q : Int32) : Int32 := if P (45 + 12 * i + 2) = q then P (45 + 12 * i + 3) else if P (45 + 12 * i + 1) = q then -P (45 + 12 * i + 3) else nI 0
def gaS (P : Row) (ls : List LN) (i : Nat) (q : Int32) (a b : Bool) : Int32 := if a = false ∧ b = false then nI 0 else if a = false then gaP P i q else gaP P i q - (if b = false then cosS P ls i else cosS P ls i / nI 2)
abbrev rsC (P : Row) (ls : List LN) (i : Nat) (x y : Int32) (a b : Bool) : Prop := ¬ gaS P ls i x a b < gaS P ls i x (!a) b ∧ ¬ gaS P ls i y b a < gaS P ls i y (!b) a
def rsS (P : Row) (ls : List LN) (i : Nat) (x y : Int32) : Nat → Int32
  | 0 => nI 0
  | r + 1 => if rsC P ls i x y (decide (r < 2)) (decide (r % 2 = 0)) then rsS P ls i x y r ||| nI 1 <<< (nI r &&& 31) else rsS P ls i x y r
def rsV (P : Row) (ls : List LN) (x y u : Int32) : Int32 := if P (45 + 12 * cN u + 10) = 0 then rsS P ls (cN u) x y 4 else -1
def rsK (np nd : Nat) (v w u : Int32) : Nat := if inR v np then (if inR w np then (if inR u nd then (if v = w then 2 else 0) else 1) else 1) else 1
section
variable {z : ZE} {d : Nat} {h h' g : Hp} {X R p : Nat} {S S1 : PSt} {K : Option Img} {A : List PSt} {tl : Nat} {T : Row} {ft : Int32} {ls : List LN} {Lo : Option Nat} {P : Row} {np ni nd m k r i : Nat} {as : List Value} {es : List Nat} {sp u v w b c q x y acc : Int32}
theorem C_gain (H : CI z h X S ls Lo K A tl T ft) (ok : OkA S ls K A) (hi : i < S.2.2.2) (a b : Bool) : ∃ h', Fr (Dz X Lo) h h' ∧ ev z d 81 0 [.ref (X + 4), .int q, .int (nI i), .int (flg a), .int (flg b), zu, zu, zu] [] h = some (.inl (some (.int (gaS S.1 ls i q a b))), h') := by
  have h8 := ok.1.1.1.2.2.2.2.2
  have zt : ∀ {n : Nat}, zisL (.ref n) = false := rfl
  have st : ∀ v3 v4 : Int32, ev z d 81 11 [.ref (X + 4), .int q, .int (nI i), .int v3, .int v4, zu, zu, zu] [] h = ev z d 81 55 [.ref (X + 4), .int q, .int (nI i), .int v3, .int v4, .ref (X + 4 + 20 + i), zu, zu] [.int (gaP S.1 i q)] h := by
    intro v3 v4
    rw [S_Port_gainOf_11 H.sk, ix_n (by omega) (by decide), H.rp.deed hi (by decide), H.rp.deed hi (by decide), H.rp.deed hi (by decide)]
    unfold gaP
    split
    · rfl
    · split <;> rfl
  obtain ⟨h1, e1, f1⟩ := T_Port_costsOf (z := z) (d := d) (k := i) H.sk H.rp ok.1.1.2.2.2.2.2 hi H.2.1.2.1 H.2.1.2.2.1 H.2.1.2.2.2
  have f2 : Fr (Dz X Lo) h h1 := f1.mo (fun x q => Az_D q)
  cases a <;> cases b
  · refine ⟨h, Fr.rf, ?_⟩
    rw [S_Port_gainOf_0, if_pos (by decide), if_pos (by decide)]
    rfl
  · refine ⟨h, Fr.rf, ?_⟩
    rw [S_Port_gainOf_0, if_pos (by decide), if_neg (by decide), st, S_Port_gainOf_55 H.sk zt, if_pos (by decide), S_Port_gainOf_87]
    rfl
  · refine ⟨h1, f2, ?_⟩
    rw [S_Port_gainOf_0, if_neg (by decide), st, S_Port_gainOf_55 H.sk zt, if_neg (by decide), e1]
    simp only [zbd_i, tl_s]
    rw [S_Port_gainOf_66, if_pos (by decide), S_Port_gainOf_84 zt, S_Port_gainOf_87]
    rfl
  · refine ⟨h1, f2, ?_⟩
    rw [S_Port_gainOf_0, if_neg (by decide), st, S_Port_gainOf_55 H.sk zt, if_neg (by decide), e1]
    simp only [zbd_i, tl_s]
    rw [S_Port_gainOf_66, if_neg (by decide), S_Port_gainOf_84 zt, S_Port_gainOf_87]
    rfl
theorem C_rests_s (H : CI z h X S ls Lo K A tl T ft) (ok : OkA S ls K A) (hi : i < S.2.2.2) (a b : Bool) : ∃ h', Fr (Dz X Lo) h h' ∧ zbd (ev z d 81 0 [.ref (X + 4), .int x, .int (nI i), .int (flg a), .int (flg b), zu, zu, zu] [] h) (fun v h' => ev z d 138 89 [.ref X, .int x, .int y, .int (nI i), .int acc, .int (nI r), .int (flg a), .int (flg b)] (v.toList ++ []) h') (fun e h' => evx z d 138 86 [.ref X, .int x, .int y, .int (nI i), .int acc, .int (nI r), .int (flg a), .int (flg b)] e h') = ev z d 138 43 [.ref X, .int x, .int y, .int (nI i), .int (if rsC S.1 ls i x y a b then acc ||| nI 1 <<< (nI r &&& 31) else acc), .int (nI (r + 1)), .int (flg a), .int (flg b)] [] h' := by
  obtain ⟨h1, f1, e1⟩ := C_gain (z := z) (d := d) (q := x) H ok hi a b
  have H1 := H.dz f1
  obtain ⟨h2, f2, e2⟩ := C_gain (z := z) (d := d) (q := x) H1 ok hi (!a) b
  have H2 := H1.dz f2
  obtain ⟨h3, f3, e3⟩ := C_gain (z := z) (d := d) (q := y) H2 ok hi b a
  have H3 := H2.dz f3
  obtain ⟨h4, f4, e4⟩ := C_gain (z := z) (d := d) (q := y) H3 ok hi (!b) a
  have s1 : ∀ {B : Option (zO × Hp)} {F : Option Value → Hp → Option (zO × Hp)} {E : Nat → Hp → Option (zO × Hp)}, (if flg a = 0 then zbd (ev z d 81 0 [.ref (X + 4), .int x, .int (nI i), .int (nI 1), .int (flg b), zu, zu, zu] [] h1) F E else zbd (ev z d 81 0 [.ref (X + 4), .int x, .int (nI i), .int (nI 0), .int (flg b), zu, zu, zu] [] h1) F E) = F (some (.int (gaS S.1 ls i x (!a) b))) h2 := by
    intro B F E
    cases a
    · rw [if_pos (by decide), show nI 1 = flg (!false) from rfl, e2]
      rfl
    · rw [if_neg (by decide), show nI 0 = flg (!true) from rfl, e2]
      rfl
  have s2 : ∀ {B : Option (zO × Hp)} {F : Option Value → Hp → Option (zO × Hp)} {E : Nat → Hp → Option (zO × Hp)}, (if flg b = 0 then zbd (ev z d 81 0 [.ref (X + 4), .int y, .int (nI i), .int (nI 1), .int (flg a), zu, zu, zu] [] h3) F E else zbd (ev z d 81 0 [.ref (X + 4), .int y, .int (nI i), .int (nI 0), .int (flg a), zu, zu, zu] [] h3) F E) = F (some (.int (gaS S.1 ls i y (!b) a))) h4 := by
    intro B F E
    cases b
    · rw [if_pos (by decide), show nI 1 = flg (!false) from rfl, e4]
      rfl
    · rw [if_neg (by decide), show nI 0 = flg (!true) from rfl, e4]
      rfl
  rw [e1]
  simp only [zbd_i, tl_s]
  rw [S_LI_rests_89 H1.1.1, s1 (B := none)]
  simp only [tl_s]
  rw [S_LI_rests_110 H2.1.1]
  by_cases c1 : gaS S.1 ls i x a b < gaS S.1 ls i x (!a) b
  · rw [if_pos c1, if_neg (fun q => q.1 c1), nI_add]
    exact ⟨h2, f1.tr f2, rfl⟩
  · rw [if_neg c1, e3]
    simp only [zbd_i, tl_s]
    rw [S_LI_rests_126 H3.1.1, s2 (B := none)]
    simp only [tl_s, S_LI_rests_147, nI_add]
    refine ⟨h4, ((f1.tr f2).tr f3).tr f4, ?_⟩
    by_cases c2 : gaS S.1 ls i y b a < gaS S.1 ls i y (!b) a
    · rw [if_pos c2, if_neg (fun q => q.2 c2)]
    · rw [if_neg c2, if_pos ⟨c1, c2⟩]
theorem rsS_u : rsS P ls i x y (r + 1) = if rsC P ls i x y (decide (r < 2)) (decide (r % 2 = 0)) then rsS P ls i x y r ||| nI 1 <<< (nI r &&& 31) else rsS P ls i x y r := rfl
theorem C_rests_l (H : CI z h X S ls Lo K A tl T ft) (ok : OkA S ls K A) (hi : i < S.2.2.2) : ∀ n r g w6 w7, r + n = 4 → Fr (Dz X Lo) h g → ∃ g', Fr (Dz X Lo) h g' ∧ ev z d 138 43 [.ref X, .int x, .int y, .int (nI i), .int (rsS S.1 ls i x y r), .int (nI r), w6, w7] [] g = some (.inl (some (.int (rsS S.1 ls i x y 4))), g')
  | 0, r, g, w6, w7, hr, f => by
    obtain rfl : r = 4 := by omega
    refine ⟨g, f, ?_⟩
    rw [S_LI_rests_43 (H.dz f).1.1, if_pos (by decide)]
  | n + 1, r, g, w6, w7, hr, f => by
    have G := H.dz f
    obtain ⟨g1, f1, e1⟩ := C_rests_s (z := z) (d := d) (x := x) (y := y) (acc := rsS S.1 ls i x y r) (r := r) G ok hi (decide (r < 2)) (decide (r % 2 = 0))
    obtain ⟨g', f', e'⟩ := C_rests_l H ok hi n (r + 1) g1 (.int (flg (decide (r < 2)))) (.int (flg (decide (r % 2 = 0)))) (by omega) (f.tr f1)
    refine ⟨g', f', ?_⟩
    rw [rsS_u, ← e1] at e'
    rw [S_LI_rests_43 G.1.1, ← e']
    rcases (by omega : r = 0 ∨ r = 1 ∨ r = 2 ∨ r = 3) with rfl | rfl | rfl | rfl
    · rw [if_neg (by decide), if_neg (by decide), if_pos (by decide)]
      rfl
    · rw [if_neg (by decide), if_neg (by decide), if_neg (by decide)]
      rfl
    · rw [if_neg (by decide), if_pos (by decide), if_pos (by decide)]
      rfl
    · rw [if_neg (by decide), if_pos (by decide), if_neg (by decide)]
      rfl
theorem C_rests (t : Tp h) (H : CI z h X S ls Lo K A tl T ft) (ok : OkA S ls K A) : CA z d h X Lo 138 [.ref X, .int v, .int w, .int u, zu, zu, zu, zu] [2, 0] (rsK S.2.1 S.2.2.2 v w u) (rsV S.1 ls v w u) ((S, ls, Lo), K, A, tl, T, ft) := by
  have h8 := ok.1.1.1.2.2.2.2.2
  unfold rsK
  by_cases c : inR v S.2.1
  · rw [if_pos c]
    have q1 : ev z d 138 0 [.ref X, .int v, .int w, .int u, zu, zu, zu, zu] [] h = ev z d 138 5 [.ref X, .int v, .int w, .int u, zu, zu, zu, zu] [] h := by
      rw [S_LI_rests_0 H.1.1, C_needParty H, if_pos c]
      simp only [zbd_i, tl_n]
    rw [S_LI_rests_5 H.1.1, C_needParty H] at q1
    by_cases c2 : inR w S.2.1
    · rw [if_pos c2]
      rw [if_pos c2] at q1
      simp only [zbd_i, tl_n] at q1
      rw [S_LI_rests_10 H.1.1, C_needDeed H] at q1
      by_cases c3 : inR u S.2.2.2
      · rw [if_pos c3]
        rw [if_pos c3] at q1
        simp only [zbd_i, tl_n] at q1
        rw [S_LI_rests_15, S_LI_needTwo_0] at q1
        by_cases c4 : v = w
        · rw [if_pos c4]
          rw [if_pos c4] at q1
          refine CA.x t H rfl ?_
          rw [q1]
          simp only [zbd_e]
          exact evx_nil rfl
        · rw [if_neg c4]
          rw [if_neg c4] at q1
          simp only [zbd_i, tl_n] at q1
          obtain ⟨i, hi, rfl⟩ := (inR_iff (by omega)).mp c3
          rw [S_LI_rests_20 H.1.1, ix_n (by omega) (by decide), H.rp.deed hi (by decide)] at q1
          unfold rsV
          rw [cN_nI (by omega)]
          by_cases c5 : S.1 (45 + 12 * i + 10) = 0
          · rw [if_pos c5]
            rw [if_pos c5] at q1
            obtain ⟨g', f', e'⟩ := C_rests_l (z := z) (d := d) (x := v) (y := w) H ok hi 4 0 h zu zu (by omega) Fr.rf
            refine CA.dz H f' ?_
            rw [q1]
            exact e'
          · rw [if_neg c5]
            rw [if_neg c5] at q1
            exact CA.rf H q1
      · rw [if_neg c3]
        rw [if_neg c3] at q1
        refine CA.x t H rfl ?_
        rw [q1]
        simp only [zbd_e]
        exact evx_nil rfl
    · rw [if_neg c2]
      rw [if_neg c2] at q1
      refine CA.x t H rfl ?_
      rw [q1]
      simp only [zbd_e]
      exact evx_nil rfl
  · rw [if_neg c]
    refine CA.x t H rfl ?_
    rw [S_LI_rests_0 H.1.1, C_needParty H, if_neg c]
    simp only [zbd_e]
    exact evx_nil rfl
/-! the reference -/
theorem T_M_hasBy (hR : RSk h R) (hW : WA z h) (hi1 : zI h (R + 1) = P) (ok : Ok (P, np, ni, nd)) (hL : OkL P ls) (hi : i < nd) (a b : Bool) : ∃ h', RA R h h' ∧ ev z (d + 7) 284 0 [.ref R, .int (nI i), .int q, .int (flg (!a)), .int (flg (!b)), zu] [] h = some (.inl (some (.int (gaS P ls i q a b))), h') := by
  have h8 : nd ≤ 8 := ok.1.2.2.2.2.2
  have of : ∀ c, c < 12 → ev z (d + 7) 179 0 [.ref R, .int (nI i), .int (nI c)] [] h = some (.inl (some (.int (P (45 + 12 * i + c)))), h) := by
    intro c hc
    rw [T_M_of hR (by omega), hi1]
  obtain ⟨h1, e1, f1⟩ := T_M_co1 (z := z) (d := d) (ls := ls) hR hW hi1 ok hL hi
  have s0 : ∀ x : Int32, x - nI 0 = x := fun x => by show x - 0 = x; grind
  have st : ∀ v3 v4 : Int32, ev z (d + 7) 284 20 [.ref R, .int (nI i), .int q, .int v3, .int v4, zu] [.int (P (45 + 12 * i + 2)), .int q] h = if v3 = nI 1 then some (.inl (some (.int (gaP P i q))), h) else if v4 = 0 then some (.inl (some (.int (gaP P i q - cosS P ls i / nI 2))), h1) else some (.inl (some (.int (gaP P i q - cosS P ls i))), h1) := by
    intro v3 v4
    rw [S_M_hasBy_20 hR]
    simp only [of 1 (by decide), of 3 (by decide), zbd_i, tl_s, S_M_hasBy_29 hR, S_M_hasBy_39 hR, S_M_hasBy_48 hR, e1, S_M_hasBy_76, S_M_hasBy_86, s0]
    unfold gaP
    by_cases c1 : P (45 + 12 * i + 2) = q
    · rw [if_pos c1.symm, if_pos c1]
    · rw [if_neg (fun e => c1 e.symm), if_neg c1]
      by_cases c2 : P (45 + 12 * i + 1) = q
      · rw [if_pos c2.symm, if_pos c2]
      · rw [if_neg (fun e => c2 e.symm), if_neg c2]
  rw [S_M_hasBy_0 hR, of 2 (by decide)]
  simp only [zbd_i, tl_s]
  rw [st]
  cases a <;> cases b
  · refine ⟨h, RA.rf, ?_⟩
    rw [if_pos (by decide), if_pos (by decide)]
    rfl
  · refine ⟨h, RA.rf, ?_⟩
    rw [if_pos (by decide), if_neg (by decide)]
    rfl
  · refine ⟨h1, f1, ?_⟩
    rw [if_neg (by decide), if_neg (by decide), if_neg (by decide)]
    rfl
  · refine ⟨h1, f1, ?_⟩
    rw [if_neg (by decide), if_neg (by decide), if_pos (by decide)]
    rfl
theorem R_rests_s (hR : RSk h R) (hW : WA z h) (hi1 : zI h (R + 1) = P) (ok : Ok (P, np, ni, nd)) (hL : OkL P ls) (hi : i < nd) (a b : Bool) : ∃ h', RA R h h' ∧ zbd (ev z (d + 7) 284 0 [.ref R, .int (nI i), .int x, .int (nI 1 - flg (!a)), .int (flg (!b)), zu] [] h) (fun v h' => ev z (d + 7) 285 99 [.ref R, .int x, .int y, .int (nI i), .int acc, .int (nI r), .int (flg (!a)), .int (flg (!b))] (v.toList ++ []) h') (fun e h' => evx z (d + 7) 285 96 [.ref R, .int x, .int y, .int (nI i), .int acc, .int (nI r), .int (flg (!a)), .int (flg (!b))] e h') = ev z (d + 7) 285 69 [.ref R, .int x, .int y, .int (nI i), .int (if rsC P ls i x y a b then acc ||| nI 1 <<< (nI r &&& 31) else acc), .int (nI (r + 1)), .int (flg (!a)), .int (flg (!b))] [] h' := by
  have tg : ∀ a : Bool, nI 1 - flg (!a) = flg (!!a) := by decide
  obtain ⟨h1, f1, e1⟩ := T_M_hasBy (z := z) (d := d) (q := x) hR hW hi1 ok hL hi (!a) b
  have R1 : RSk h1 R := RSk_fr f1.1 hR
  have i1 : zI h1 (R + 1) = P := (f1.1.i (by omega)).trans hi1
  obtain ⟨h2, f2, e2⟩ := T_M_hasBy (z := z) (d := d) (q := x) R1 (hW.rz hR f1.fz) i1 ok hL hi a b
  have R2 : RSk h2 R := RSk_fr f2.1 R1
  have i2 : zI h2 (R + 1) = P := (f2.1.i (by omega)).trans i1
  obtain ⟨h3, f3, e3⟩ := T_M_hasBy (z := z) (d := d) (q := y) R2 (hW.rz hR (f1.tr f2).fz) i2 ok hL hi (!b) a
  have R3 : RSk h3 R := RSk_fr f3.1 R2
  have i3 : zI h3 (R + 1) = P := (f3.1.i (by omega)).trans i2
  obtain ⟨h4, f4, e4⟩ := T_M_hasBy (z := z) (d := d) (q := y) R3 (hW.rz hR ((f1.tr f2).tr f3).fz) i3 ok hL hi b a
  rw [tg, e1]
  simp only [zbd_i, tl_s]
  rw [S_M_rests_99 R1, e2]
  simp only [zbd_i, tl_s]
  rw [S_M_rests_109 R2]
  by_cases c1 : gaS P ls i x a b < gaS P ls i x (!a) b
  · rw [if_pos c1, if_neg (fun q => q.1 c1), nI_add]
    exact ⟨h2, f1.tr f2, rfl⟩
  · rw [if_neg c1, tg, e3]
    simp only [zbd_i, tl_s]
    rw [S_M_rests_124 R3, e4]
    simp only [zbd_i, tl_s, S_M_rests_134, nI_add]
    refine ⟨h4, ((f1.tr f2).tr f3).tr f4, ?_⟩
    by_cases c2 : gaS P ls i y b a < gaS P ls i y (!b) a
    · rw [if_pos c2, if_neg (fun q => q.2 c2)]
    · rw [if_neg c2, if_pos ⟨c1, c2⟩]
theorem R_rests_l (hR : RSk h R) (hW : WA z h) (hi1 : zI h (R + 1) = P) (ok : Ok (P, np, ni, nd)) (hL : OkL P ls) (hi : i < nd) : ∀ n r g w6 w7, r + n = 4 → RA R h g → ∃ g', RA R h g' ∧ ev z (d + 7) 285 69 [.ref R, .int x, .int y, .int (nI i), .int (rsS P ls i x y r), .int (nI r), w6, w7] [] g = some (.inl (some (.int (rsS P ls i x y 4))), g')
  | 0, r, g, w6, w7, hr, f => by
    obtain rfl : r = 4 := by omega
    refine ⟨g, f, ?_⟩
    rw [S_M_rests_69 (RSk_fr f.1 hR), if_pos (by decide)]
  | n + 1, r, g, w6, w7, hr, f => by
    have Rg : RSk g R := RSk_fr f.1 hR
    have i1 : zI g (R + 1) = P := (f.1.i (by omega)).trans hi1
    obtain ⟨g1, f1, e1⟩ := R_rests_s (z := z) (d := d) (x := x) (y := y) (acc := rsS P ls i x y r) (r := r) Rg (hW.rz hR f.fz) i1 ok hL hi (decide (r < 2)) (decide (r % 2 = 0))
    obtain ⟨g', f', e'⟩ := R_rests_l hR hW hi1 ok hL hi n (r + 1) g1 (.int (flg (!decide (r < 2)))) (.int (flg (!decide (r % 2 = 0)))) (by omega) (f.tr f1)
    refine ⟨g', f', ?_⟩
    rw [rsS_u, ← e1] at e'
    rw [S_M_rests_69 Rg, if_neg (nI_ge (by omega) (by decide)), ← e']
    have q1 : nI r / nI 2 = flg (!decide (r < 2)) := by
      rcases (by omega : r = 0 ∨ r = 1 ∨ r = 2 ∨ r = 3) with rfl | rfl | rfl | rfl <;> decide
    have q2 : nI r - nI r / nI 2 * nI 2 = flg (!decide (r % 2 = 0)) := by
      rcases (by omega : r = 0 ∨ r = 1 ∨ r = 2 ∨ r = 3) with rfl | rfl | rfl | rfl <;> decide
    rw [q2, q1]
theorem R_rests (W : WA z h) (H : RI h R S K A tl T ft) (ok : OkA S ls K A) : RB z (d + 7) h R 285 [.ref R, .int v, .int w, .int u, zu, zu, zu, zu] (rsK S.2.1 S.2.2.2 v w u) (rsV S.1 ls v w u) ((S, ls, Lo), K, A, tl, T, ft) := by
  have h8 := ok.1.1.1.2.2.2.2.2
  have q1 : ev z (d + 7) 285 0 [.ref R, .int v, .int w, .int u, zu, zu, zu, zu] [] h = ev z (d + 7) 285 6 [.ref R, .int v, .int w, .int u, zu, zu, zu, zu] [.int (bI (inR v S.2.1)), .ref R] h := by
    rw [S_M_rests_0 H.1.1, R_isParty H ok.1.1]
    simp only [zbd_i, tl_s]
  rw [S_M_rests_6 H.1.1, chk3, R_isParty H ok.1.1] at q1
  simp only [zbd_i, tl_s] at q1
  rw [S_M_rests_14 H.1.1, chk3, R_isDeed H ok.1.1] at q1
  simp only [zbd_i, tl_s] at q1
  rw [S_M_rests_22 H.1.1, chk3] at q1
  unfold rsK
  by_cases c : inR v S.2.1
  · rw [if_pos c]
    rw [if_pos c] at q1
    by_cases c2 : inR w S.2.1
    · rw [if_pos c2]
      rw [if_pos c2] at q1
      by_cases c3 : inR u S.2.2.2
      · rw [if_pos c3]
        rw [if_pos c3] at q1
        by_cases c4 : v = w
        · rw [if_pos c4]
          rw [if_pos c4, if_neg (by decide)] at q1
          exact RB.t H (by decide) q1
        · rw [if_neg c4]
          rw [if_neg c4, if_pos (by decide)] at q1
          have G := H.w0 (v := nI 0)
          obtain ⟨i, hi, rfl⟩ := (inR_iff (by omega)).mp c3
          rw [T_M_of G.1.1 (by omega), G.i] at q1
          simp only [zbd_i, tl_s] at q1
          rw [S_M_rests_58] at q1
          unfold rsV
          rw [cN_nI (by omega)]
          by_cases c5 : S.1 (45 + 12 * i + 10) = 0
          · rw [if_pos c5]
            rw [if_pos c5] at q1
            obtain ⟨g', f', e'⟩ := R_rests_l (z := z) (d := d) (P := S.1) (np := S.2.1) (ni := S.2.2.1) (nd := S.2.2.2) (x := v) (y := w) G.1.1 (W.rz H.1.1 FZ0) G.i ok.1.1 ok.1.2.1 hi 4 0 (zwI h R 0 (nI 0)) zu zu (by omega) RA.rf
            refine RB.q H (Rq.ra f') ?_
            rw [q1]
            exact e'
          · rw [if_neg c5]
            rw [if_neg c5] at q1
            exact RB.g H q1
      · rw [if_neg c3]
        rw [if_neg c3] at q1
        exact RB.t H (by decide) q1
    · rw [if_neg c2]
      rw [if_neg c2] at q1
      exact RB.t H (by decide) q1
  · rw [if_neg c]
    rw [if_neg c] at q1
    exact RB.t H (by decide) q1
end
