/-! BITS counted; SPAN, FORGED, SOONEST in both -/
def btS (v : Int32) : Nat → Int32
  | 0 => nI 0
  | k + 1 => btS v k + ((v >>> (nI k &&& 31)) &&& nI 1)
def bc1 (v : Int32) : Int32 := v - ((zus v (nI 1)) &&& (nI 1431655765))
def bc2 (v : Int32) : Int32 := (bc1 v &&& (nI 858993459)) + ((zus (bc1 v) (nI 2)) &&& (nI 858993459))
def bc3 (v : Int32) : Int32 := (bc2 v + (zus (bc2 v) (nI 4))) &&& (nI 252645135)
def bc4 (v : Int32) : Int32 := bc3 v + (zus (bc3 v) (nI 8))
def bc5 (v : Int32) : Int32 := (bc4 v + (zus (bc4 v) (nI 16))) &&& (nI 63)
theorem bc_t : ∀ a, a < 256 → bc5 (nI a) = btS (nI a) 31 ∧ btS (nI a) 31 = nI (cN (btS (nI a) 31)) ∧ cN (btS (nI a) 31) ≤ 8 := by decide +kernel
def bcN (a : Nat) : Nat := cN (btS (nI a) 31)
def lmN (b : Nat → Nat) : Nat → Nat
  | 0 => 8
  | k + 1 => min (b k) (lmN b k)
def gmN (b : Nat → Nat) : Nat → Nat
  | 0 => 0
  | k + 1 => max (b k) (gmN b k)
section
variable {z : ZE} {d : Nat} {h h' g : Hp} {X R p : Nat} {S S1 : PSt} {K : Option Img} {A : List PSt} {tl : Nat} {T : Row} {ft : Int32} {ls : List LN} {Lo : Option Nat} {P : Row} {np ni nd m k : Nat} {as : List Value} {es : List Nat} {u v w b : Int32}
theorem T_M_bits : ev z d 178 0 [.int v, zu, zu] [] h = some (.inl (some (.int (btS v 31))), h) := by
  rw [S_M_bits_0]
  refine (lp (E := fun k => ev z d 178 4 [.int v, .int (btS v k), .int (nI k)] [] h) 31 ?_).trans ?_
  · intro k hk
    rw [S_M_bits_4, if_neg (nI_ge hk (by decide)), nI_add]
    rfl
  · rw [S_M_bits_4, if_pos (nI_le (Nat.le_refl _) (by decide))]
theorem T_M_bitsN {a : Nat} (ha : a < 256) : ev z d 178 0 [.int (nI a), zu, zu] [] h = some (.inl (some (.int (nI (bcN a)))), h) := by
  rw [T_M_bits, (bc_t a ha).2.1]
  rfl
theorem T_bitCount {a : Nat} (ha : a < 256) : ev z d 305 0 [.int (nI a)] [] h = some (.inl (some (.int (nI (bcN a)))), h) := by
  rw [S_Intg_bitCount_0]
  have e : bc5 (nI a) = nI (bcN a) := (bc_t a ha).1.trans (bc_t a ha).2.1
  rw [← e]
  rfl
theorem padS_N (hO : OkD P np ni nd) : ∀ n, n ≤ nd → n ≤ 8 → padS P n = nI (bsN (fun k => P (45 + 12 * k + 11) = nI 1) n)
  | 0, _, _ => rfl
  | n + 1, h, h8 => by
    have ih := padS_N hO n (by omega) (by omega)
    unfold padS bsN
    rw [ih]
    rcases (hO n (by omega)).2.2.2.2.2 with e | e
    · rw [e, n0_shl, or_n0, if_neg (by decide)]
    · rw [e, if_pos rfl, nI_shl n (by omega), nI_or, or_pow (bsN_lt _ n)]
theorem pad_w (hO : OkD P np ni nd) (h8 : nd ≤ 8) : ∃ a, a < 256 ∧ padS P nd = nI a := by
  refine ⟨_, ?_, padS_N hO nd (Nat.le_refl _) h8⟩
  have := bsN_lt (fun k => P (45 + 12 * k + 11) = nI 1) nd
  have e : 2 ^ nd ≤ 2 ^ 8 := Nat.pow_le_pow_right (by decide) h8
  omega
/-- how many deeds are paid behind N seasons by draws that begin with k + 1 -/
def pdN (ls : List LN) (nd : Nat) (P : Row) (N k : Nat) : Nat := bcN (cN (padS (sd ls nd (up P 10 (nI (k + 1))) N) nd))
theorem pdN_e (ok : Ok (P, np, ni, nd)) (hL : OkL P ls) {N : Nat} : ∃ a, a < 256 ∧ padS (sd ls nd (up P 10 (nI (k + 1))) N) nd = nI a ∧ pdN ls nd P N k = bcN a ∧ bcN a ≤ 8 := by
  obtain ⟨o, -, -⟩ := goD_ok (P := up P 10 (nI (k + 1))) (np := np) (ni := ni) (nd := nd) (ls := ls) (Ok_10 ok) (OkL_10 hL) N
  obtain ⟨a, ha, e⟩ := pad_w o.2.1 o.1.2.2.2.2.2
  have e' : padS (sd ls nd (up P 10 (nI (k + 1))) N) nd = nI a := e
  refine ⟨a, ha, e', ?_, (bc_t a ha).2.2⟩
  unfold pdN
  rw [e', cN_nI (by omega)]
def spV (ls : List LN) (nd : Nat) (P : Row) (v w : Int32) : Int32 := if w = 0 then nI (lmN (pdN ls nd P (cN v)) 6) else nI (gmN (pdN ls nd P (cN v)) 6)
theorem lmN_b {b : Nat → Nat} (hb : ∀ k, b k ≤ 8) : ∀ k, lmN b k ≤ 8 ∧ gmN b k ≤ 8
  | 0 => ⟨Nat.le_refl _, Nat.zero_le _⟩
  | k + 1 => by
    have := lmN_b hb k
    have := hb k
    unfold lmN gmN
    omega
theorem C_span_l (H : CI z h X S ls Lo K A tl T ft) (ok : OkA S ls K A) {N : Nat} (hN : N ≤ 80) : ∀ n k g w6, k + n = 6 → CI z g X S ls Lo K A tl T ft → Fr (Dz X Lo) h g → ∃ g', Fr (Dz X Lo) h g' ∧ ev z d 146 13 [.ref X, .int (nI N), .int w, .int (nI (lmN (pdN ls S.2.2.2 S.1 N) k)), .int (nI (gmN (pdN ls S.2.2.2 S.1 N) k)), .int (nI (k + 1)), w6] [] g = some (.inl (some (.int (if w = 0 then nI (lmN (pdN ls S.2.2.2 S.1 N) 6) else nI (gmN (pdN ls S.2.2.2 S.1 N) 6)))), g')
  | 0, k, g, w6, hk, G, f => by
    obtain rfl : k = 6 := by omega
    refine ⟨g, f, ?_⟩
    rw [S_LI_span_13 G.1.1, if_pos (by decide)]
    split <;> rfl
  | n + 1, k, g, w6, hk, G, f => by
    obtain ⟨g1, D1, e1⟩ := C_tryOut (z := z) (d := d) G ok hN (w := nI (k + 1))
    have b8 : ∀ j, pdN ls S.2.2.2 S.1 N j ≤ 8 := fun j => by
      obtain ⟨a, -, -, e, l⟩ := pdN_e (k := j) (N := N) (P := S.1) (np := S.2.1) (ni := S.2.2.1) (nd := S.2.2.2) (ls := ls) ok.1.1 ok.1.2.1
      omega
    have lb := lmN_b b8 k
    obtain ⟨o, -, -⟩ := goD_ok (P := up S.1 10 (nI (k + 1))) (np := S.2.1) (ni := S.2.2.1) (nd := S.2.2.2) (ls := ls) (Ok_10 ok.1.1) (OkL_10 ok.1.2.1) N
    obtain ⟨a, ha, ea, eb, -⟩ := pdN_e (k := k) (N := N) (P := S.1) (np := S.2.1) (ni := S.2.2.1) (nd := S.2.2.2) (ls := ls) ok.1.1 ok.1.2.1
    have G1 := G.dz D1.1
    have bk := b8 k
    rw [S_LI_span_13 G.1.1, if_neg (nI_nlt (by omega) (by decide)), e1]
    simp only [zbd_i, tl_n]
    rw [S_LI_span_27 (D1.x G), T_Port_paidDeeds D1.2.1.1 D1.2.1.2.1 o.2.1]
    simp only [zbd_i, tl_s]
    rw [S_LI_span_34, ea, T_bitCount ha, ← eb]
    simp only [zbd_i, tl_s, S_LI_span_37, nI_add]
    have m1 : (if nI (pdN ls S.2.2.2 S.1 N k) < nI (lmN (pdN ls S.2.2.2 S.1 N) k) then nI (pdN ls S.2.2.2 S.1 N k) else nI (lmN (pdN ls S.2.2.2 S.1 N) k)) = nI (lmN (pdN ls S.2.2.2 S.1 N) (k + 1)) := by
      show _ = nI (min (pdN ls S.2.2.2 S.1 N k) (lmN (pdN ls S.2.2.2 S.1 N) k))
      by_cases c : pdN ls S.2.2.2 S.1 N k < lmN (pdN ls S.2.2.2 S.1 N) k
      · rw [if_pos (nI_lt c (by omega)), Nat.min_eq_left (by omega)]
      · rw [if_neg (nI_nlt (by omega) (by omega)), Nat.min_eq_right (by omega)]
    have m2 : (if nI (gmN (pdN ls S.2.2.2 S.1 N) k) < nI (pdN ls S.2.2.2 S.1 N k) then nI (pdN ls S.2.2.2 S.1 N k) else nI (gmN (pdN ls S.2.2.2 S.1 N) k)) = nI (gmN (pdN ls S.2.2.2 S.1 N) (k + 1)) := by
      show _ = nI (max (pdN ls S.2.2.2 S.1 N k) (gmN (pdN ls S.2.2.2 S.1 N) k))
      by_cases c : gmN (pdN ls S.2.2.2 S.1 N) k < pdN ls S.2.2.2 S.1 N k
      · rw [if_pos (nI_lt c (by omega)), Nat.max_eq_left (by omega)]
      · rw [if_neg (nI_nlt (by omega) (by omega)), Nat.max_eq_right (by omega)]
    rw [m1, m2]
    exact C_span_l H ok hN n (k + 1) g1 _ (by omega) G1 (f.tr D1.1)
theorem C_span (t : Tp h) (H : CI z h X S ls Lo K A tl T ft) (ok : OkA S ls K A) : CA z d h X Lo 146 [.ref X, .int v, .int w, zu, zu, zu, zu] [0] (if inR v 81 then 0 else 1) (spV ls S.2.2.2 S.1 v w) ((S, ls, Lo), K, A, tl, T, ft) := by
  unfold spV
  by_cases c : inR v 81
  · rw [if_pos c]
    obtain ⟨n, hn, rfl⟩ := (inR_iff (by decide)).mp c
    obtain ⟨g', f', e'⟩ := C_span_l (z := z) (d := d) (w := w) H ok (N := n) (by omega) 6 0 h zu (by omega) H Fr.rf
    refine CA.dz H f' ?_
    rw [S_LI_span_0, C_needSpan, if_pos c]
    simp only [zbd_i, tl_n, S_LI_span_4]
    rw [cN_nI (by omega)]
    exact e'
  · rw [if_neg c]
    refine CA.x t H rfl ?_
    rw [S_LI_span_0, C_needSpan, if_neg c]
    simp only [zbd_e]
    exact evx_nil rfl
theorem R_span_l (hR : RSk h R) (hW : WA z h) (hi1 : zI h (R + 1) = P) (ok : Ok (P, np, ni, nd)) (hL : OkL P ls) (cb : ∀ g Q, RA R h g → (∀ j, 381 ≤ j → Q j = P j) → ev z (d + 7) 212 0 [.ref R, zu] [] (mH g R Q) = some (.inl none, mH g R P)) {N : Nat} (hN : N ≤ 80) : ∀ n k g w5 w6, k + n = 6 → RA R h g → ∃ g', RA R h g' ∧ ev z (d + 7) 295 37 [.ref R, .int (nI N), .int w, .int (if k = 0 then -1 else if w = 0 then nI (lmN (pdN ls nd P N) k) else nI (gmN (pdN ls nd P N) k)), .int (nI (k + 1)), w5, w6] [] g = some (.inl (some (.int (if w = 0 then nI (lmN (pdN ls nd P N) 6) else nI (gmN (pdN ls nd P N) 6)))), g')
  | 0, k, g, w5, w6, hk, ra => by
    obtain rfl : k = 6 := by omega
    refine ⟨g, ra, ?_⟩
    rw [S_M_span_37 (RSk_fr ra.1 hR), if_pos (by decide), if_neg (by decide)]
  | n + 1, k, g, w5, w6, hk, ra => by
    have Rg : RSk g R := RSk_fr ra.1 hR
    have ig : zI g (R + 1) = P := by rw [ra.1.i (by omega), hi1]
    have b8 : ∀ j, pdN ls nd P N j ≤ 8 := fun j => by
      obtain ⟨a, -, -, e, l⟩ := pdN_e (k := j) (N := N) ok hL
      omega
    have lb := lmN_b b8 k
    have bk := b8 k
    obtain ⟨o, -, q⟩ := goD_ok (P := up P 10 (nI (k + 1))) (np := np) (ni := ni) (nd := nd) (ls := ls) (Ok_10 ok) (OkL_10 hL) N
    obtain ⟨a, ha, ea, eb, -⟩ := pdN_e (k := k) (N := N) ok hL
    obtain ⟨g1, f1, e1⟩ := T_M_goes_d (z := z) (d := d) (P := up P 10 (nI (k + 1))) (np := np) (ni := ni) (nd := nd) (ls := ls) Rg (WA_fr ra.1 (fun x q => RA_k hR q) hW) (Ok_10 ok) (OkL_10 hL) (N := N) (by omega)
    have e0 : zwI g (R + 1) 10 (nI (k + 1)) = mH g R (up P 10 (nI (k + 1))) := by
      have := mw (h := g) (R := R) (P := P) (k := 10) (v := nI (k + 1))
      rwa [show mH g R P = g by rw [← ig]; exact mH_id] at this
    have s1 : RSk g1 R := RSk_fr f1.1 Rg
    have i1 : zI (mH g1 R (sd ls nd (up P 10 (nI (k + 1))) N)) (R + 1) = sd ls nd (up P 10 (nI (k + 1))) N := m_1
    have ig1 : mH g1 R P = g1 := by
      have : zI g1 (R + 1) = P := by rw [f1.1.i (by omega), ig]
      rw [← this]
      exact mH_id
    have e2 := cb g1 (sd ls nd (up P 10 (nI (k + 1))) N) (ra.tr f1) (fun j hj => (q j (by omega)).trans (up_n (by omega)))
    rw [ig1] at e2
    rw [S_M_span_37 Rg, if_neg (nI_nlt (by omega) (by decide)), e0, e1]
    simp only [zbd_i, tl_s]
    rw [S_M_span_59 (mr s1), T_M_paidOnes (mr s1) (by rw [i1]; exact o.1.2.2.1) o.1.2.2.2.2.2, i1]
    simp only [zbd_i, tl_s]
    rw [S_M_span_65, ea, T_M_bitsN ha, ← eb]
    simp only [zbd_i, tl_s]
    rw [S_M_span_68 (mr s1) rfl, e2]
    simp only [zbd_i, tl_n]
    rw [S_M_span_74]
    obtain ⟨g', f', e'⟩ := R_span_l hR hW hi1 ok hL cb hN n (k + 1) g1 (.int (goS (psD ls nd) (up P 10 (nI (k + 1))) N).2) (.int (nI (pdN ls nd P N k))) (by omega) (ra.tr f1)
    refine ⟨g', f', ?_⟩
    rw [← e', if_neg (show ¬ k + 1 = 0 by omega)]
    by_cases c0 : k = 0
    · subst c0
      have m1 : lmN (pdN ls nd P N) (0 + 1) = pdN ls nd P N 0 := Nat.min_eq_left bk
      have m2 : gmN (pdN ls nd P N) (0 + 1) = pdN ls nd P N 0 := Nat.max_eq_left (Nat.zero_le _)
      rw [if_pos rfl, if_pos rfl, m1, m2, nI_add, ite_self]
    · rw [if_neg c0, if_neg (by
        split
        · exact nI_ne1 (by omega)
        · exact nI_ne1 (by omega))]
      by_cases c1 : w = 0
      · rw [if_pos c1, if_pos c1, if_pos c1, T_M_lesser]
        simp only [zbd_i, tl_s, S_M_span_103, nI_add]
        have m1 : (if nI (lmN (pdN ls nd P N) k) < nI (pdN ls nd P N k) then nI (lmN (pdN ls nd P N) k) else nI (pdN ls nd P N k)) = nI (lmN (pdN ls nd P N) (k + 1)) := by
          show _ = nI (min (pdN ls nd P N k) (lmN (pdN ls nd P N) k))
          by_cases c : lmN (pdN ls nd P N) k < pdN ls nd P N k
          · rw [if_pos (nI_lt c (by omega)), Nat.min_eq_right (by omega)]
          · rw [if_neg (nI_nlt (by omega) (by omega)), Nat.min_eq_left (by omega)]
        rw [m1]
      · rw [if_neg c1, if_neg c1, if_neg c1, T_M_greater]
        simp only [zbd_i, tl_s, S_M_span_94, nI_add]
        have m1 : (if nI (pdN ls nd P N k) < nI (gmN (pdN ls nd P N) k) then nI (gmN (pdN ls nd P N) k) else nI (pdN ls nd P N k)) = nI (gmN (pdN ls nd P N) (k + 1)) := by
          show _ = nI (max (pdN ls nd P N k) (gmN (pdN ls nd P N) k))
          by_cases c : pdN ls nd P N k < gmN (pdN ls nd P N) k
          · rw [if_pos (nI_lt c (by omega)), Nat.max_eq_right (by omega)]
          · rw [if_neg (nI_nlt (by omega) (by omega)), Nat.max_eq_left (by omega)]
        rw [m1]
theorem R_span (W : WA z h) (H : RI h R S K A tl T ft) (ok : OkA S ls K A) : RB z (d + 7) h R 295 [.ref R, .int v, .int w, zu, zu, zu, zu] (if inR v 81 then 0 else 1) (spV ls S.2.2.2 S.1 v w) ((S, ls, Lo), K, A, tl, T, ft) := by
  have e81 : bI (isin v (nI 0) (nI 80)) = bI (inR v 81) := bI_cg (isin_n (by decide))
  unfold spV
  by_cases c : inR v 81
  · rw [if_pos c]
    obtain ⟨n, hn, rfl⟩ := (inR_iff (by decide)).mp c
    have G := H.w0 (v := nI 0)
    obtain ⟨g0, e0, q0, s0, r0, a0, z0⟩ := T_M_pa (z := z) (d := d + 7) G.1.1
    have W0 : WA z g0 := (W.rz H.1.1 FZ0).rz G.1.1 q0.1.1
    have cb : ∀ g Q, RA R g0 g → (∀ j, 381 ≤ j → Q j = S.1 j) → ev z (d + 7) 212 0 [.ref R, zu] [] (mH g R Q) = some (.inl none, mH g R S.1) := fun g Q ra hQ => T_M_cb (f := zI (zwI h R 0 (nI 0)) (R + 3)) (RSk_fr ra.1 s0) (by rw [ra.1.i (by omega), a0, G.i]) hQ
    obtain ⟨g', f', e'⟩ := R_span_l (z := z) (d := d) (w := w) (P := S.1) (np := S.2.1) (ni := S.2.2.1) (nd := S.2.2.2) s0 W0 (r0.trans G.i) ok.1.1 ok.1.2.1 cb (N := n) (by omega) 6 0 g0 zu zu (by omega) RA.rf
    refine RB.q H (q0.tr (Rq.ra f')) ?_
    rw [S_M_span_0, T_M_isIn, e81]
    simp only [zbd_i, tl_s]
    rw [S_M_span_8 H.1.1, chk, if_pos c, e0]
    simp only [zbd_i, tl_n, S_M_span_32]
    rw [if_pos rfl] at e'
    rw [cN_nI (by omega)]
    exact e'
  · rw [if_neg c]
    refine RB.t H (by decide) (w := nI 0) ?_
    rw [S_M_span_0, T_M_isIn, e81]
    simp only [zbd_i, tl_s]
    rw [S_M_span_8 H.1.1, chk, if_neg c]
end
