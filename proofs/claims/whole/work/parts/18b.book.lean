/-! THE LOG: a ring in the class, a row that is shifted in the reference -/
def BKp (h : Hp) (p : Nat) (P : Row) : Prop := ∃ n x, n ≤ 60 ∧ x < 60 ∧ P 9 = nI n ∧ zI h (p + 5) 1 = nI n ∧ zI h (p + 5) 2 = nI x ∧ ∀ a c, a < n → c < 4 → zI h (p + 5 + 1) ((x + 59 - a) % 60 * 4 + c) = P (141 + 4 * a + c)
def logP (P : Row) (u v w : Int32) : Row := fun i => if i = 9 then (if nI 60 < P 9 + nI 1 then nI 60 else P 9 + nI 1) else if i < 141 then P i else if i = 141 then P 6 else if i = 142 then u else if i = 143 then v else if i = 144 then w else if i < 381 then P (i - 4) else P i
theorem logP_o {P : Row} {u v w : Int32} {i : Nat} (h9 : i ≠ 9) (h : i < 141 ∨ 381 ≤ i) : logP P u v w i = P i := by
  unfold logP
  rw [if_neg h9]
  by_cases c : i < 141
  · rw [if_pos c]
  · rw [if_neg c, if_neg (by omega), if_neg (by omega), if_neg (by omega), if_neg (by omega), if_neg (by omega)]
theorem logP_9 {P : Row} {u v w : Int32} {n : Nat} (h : P 9 = nI n) (hn : n ≤ 60) : logP P u v w 9 = nI (min (n + 1) 60) := by
  unfold logP
  rw [if_pos rfl, h, nI_add]
  by_cases c : 60 < n + 1
  · rw [if_pos (nI_lt c (by omega)), show min (n + 1) 60 = 60 by omega]
  · rw [if_neg (nI_nlt (by omega) (by omega)), show min (n + 1) 60 = n + 1 by omega]
theorem logP_0 {P : Row} {u v w : Int32} : ∀ c, c < 4 → logP P u v w (141 + 4 * 0 + c) = nth12 (P 6) u v w 0 0 0 0 0 0 0 0 c := by
  intro c hc
  match c, hc with
  | 0, _ => rfl
  | 1, _ => rfl
  | 2, _ => rfl
  | 3, _ => rfl
theorem logP_s {P : Row} {u v w : Int32} {a c : Nat} (ha : a + 1 < 60) (hc : c < 4) : logP P u v w (141 + 4 * (a + 1) + c) = P (141 + 4 * a + c) := by
  unfold logP
  rw [if_neg (by omega), if_neg (by omega), if_neg (by omega), if_neg (by omega), if_neg (by omega), if_neg (by omega), if_pos (by omega)]
  congr 1
  omega
section
variable {z : ZE} {d : Nat} {h h' : Hp} {p R : Nat} {P Q : Row} {np ni nd : Nat}
theorem BKp.fr {A : Nat → Prop} (B : BKp h p P) (f : Fr A h h') (hA : ∀ x, A x → x ≠ p + 5 ∧ x ≠ p + 6) : BKp h' p P := by
  obtain ⟨n, x, h1, h2, h3, h4, h5, h6⟩ := B
  refine ⟨n, x, h1, h2, h3, ?_, ?_, fun a c ha hc => ?_⟩
  · rw [f.i (fun q => (hA _ q).1 rfl)]; exact h4
  · rw [f.i (fun q => (hA _ q).1 rfl)]; exact h5
  · rw [f.i (fun q => (hA _ q).2 rfl)]; exact h6 a c ha hc
theorem BKp.cg (B : BKp h p P) (e : ∀ k, k = 9 ∨ (141 ≤ k ∧ k < 381) → Q k = P k) : BKp h p Q := by
  obtain ⟨n, x, h1, h2, h3, h4, h5, h6⟩ := B
  exact ⟨n, x, h1, h2, (e 9 (Or.inl rfl)).trans h3, h4, h5, fun a c ha hc => (h6 a c ha hc).trans (e _ (Or.inr (by omega))).symm⟩
theorem T_Book_add (hP : PSk h p) (B : BKp h p P) {u v w : Int32} : ∃ h', ev z d 33 0 [.ref (p + 5), .int (P 6), .int u, .int v, .int w, zu] [] h = some (.inl none, h') ∧ Fr (fun x => x = p + 5 ∨ x = p + 6) h h' ∧ BKp h' p (logP P u v w) := by
  obtain ⟨n, x, h1, h2, h3, h4, h5, h6⟩ := B
  rw [S_Book_add_0 (PSk_BSk hP), h5, h4, pk_mul, nI_add, nI_add, nI_add, nI_add, nI_add, pk_rem (by omega) (by decide) (by decide), ix_n (by omega) (by decide), ix_n (by omega) (by decide), ix_n (by omega) (by decide), ix_n (by omega) (by decide)]
  refine ⟨_, rfl, ?_, min (n + 1) 60, (x + 1) % 60, by omega, by omega, logP_9 h3 h1, ?_, ?_, fun a c ha hc => ?_⟩
  · exact Fr.a (Fr.a (Fr.a (Fr.a (Fr.a (Fr.w (Or.inr rfl)) (Or.inr rfl)) (Or.inr rfl)) (Or.inr rfl)) (Or.inl rfl)) (Or.inl rfl)
  · rw [zI_wa]
    by_cases c : 60 < n + 1
    · rw [if_pos (nI_lt c (by omega)), show min (n + 1) 60 = 60 by omega]
    · rw [if_neg (nI_nlt (by omega) (by omega)), show min (n + 1) 60 = n + 1 by omega]
  · rw [zI_wj (by decide), zI_wa]
  · rw [zI_wb (by omega), zI_wb (by omega)]
    by_cases a0 : a = 0
    · subst a0
      have ex : ((x + 1) % 60 + 59 - 0) % 60 = x := by omega
      rw [ex, logP_0 c hc]
      match c, hc with
      | 0, _ => rw [zI_wn (by omega), zI_wn (by omega), zI_wn (by omega)]; exact zI_wa
      | 1, _ => rw [zI_wn (by omega), zI_wn (by omega)]; exact zI_wa
      | 2, _ => rw [zI_wn (by omega)]; exact zI_wa
      | 3, _ => exact zI_wa
    · obtain ⟨b, rfl⟩ : ∃ b, a = b + 1 := ⟨a - 1, by omega⟩
      have ex : ((x + 1) % 60 + 59 - (b + 1)) % 60 = (x + 59 - b) % 60 := by omega
      have ne : (x + 59 - b) % 60 ≠ x := by omega
      rw [ex, zI_wn (by omega), zI_wn (by omega), zI_wn (by omega), zI_wn (by omega), logP_s (by omega) hc]
      exact h6 b c (by omega) hc
/-- a number of the log -/
def lgS (P : Row) (v : Int32) (c : Nat) : Int32 := if ¬ v < 0 ∧ v < P 9 then P (141 + 4 * cN v + c) else -1
theorem T_Book_tell (hP : PSk h p) (B : BKp h p P) {v : Int32} {c : Nat} (hc : c < 4) : ev z d 34 0 [.ref (p + 5), .int v, .int (nI c), zu] [] h = some (.inl (some (.int (lgS P v c))), h) := by
  obtain ⟨n, x, h1, h2, h3, h4, h5, h6⟩ := B
  rw [S_Book_tell_0 (PSk_BSk hP), h4, h5]
  unfold lgS
  rw [h3]
  by_cases c1 : v < 0
  · rw [if_pos c1, if_neg (fun q => q.1 c1)]
  · rw [if_neg c1]
    by_cases c2 : v < nI n
    · rw [if_pos c2, if_pos ⟨c1, c2⟩]
      obtain ⟨a, ha, rfl⟩ := (inR_iff (by omega)).mp ⟨c1, c2⟩
      rw [cN_nI (by omega), nI_add, pk_sub (by omega), pk_sub (by omega), pk_rem (by omega) (by decide) (by decide), pk_mul, nI_add, ix_n (by omega) (by decide), show x + 60 - 1 - a = x + 59 - a by omega, h6 a c ha hc]
    · rw [if_neg c2, if_neg (fun q => c2 q.2)]
theorem lgS_at {n a c : Nat} (h9 : P 9 = nI n) (hn : n ≤ 60) (ha : a < n) : lgS P (nI a) c = P (141 + 4 * a + c) := by
  unfold lgS
  rw [h9, if_pos (inR_nI ha (by omega)), cN_nI (by omega)]
/-- rows of the log that tell a deed, and the latest of them -/
def ledN (P : Row) (u : Int32) : Nat → Int32
  | 0 => nI 0
  | a + 1 => ledN P u a + (if P (141 + 4 * a + 1) = u then nI 1 else nI 0)
def ledT (P : Row) (u : Int32) : Nat → Nat → Int32
  | 0, _ => -1
  | f + 1, a => if P (141 + 4 * a + 1) = u then P (141 + 4 * a + 0) else ledT P u f (a + 1)
theorem T_Book_rowsOf (hP : PSk h p) (B : BKp h p P) {u : Int32} {n : Nat} (h9 : P 9 = nI n) (hn : n ≤ 60) : ev z d 35 0 [.ref (p + 5), .int u, zu, zu] [] h = some (.inl (some (.int (ledN P u n))), h) := by
  have hc : zI h (p + 5) 1 = nI n := by
    obtain ⟨m, x, h1, h2, h3, h4, -⟩ := B
    rw [h4, ← h3, h9]
  rw [S_Book_rowsOf_0]
  refine (lp (E := fun k => ev z d 35 4 [.ref (p + 5), .int u, .int (ledN P u k), .int (nI k)] [] h) n ?_).trans ?_
  · intro k hk
    rw [S_Book_rowsOf_4 (PSk_BSk hP), hc, if_neg (nI_ge hk (by omega)), T_Book_tell hP B (by decide), lgS_at h9 hn hk]
    simp only [zbd_i, tl_s, S_Book_rowsOf_18, nI_add, ledN]
    split
    · rfl
    · rw [add_n0]
  · rw [S_Book_rowsOf_4 (PSk_BSk hP), hc, if_pos (nI_le (Nat.le_refl _) (by omega))]
theorem T_Book_latest_l (hP : PSk h p) (B : BKp h p P) {u : Int32} {n : Nat} (h9 : P 9 = nI n) (hn : n ≤ 60) : ∀ f a, a + f = n → ev z d 36 2 [.ref (p + 5), .int u, .int (nI a)] [] h = some (.inl (some (.int (ledT P u f a))), h) := by
  have hc : zI h (p + 5) 1 = nI n := by
    obtain ⟨m, x, h1, h2, h3, h4, -⟩ := B
    rw [h4, ← h3, h9]
  intro f
  induction f with
  | zero =>
    intro a ha
    rw [S_Book_latestTimeOf_2 (PSk_BSk hP), hc, if_pos (nI_le (by omega) (by omega))]
    rfl
  | succ f ih =>
    intro a ha
    rw [S_Book_latestTimeOf_2 (PSk_BSk hP), hc, if_neg (nI_ge (by omega) (by omega)), T_Book_tell hP B (by decide), lgS_at h9 hn (by omega)]
    simp only [zbd_i, tl_s, S_Book_latestTimeOf_16 (PSk_BSk hP), nI_add, ledT]
    rw [T_Book_tell hP B (by decide), lgS_at h9 hn (by omega), ih (a + 1) (by omega)]
    simp only [zbd_i, tl_s, S_Book_latestTimeOf_26]
    split <;> rfl
theorem T_Book_latest (hP : PSk h p) (B : BKp h p P) {u : Int32} {n : Nat} (h9 : P 9 = nI n) (hn : n ≤ 60) : ev z d 36 0 [.ref (p + 5), .int u, zu] [] h = some (.inl (some (.int (ledT P u n 0))), h) := by
  rw [S_Book_latestTimeOf_0]
  exact T_Book_latest_l hP B h9 hn n 0 (by omega)
/-! the reference's -/
theorem mH_id : mH h R (zI h (R + 1)) = h := by
  unfold mH
  conv => rhs; rw [← hI_id (h := h)]
  refine hI_ext (fun x y => ?_)
  by_cases c : x = R + 1
  · rw [if_pos c, c]
  · rw [if_neg c]
theorem mw {k : Nat} {v : Int32} : zwI (mH h R P) (R + 1) k v = mH h R (up P k v) := by
  unfold mH
  simp only [zw_hI, hIhI, zIhI]
  refine hI_ext (fun x y => ?_)
  unfold zup up
  by_cases hx : x = R + 1
  · subst hx
    by_cases hy : y = k
    · simp [hy]
    · simp [hy]
  · simp [hx]
theorem mr (hR : RSk h R) : RSk (mH h R P) R := hR
theorem m1 {k : Nat} : zI (mH h R P) (R + 1) k = P k := congrFun m_1 k
theorem up_cg {P Q : Row} (e : ∀ i, P i = Q i) : P = Q := funext e
def shf (P : Row) (k : Nat) : Row := fun i => if 141 + k < i ∧ i < 381 then P (i - 4) else P i
theorem shf_s {k : Nat} (h4 : 4 ≤ k + 1) (hk : k + 1 ≤ 239) : up (shf P (k + 1)) (141 + (k + 1)) (shf P (k + 1) (141 + (k + 1) - 4)) = shf P k := by
  refine up_cg (fun i => ?_)
  unfold up shf
  by_cases c : i = 141 + (k + 1)
  · rw [if_pos c, if_neg (by omega), if_pos (by omega), c]
  · rw [if_neg c]
    by_cases c2 : 141 + (k + 1) < i ∧ i < 381
    · rw [if_pos c2, if_pos (by omega)]
    · rw [if_neg c2, if_neg (by omega)]
theorem T_M_logs_l (hR : RSk h R) {u v w : Int32} : ∀ k, 3 ≤ k → k ≤ 239 → ev z d 226 5 [.ref R, .int u, .int v, .int w, .int (nI k)] [] (mH h R (shf P k)) = some (.inl none, mH h R (logP P u v w)) := by
  intro k
  induction k with
  | zero => intro h3 _; omega
  | succ k ih =>
    intro h3 hk
    by_cases c : k + 1 = 3
    · obtain rfl : k = 2 := by omega
      rw [S_M_logs_5 (mr hR), if_pos (by decide)]
      simp only [mw, m1]
      rw [T_M_lesser]
      simp only [zbd_i, tl_s]
      rw [S_M_logs_103 (mr hR), ix_n (by decide) (by decide), mw]
      congr 2
      refine congrArg (mH h R) (up_cg (fun i => ?_))
      unfold up shf logP
      by_cases c9 : i = 9
      · subst c9; simp
      · rw [if_neg c9, if_neg c9]
        by_cases c1 : i = 144
        · subst c1; simp
        · by_cases c2 : i = 143
          · subst c2; simp
          · by_cases c3 : i = 142
            · subst c3; simp
            · by_cases c4 : i = 141
              · subst c4; simp
              · rw [if_neg c1, if_neg c2, if_neg c3, if_neg c4]
                by_cases c5 : i < 141
                · rw [if_neg (by omega), if_pos c5]
                · rw [if_neg c5, if_neg c4, if_neg c3, if_neg c2, if_neg c1]
                  by_cases c6 : i < 381
                  · rw [if_pos (by omega), if_pos c6]
                  · rw [if_neg (by omega), if_neg c6]
    · rw [S_M_logs_5 (mr hR), if_neg (nI_nlt (by omega) (by omega)), nI_add, pk_sub (by omega), ix_n (by omega) (by decide), ix_n (by omega) (by decide), m1, mw, shf_s (by omega) hk, pk_m1]
      exact ih (by omega) (by omega)
theorem shf_239 : shf P 239 = P := by
  refine up_cg (fun i => ?_)
  unfold shf
  by_cases c : 141 + 239 < i ∧ i < 381
  · omega
  · rw [if_neg c]
theorem T_M_logs (hR : RSk h R) {u v w : Int32} : ev z d 226 0 [.ref R, .int u, .int v, .int w, zu] [] (mH h R P) = some (.inl none, mH h R (logP P u v w)) := by
  rw [S_M_logs_0]
  have := T_M_logs_l (z := z) (d := d) (P := P) (u := u) (v := v) (w := w) hR 239 (by decide) (by decide)
  rwa [shf_239] at this
/-! a deed comes up, fades, is paid -/
def comeS (P : Row) (k : Nat) : Row := logP (up (up P (45 + 12 * k + 10) (nI 1)) (45 + 12 * k + 9) (P 6)) (nI k) (nI 0) (nI 0)
theorem T_M_lays2 (hR : RSk h R) {k c : Nat} {v : Int32} (hk : 45 + 12 * k + c < 781) : ev z d 180 0 [.ref R, .int (nI k), .int (nI c), .int v] [] (mH h R P) = some (.inl none, mH h R (up P (45 + 12 * k + c) v)) := by
  rw [T_M_lays (mr hR) hk, mw]
theorem T_M_of2 (hR : RSk h R) {k c : Nat} (hk : 45 + 12 * k + c < 781) : ev z d 179 0 [.ref R, .int (nI k), .int (nI c)] [] (mH h R P) = some (.inl (some (.int (P (45 + 12 * k + c)))), mH h R P) := by
  rw [T_M_of (mr hR) hk, m1]
theorem T_M_comesUp (hR : RSk h R) {k : Nat} (hk : k < 8) : ev z d 227 0 [.ref R, .int (nI k)] [] (mH h R P) = some (.inl none, mH h R (comeS P k)) := by
  rw [S_M_comesUp_0 (mr hR), T_M_lays2 hR (by omega)]
  simp only [zbd_i, tl_n]
  rw [S_M_comesUp_8 (mr hR), m1, up_n (by omega), T_M_lays2 hR (by omega)]
  simp only [zbd_i, tl_n]
  rw [S_M_comesUp_22 (mr hR), T_M_logs hR]
  simp only [zbd_i, tl_n, S_M_comesUp_29]
  rfl
end
/-- a port's picture, whole -/
def PT (h : Hp) (p : Nat) (P : Row) (np ni nd : Nat) : Prop := PSk h p ∧ PRp h p P np ni nd ∧ BKp h p P
section
variable {z : ZE} {d : Nat} {h h' : Hp} {p : Nat} {P Q : Row} {np ni nd : Nat}
theorem PT.fr {A : Nat → Prop} (H : PT h p P np ni nd) (f : Fr A h h') (hA : ∀ x, A x → x < p ∨ p + 28 ≤ x ∨ x = p + 7) : PT h' p P np ni nd := ⟨PSk_fr f H.1, H.2.1.fr f (fun x q => by have := hA x q; omega), H.2.2.fr f (fun x q => by have := hA x q; omega)⟩
theorem PRp.cg9 (H : PRp h p P np ni nd) (e : ∀ k, k < 141 → k ≠ 1 → k ≠ 2 → k ≠ 9 → Q k = P k) : PRp h p Q np ni nd := by
  obtain ⟨h0, a3, b1, c7, e4, ep, ei, ed⟩ := H
  have l := h0
  unfold PRp
  rw [e 3 (by decide) (by decide) (by decide) (by decide), e 4 (by decide) (by decide) (by decide) (by decide), e 5 (by decide) (by decide) (by decide) (by decide), e 7 (by decide) (by decide) (by decide) (by decide), e 8 (by decide) (by decide) (by decide) (by decide), e 6 (by decide) (by decide) (by decide) (by decide), e 10 (by decide) (by decide) (by decide) (by decide), e 0 (by decide) (by decide) (by decide) (by decide)]
  exact ⟨h0, a3, b1, c7, fun k hk => by rw [e _ (by omega) (by omega) (by omega) (by omega)]; exact e4 k hk, fun k c hk hc => by rw [e _ (by omega) (by omega) (by omega) (by omega)]; exact ep k c hk hc, fun k c hk hc => by rw [e _ (by omega) (by omega) (by omega) (by omega)]; exact ei k c hk hc, fun k c hk hc => by rw [e _ (by omega) (by omega) (by omega) (by omega)]; exact ed k c hk hc⟩
theorem PT.cg (H : PT h p P np ni nd) (e : ∀ k, k < 381 → k ≠ 1 → k ≠ 2 → Q k = P k) : PT h p Q np ni nd := ⟨H.1, H.2.1.cg9 (fun k a b c _ => e k (by omega) b c), H.2.2.cg (fun k hk => e k (by omega) (by omega) (by omega))⟩
theorem PT.sk (H : PT h p P np ni nd) : PSk h p := H.1
theorem PT.rp (H : PT h p P np ni nd) : PRp h p P np ni nd := H.2.1
theorem PT.bk (H : PT h p P np ni nd) : BKp h p P := H.2.2
theorem PT.ld (H : PT h p P np ni nd) : nd ≤ 8 := H.2.1.ld
theorem PT.wD (H : PT h p P np ni nd) {i c : Nat} {v : Int32} (hi : i < 8) (hc : c < 12) : PT (zwI h (p + 20 + i) c v) p (up P (45 + 12 * i + c) v) np ni nd := ⟨H.1, H.2.1.wD hi hc, (H.2.2.fr (Fr.w (A := fun x => x = p + 20 + i) rfl) (fun x q => by omega)).cg (fun k hk => up_n (by omega))⟩
theorem PT.wP (H : PT h p P np ni nd) {i c : Nat} {v : Int32} (hi : i < 6) (hc : c < 2) : PT (zwI h (p + 8 + i) c v) p (up P (15 + 2 * i + c) v) np ni nd := ⟨H.1, H.2.1.wP hi hc, (H.2.2.fr (Fr.w (A := fun x => x = p + 8 + i) rfl) (fun x q => by omega)).cg (fun k hk => up_n (by omega))⟩
theorem PT.wS (H : PT h p P np ni nd) {y k : Nat} {v : Int32} (hy : (y = 7 ∧ k = 7) ∨ (y = 8 ∧ k = 8) ∨ (y = 9 ∧ k = 6) ∨ (y = 10 ∧ k = 10) ∨ (y = 11 ∧ k = 0)) : PT (zwI h p y v) p (up P k v) np ni nd := ⟨H.1, H.2.1.wS hy, (H.2.2.fr (Fr.w (A := fun x => x = p) rfl) (fun x q => by omega)).cg (fun k hk => up_n (by omega))⟩
theorem T_Port_log (H : PT h p P np ni nd) {u v w : Int32} : ∃ h', ev z d 33 0 [.ref (p + 5), .int (P 6), .int u, .int v, .int w, zu] [] h = some (.inl none, h') ∧ Fr (fun x => x = p + 5 ∨ x = p + 6) h h' ∧ PT h' p (logP P u v w) np ni nd := by
  obtain ⟨h', e, f, b⟩ := T_Book_add (z := z) (d := d) (u := u) (v := v) (w := w) H.1 H.2.2
  exact ⟨h', e, f, PSk_fr f H.1, (H.2.1.fr f (fun x q => by omega)).cg9 (fun k a _ _ c => logP_o c (Or.inl a)), b⟩
theorem T_Port_comeUp (H : PT h p P np ni nd) {k : Nat} (hk : k < nd) : ∃ h', ev z d 56 0 [.ref p, .int (nI k)] [] h = some (.inl none, h') ∧ Fr (Pz p) h h' ∧ PT h' p (comeS P k) np ni nd := by
  have h8 := H.ld
  have t := H.2.1.time
  have H1 := (H.wD (i := k) (c := 10) (v := nI 1) (by omega) (by decide)).wD (i := k) (c := 9) (v := P 6) (by omega) (by decide)
  have e6 : up (up P (45 + 12 * k + 10) (nI 1)) (45 + 12 * k + 9) (P 6) 6 = P 6 := (up_n (by omega)).trans (up_n (by omega))
  obtain ⟨h', e, f, b⟩ := T_Port_log (z := z) (d := d) (u := nI k) (v := nI 0) (w := nI 0) H1
  rw [S_Port_comeUp_0 H.1, ix_n (by omega) (by decide), ix_n (by omega) (by decide), t]
  have t1 := H1.2.1.time
  rw [e6] at t1 e
  rw [t1, e]
  simp only [zbd_i, tl_n, S_Port_comeUp_37]
  refine ⟨h', rfl, ?_, b⟩
  refine ((Fr.a (Fr.w ?_) ?_).tr (f.mo (fun x q => ?_)))
  · exact ⟨by omega, by omega⟩
  · exact ⟨by omega, by omega⟩
  · unfold Pz; omega
end
