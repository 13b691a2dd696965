/-! THE FIRST SEASON of which something holds; seasons of a draft -/
def fpr (p : Nat → Bool) : Nat → Int32
  | 0 => -1
  | n + 1 => if fpr p n = -1 then (if p n = true then nI n else -1) else fpr p n
theorem fpr_u {p : Nat → Bool} {n : Nat} : fpr p (n + 1) = if fpr p n = -1 then (if p n = true then nI n else -1) else fpr p n := rfl
theorem fpr_s {p : Nat → Bool} {n : Nat} (h : ¬ fpr p n = -1) : ∀ j, fpr p (n + j) = fpr p n
  | 0 => rfl
  | j + 1 => by
    have ih := fpr_s h j
    show fpr p (n + j + 1) = _
    rw [fpr_u, ih, if_neg h]
theorem fpr_n {p : Nat → Bool} : ∀ n, fpr p n = -1 ∨ ∃ k, k < n ∧ fpr p n = nI k
  | 0 => Or.inl rfl
  | n + 1 => by
    unfold fpr
    by_cases c : fpr p n = -1
    · rw [if_pos c]
      by_cases d : p n = true
      · rw [if_pos d]; exact Or.inr ⟨n, by omega, rfl⟩
      · rw [if_neg d]; exact Or.inl rfl
    · rw [if_neg c]
      rcases fpr_n (p := p) n with e | ⟨k, hk, e⟩
      · exact absurd e c
      · exact Or.inr ⟨k, by omega, e⟩
theorem fpr_np {p : Nat → Bool} : ∀ n, n < 2 ^ 30 → fpr p n = -1 → ∀ j, j < n → ¬ p j = true
  | 0, _, _, j, hj => by omega
  | n + 1, hn, e, j, hj => by
    unfold fpr at e
    by_cases c : fpr p n = -1
    · rw [if_pos c] at e
      by_cases d : p n = true
      · rw [if_pos d] at e
        exact absurd e (nI_ne1 (by omega))
      · by_cases hj2 : j = n
        · rw [hj2]; exact d
        · exact fpr_np n (by omega) c j (by omega)
    · rw [if_neg c] at e
      exact absurd e c
/-- nothing new behind n: as it was at n -/
theorem fpr_q {p : Nat → Bool} {n : Nat} (hn : n < 2 ^ 30) (h : ∀ k, n ≤ k → p k = true → ∃ j, j < n ∧ p j = true) : ∀ j, fpr p (n + j) = fpr p n := by
  by_cases c : fpr p n = -1
  · intro j
    induction j with
    | zero => rfl
    | succ j ih =>
      show fpr p (n + j + 1) = _
      rw [fpr_u, ih, if_pos c, if_neg, c]
      intro d
      obtain ⟨i, hi, e⟩ := h (n + j) (by omega) d
      exact fpr_np n hn c i hi e
  · exact fpr_s c
theorem fpr_p {p : Nat → Bool} {n : Nat} (c : fpr p n = -1) (d : p n = true) : fpr p (n + 1) = nI n := by
  unfold fpr
  rw [if_pos c, if_pos d]
theorem fpr_f {p : Nat → Bool} {n : Nat} (d : ¬ p n = true) : fpr p (n + 1) = fpr p n := by
  conv => lhs; unfold fpr
  by_cases c : fpr p n = -1
  · rw [if_pos c, if_neg d, c]
  · rw [if_neg c]
theorem fpr_cg {p q : Nat → Bool} : ∀ n, (∀ j, j < n → p j = q j) → fpr p n = fpr q n
  | 0, _ => rfl
  | n + 1, h => by
    unfold fpr
    rw [fpr_cg n (fun j hj => h j (by omega)), h n (by omega)]
/-! no deed is blank: none comes up -/
section
variable {P Q : Row} {ls : List LN} {sp : Int32} {np ni nd k : Nat} {r : Int32}
def noB (P : Row) (nd : Nat) : Prop := ∀ j, j < nd → ¬ P (45 + 12 * j + 10) = 0
theorem ripL_nb (h : noB P nd) : ∀ k, k ≤ nd → ripL ls sp P k = P
  | 0, _ => rfl
  | k + 1, hk => by
    unfold ripL
    rw [ripL_nb h k (by omega), if_neg (h k (by omega))]
theorem fadL_nb (h8 : nd ≤ 8) (h : noB P nd) : ∀ k, k ≤ nd → noB (fadL P k) nd ∧ ∀ j, j < nd → fadL P k (45 + 12 * j + 9) = P (45 + 12 * j + 9)
  | 0, _ => ⟨h, fun _ _ => rfl⟩
  | k + 1, hk => by
    obtain ⟨a, b⟩ := fadL_nb h8 h k (by omega)
    unfold fadL
    by_cases c : fadC (fadL P k) k = true
    · rw [if_pos c]
      refine ⟨fun j hj => ?_, fun j hj => ?_⟩
      · unfold fadD
        rw [logP_o (by omega) (by omega)]
        by_cases e : j = k
        · subst e; rw [up_a]; decide
        · rw [up_n (by omega)]; exact a j hj
      · rw [fadD_o (by omega) (by omega) (by omega)]
        exact b j hj
    · rw [if_neg c]
      exact ⟨a, b⟩
theorem psS_nb (H : Ok (P, np, ni, nd)) (h : noB P nd) : noB (psS ls nd P sp).1 nd ∧ ∀ j, j < nd → (psS ls nd P sp).1 (45 + 12 * j + 9) = P (45 + 12 * j + 9) := by
  have h8 : nd ≤ 8 := H.1.2.2.2.2.2
  unfold psS
  dsimp only
  rw [ripL_nb h nd (Nat.le_refl _)]
  obtain ⟨a, b⟩ := fadL_nb h8 h nd (Nat.le_refl _)
  obtain ⟨oF, -⟩ := fadL_ok H nd (Nat.le_refl _)
  obtain ⟨-, -, -, q, -⟩ := payL_ok (r := inS (fadL P nd) (nI 1) nd) oF nd (Nat.le_refl _)
  refine ⟨fun j hj => ?_, fun j hj => ?_⟩
  · rw [up_n (by omega), q j 10 (by omega) (by decide)]
    exact a j hj
  · rw [up_n (by omega), q j 9 (by omega) (by decide)]
    exact b j hj
theorem inS_nb : ∀ n, n ≤ 8 → inS P (nI 0) n = 0 → noB P n := by
  intro n hn e j hj c
  have := (isB_inS (P := P) (s := nI 0) hj hn).mpr c
  rw [e] at this
  have : ∀ j, j < 8 → ¬ isB 0 (nI j) = true := by decide
  exact this j (by omega) (by assumption)
/-- rows season by season -/
abbrev sq (ls : List LN) (nd : Nat) (sp : Int32) (P : Row) (n : Nat) : Row := (goS (stF ls nd sp) P n).1
theorem sq_nb (H : Ok (P, np, ni, nd)) (hL : OkL P ls) (hsp : sp = nI 0 ∨ sp = nI 1) {n : Nat} (h : noB (sq ls nd sp P n) nd) : ∀ k, noB (sq ls nd sp P (n + k)) nd ∧ ∀ j, j < nd → sq ls nd sp P (n + k) (45 + 12 * j + 9) = sq ls nd sp P n (45 + 12 * j + 9)
  | 0 => ⟨h, fun _ _ => rfl⟩
  | k + 1 => by
    obtain ⟨a, b⟩ := sq_nb H hL hsp h k
    obtain ⟨o, -, -⟩ := goN_ok H hL hsp (n + k)
    obtain ⟨a', b'⟩ := psS_nb (ls := ls) (sp := sp) o a
    exact ⟨a', fun j hj => (b' j hj).trans (b j hj)⟩
end
/-! the class's draft -/
section
variable {z : ZE} {d : Nat} {h h' g : Hp} {X R p : Nat} {S S1 : PSt} {K : Option Img} {A : List PSt} {tl : Nat} {T : Row} {ft : Int32} {ls : List LN} {Lo : Option Nat} {P : Row} {np ni nd : Nat} {sp v : Int32}
theorem C_draft (H : CI z h X S ls Lo K A tl T ft) (ok : Ok S) : ∃ h1, ev z d 48 0 [.ref (X + 32), .ref (X + 4), zu] [] h = some (.inl none, h1) ∧ Fr (Dz X Lo) h h1 ∧ PL h1 (X + 32) S.1 S.2.1 S.2.2.1 S.2.2.2 Lo ls := by
  obtain ⟨h1, f, Tg, zg, e⟩ := T_become (z := z) (d := d) (p := X + 32) (q := X + 4) (XSk_P4 H.1.1) (by omega) ok H.2.1.1 H.2.1.2.1
  exact ⟨h1, e, f.mo (fun x q => Or.inl ⟨q.1, by have := q.2; omega⟩), PL.mk f H.2.1 H.1.2.2.1 (by omega) Tg zg⟩
/-- what a draft's seasons start from and keep -/
def DR (z : ZE) (h g : Hp) (X : Nat) (P : Row) (np ni nd : Nat) (Lo : Option Nat) (ls : List LN) : Prop := Fr (Dz X Lo) h g ∧ PL g (X + 32) P np ni nd Lo ls
theorem DR.x (D : DR z h g X P np ni nd Lo ls) (H : CI z h X S ls Lo K A tl T ft) : XSk g X := (H.dz D.1).1.1
theorem DR.pass (D : DR z h g X P np ni nd Lo ls) (ok : Ok (P, np, ni, nd)) (hL : OkL P ls) (hsp : sp = nI 0 ∨ sp = nI 1) : ∃ g', DR z h g' X (psS ls nd P sp).1 np ni nd Lo ls ∧ (∀ x, ¬ Sz (X + 32) Lo x → zI g' x = zI g x) ∧ ev z d 51 0 [.ref (X + 32), .int sp, zu] [] g = some (.inl (some (.int (psS ls nd P sp).2)), g') := by
  obtain ⟨g', f, G, e⟩ := T_C_pass (z := z) (d := d) ok hL hsp D.2
  exact ⟨g', ⟨D.1.tr (f.1.mo (fun x q => Sz_D q)), G⟩, fun x hx => f.1.i hx, e⟩
theorem DR.n95 (H : CI z h X S ls Lo K A tl T ft) : ¬ Sz (X + 32) Lo (X + 95) := by
  rintro (q | q)
  · have := q.2; omega
  · have := (H.k4 q).2; omega
theorem C_go0_l (H : CI z h X S ls Lo K A tl T ft) (ok : Ok (P, np, ni, nd)) (hL : OkL P ls) {N : Nat} (hN : N ≤ 80) : ∀ n k g, k + n = N → DR z h g X (sq ls nd (nI 0) P k) np ni nd Lo ls → ∃ g', DR z h g' X (sq ls nd (nI 0) P N) np ni nd Lo ls ∧ ev z d 164 13 [.ref X, .int (nI N), .int (nI k)] [] g = some (.inl none, g') := by
  intro n
  induction n with
  | zero =>
    intro k g hk D
    obtain rfl : k = N := by omega
    exact ⟨g, D, by rw [S_LI_goAhead_13 (D.x H), if_pos (nI_le (Nat.le_refl _) (by omega))]⟩
  | succ n ih =>
    intro k g hk D
    obtain ⟨a, b, -⟩ := goN_ok (np := np) (ni := ni) ok hL (Or.inl rfl) k
    obtain ⟨g1, D1, -, e1⟩ := D.pass (d := d) (sp := nI 0) a b (Or.inl rfl)
    obtain ⟨g', D', e'⟩ := ih (k + 1) g1 (by omega) D1
    refine ⟨g', D', ?_⟩
    rw [S_LI_goAhead_13 (D.x H), if_neg (nI_ge (by omega) (by omega)), e1]
    simp only [zbd_i, tl_s, S_LI_goAhead_26, nI_add]
    exact e'
theorem C_goAhead (H : CI z h X S ls Lo K A tl T ft) (ok : OkA S ls K A) {N : Nat} (hN : N ≤ 80) : ∃ g', DR z h g' X (sq ls S.2.2.2 (nI 0) S.1 N) S.2.1 S.2.2.1 S.2.2.2 Lo ls ∧ ev z d 164 0 [.ref X, .int (nI N), zu] [] h = some (.inl none, g') := by
  obtain ⟨h1, e1, f1, G1⟩ := C_draft (z := z) (d := d) H ok.1.1
  obtain ⟨g', D', e'⟩ := C_go0_l (z := z) (d := d) H (P := S.1) (np := S.2.1) (ni := S.2.2.1) (nd := S.2.2.2) ok.1.1 ok.1.2.1 hN N 0 h1 (by omega) ⟨f1, G1⟩
  refine ⟨g', D', ?_⟩
  rw [S_LI_goAhead_0 H.1.1, e1]
  simp only [zbd_i, tl_n, S_LI_goAhead_11]
  exact e'
/-- seasons by draws -/
abbrev sd (ls : List LN) (nd : Nat) (P : Row) (n : Nat) : Row := (goS (psD ls nd) P n).1
theorem C_goD_l (H : CI z h X S ls Lo K A tl T ft) (ok : Ok (P, np, ni, nd)) (hL : OkL P ls) {N : Nat} (hN : N ≤ 80) {w : Int32} : ∀ n k g, k + n = N → DR z h g X (sd ls nd P k) np ni nd Lo ls → ∃ g', DR z h g' X (sd ls nd P N) np ni nd Lo ls ∧ ev z d 165 21 [.ref X, .int (nI N), .int w, .int (nI k)] [] g = some (.inl none, g') := by
  intro n
  induction n with
  | zero =>
    intro k g hk D
    obtain rfl : k = N := by omega
    exact ⟨g, D, by rw [S_LI_tryOut_21 (D.x H), if_pos (nI_le (Nat.le_refl _) (by omega))]⟩
  | succ n ih =>
    intro k g hk D
    obtain ⟨a, b, -⟩ := goD_ok (np := np) (ni := ni) ok hL k
    obtain ⟨g1, g2, f2, f1, -, G2, e1, e2⟩ := T_C_passD (z := z) (d := d) a b D.2
    have D2 : DR z h g2 X (sd ls nd P (k + 1)) np ni nd Lo ls := ⟨D.1.tr (f2.1.mo (fun x q => Sz_D q)), G2⟩
    obtain ⟨g', D', e'⟩ := ih (k + 1) g2 (by omega) D2
    have X1 : XSk g1 X := (H.dz (D.1.tr (f1.1.mo (fun x q => Sz_D q)))).1.1
    refine ⟨g', D', ?_⟩
    rw [S_LI_tryOut_21 (D.x H), if_neg (nI_ge (by omega) (by omega)), e1]
    simp only [zbd_i, tl_s]
    rw [S_LI_tryOut_37 X1, e2]
    simp only [zbd_i, tl_s]
    rw [S_LI_tryOut_40 rfl, nI_add]
    exact e'
theorem C_tryOut (H : CI z h X S ls Lo K A tl T ft) (ok : OkA S ls K A) {N : Nat} (hN : N ≤ 80) {w : Int32} : ∃ g', DR z h g' X (sd ls S.2.2.2 (up S.1 10 w) N) S.2.1 S.2.2.1 S.2.2.2 Lo ls ∧ ev z d 165 0 [.ref X, .int (nI N), .int w, zu] [] h = some (.inl none, g') := by
  obtain ⟨h1, e1, f1, G1⟩ := C_draft (z := z) (d := d) H ok.1.1
  have G2 := PT.wS1 (v := w) (y := 10) (c := 10) G1 (by decide)
  have D2 : DR z h (zwI h1 (X + 32) 10 w) X (sd ls S.2.2.2 (up S.1 10 w) 0) S.2.1 S.2.2.1 S.2.2.2 Lo ls := ⟨f1.a (Or.inl ⟨by omega, by omega⟩), G2⟩
  obtain ⟨g', D', e'⟩ := C_goD_l (z := z) (d := d) H (P := up S.1 10 w) (np := S.2.1) (ni := S.2.2.1) (nd := S.2.2.2) (Ok_10 ok.1.1) (OkL_10 ok.1.2.1) hN (w := w) N 0 _ (by omega) D2
  refine ⟨g', D', ?_⟩
  rw [S_LI_tryOut_0 H.1.1, e1]
  simp only [zbd_i, tl_n]
  rw [S_LI_tryOut_11 (H.dz f1).1.1]
  exact e'
end
