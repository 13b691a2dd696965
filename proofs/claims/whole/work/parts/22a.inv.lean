/-! THE INVARIANT of the law's loop: the class at X, the reference at R, one pure state -/
abbrev Img : Type := PSt × List LN × Option Nat
def KC (h : Hp) (X : Nat) (K : Option Img) : Prop := match K with
  | none => zI h X 6 = nI 0
  | some q => zI h X 6 = nI 1 ∧ PL h (X + 60) q.1.1 q.1.2.1 q.1.2.2.1 q.1.2.2.2 q.2.2 q.2.1
def AC (h : Hp) (X : Nat) (A : List PSt) (Lo : Option Nat) (ls : List LN) : Prop := ∃ nx, nx < 12 ∧ zI h X 9 = nI nx ∧ zI h X 8 = nI A.length ∧ A.length ≤ 12 ∧ ∀ a S, A[a]? = some S → PL h (X + 97 + 28 * ((nx + 11 - a) % 12)) S.1 S.2.1 S.2.2.1 S.2.2.2 Lo ls
def CT (h : Hp) (X tl : Nat) (T : Row) : Prop := zI h X 1 = nI tl ∧ tl ≤ 400 ∧ ∀ k, k < tl → zI h (X + 1) k = T k
/-- laws lie behind the class -/
def LA (X : Nat) (Lo : Option Nat) (K : Option Img) : Prop := (∀ L, Lo = some L → X + 433 ≤ L) ∧ ∀ q L, K = some q → q.2.2 = some L → X + 433 ≤ L
/-- the class -/
def CI (z : ZE) (h : Hp) (X : Nat) (S : PSt) (ls : List LN) (Lo : Option Nat) (K : Option Img) (A : List PSt) (tl : Nat) (T : Row) (ft : Int32) : Prop := (XSk h X ∧ WA z h ∧ LA X Lo K) ∧ PL h (X + 4) S.1 S.2.1 S.2.2.1 S.2.2.2 Lo ls ∧ CT h X tl T ∧ zI h (X + 2) 6 = ft ∧ KC h X K ∧ AC h X A Lo ls
/-- the reference -/
def RI (h : Hp) (R : Nat) (S : PSt) (K : Option Img) (A : List PSt) (tl : Nat) (T : Row) (ft : Int32) : Prop := (RSk h R ∧ zI h (R + 1) = S.1 ∧ zI h R 19 = nI 0) ∧ (zI h R 8 = nI tl ∧ tl ≤ 400 ∧ ∀ k, k < tl → zI h (R + 5) k = T k) ∧ zI h R 12 = ft ∧ (match K with
    | none => zI h R 3 = nI 0
    | some q => zI h R 3 = nI 1 ∧ ∀ i, i < 781 → zI h (R + 2) i = q.1.1 i) ∧ zI h R 6 = nI A.length ∧ A.length ≤ 12 ∧ ∀ a S', A[a]? = some S' → ∀ i, i < 381 → zI h (R + 4) (381 * (A.length - 1 - a) + i) = S'.1 i
/-- the state is well -/
def OkA (S : PSt) (ls : List LN) (K : Option Img) (A : List PSt) : Prop := (Ok S ∧ OkL S.1 ls ∧ ∀ i, 781 ≤ i → S.1 i = 0) ∧ (∀ q, K = some q → Ok q.1 ∧ OkL q.1.1 q.2.1 ∧ ∀ i, 781 ≤ i → q.1.1 i = 0) ∧ ∀ S', S' ∈ A → Ok S' ∧ ∀ i, (i = 1 ∨ i = 2 ∨ 381 ≤ i) → S'.1 i = S.1 i
/-- what may change without the class's picture being changed -/
def Sc (X : Nat) (Lo : Option Nat) (K : Option Img) : Nat → Prop := fun x => ((x < X ∨ X + 433 ≤ x) ∧ (∀ L, Lo = some L → x < L ∨ L + 5 < x ∨ x = L + 4) ∧ ∀ q L, K = some q → q.2.2 = some L → x < L ∨ L + 5 < x ∨ x = L + 4) ∨ (X + 32 ≤ x ∧ x < X + 60) ∨ (X + 89 ≤ x ∧ x < X + 97) ∨ x = X + 11
section
variable {z : ZE} {d : Nat} {h h' : Hp} {X R p : Nat} {S : PSt} {P : Row} {np ni nd : Nat} {ls : List LN} {Lo : Option Nat} {K : Option Img} {A : List PSt} {tl : Nat} {T : Row} {ft : Int32} {B : Nat → Prop}
theorem PL.fr (H : PL h p P np ni nd Lo ls) (f : Fr B h h') (h1 : ∀ x, B x → x < p ∨ p + 28 ≤ x ∨ x = p + 7) (h2 : ∀ x L, B x → Lo = some L → x < L ∨ L + 5 < x ∨ x = L + 4) : PL h' p P np ni nd Lo ls := by
  obtain ⟨H1, H2, H3, H4⟩ := H
  refine ⟨H1.fr f h1, ?_, ?_, H4⟩
  · rw [f.rx (fun q => by have := h1 p q; omega)]; exact H2
  · cases Lo with
    | none => exact H3
    | some L =>
      obtain ⟨E, W, w1⟩ := H3
      exact ⟨E, W.fr f (fun x q => h2 x L q rfl), w1⟩
theorem Sc_l (hA : LA X Lo K) {x L : Nat} (hx : Sc X Lo K x) (hL : Lo = some L ∨ ∃ q, K = some q ∧ q.2.2 = some L) : x < L ∨ L + 5 < x ∨ x = L + 4 := by
  have l : X + 433 ≤ L := by
    rcases hL with e | ⟨q, e1, e2⟩
    · exact hA.1 L e
    · exact hA.2 q L e1 e2
  rcases hx with ⟨-, y1, y2⟩ | y | y | y
  · rcases hL with e | ⟨q, e1, e2⟩
    · exact y1 L e
    · exact y2 q L e1 e2
  · omega
  · omega
  · omega
theorem KC.fr (hA : LA X Lo K) (H : KC h X K) (f : Fr B h h') (hB : ∀ x, B x → Sc X Lo K x) : KC h' X K := by
  have n0 : ¬ B X := fun q => by rcases hB X q with y | y | y | y <;> omega
  cases K with
  | none =>
    show zI h' X 6 = nI 0
    rw [f.i n0]; exact H
  | some q =>
    refine ⟨by rw [f.i n0]; exact H.1, H.2.fr f (fun x y => ?_) (fun x L y e => Sc_l hA (hB x y) (Or.inr ⟨q, rfl, e⟩))⟩
    rcases hB x y with ⟨y, -⟩ | y | y | y <;> omega
theorem AC.fr (hA : LA X Lo K) (H : AC h X A Lo ls) (f : Fr B h h') (hB : ∀ x, B x → Sc X Lo K x) : AC h' X A Lo ls := by
  have n0 : ¬ B X := fun q => by rcases hB X q with y | y | y | y <;> omega
  obtain ⟨nx, h1, h2, h3, h4, h5⟩ := H
  refine ⟨nx, h1, by rw [f.i n0]; exact h2, by rw [f.i n0]; exact h3, h4, fun a S e => (h5 a S e).fr f (fun x y => ?_) (fun x L y e => Sc_l hA (hB x y) (Or.inl e))⟩
  have hm : (nx + 11 - a) % 12 < 12 := Nat.mod_lt _ (by decide)
  rcases hB x y with ⟨y, -⟩ | y | y | y <;> omega
theorem CI.fr (H : CI z h X S ls Lo K A tl T ft) (f : Fr B h h') (hB : ∀ x, B x → Sc X Lo K x) (hk : ∀ x, B x → zK h x ≠ 12 ∧ zK h x ≠ 27) : CI z h' X S ls Lo K A tl T ft := by
  obtain ⟨⟨x1, x2, x3⟩, p1, ⟨t1, t2, t3⟩, f1, k1, a1⟩ := H
  have n : ∀ j, j < 3 → ¬ B (X + j) := fun j hj q => by rcases hB _ q with y | y | y | y <;> omega
  have n0 : ¬ B X := n 0 (by decide)
  refine ⟨⟨XSk_fr f n0 x1, WA_fr f hk x2, x3⟩, p1.fr f (fun x y => ?_) (fun x L y e => Sc_l x3 (hB x y) (Or.inl e)), ⟨?_, t2, fun k hk => ?_⟩, ?_, k1.fr x3 f hB, a1.fr x3 f hB⟩
  · rcases hB x y with ⟨y, -⟩ | y | y | y <;> omega
  · rw [f.i n0]; exact t1
  · rw [f.i (n 1 (by decide))]; exact t3 k hk
  · rw [f.i (n 2 (by decide))]; exact f1
theorem RI.fr (H : RI h R S K A tl T ft) (f : Fr B h h') (hB : ∀ x, B x → x < R ∨ R + 11 ≤ x) : RI h' R S K A tl T ft := by
  obtain ⟨⟨r1, r2, r3⟩, ⟨t1, t2, t3⟩, f1, k1, a1, a2, a3⟩ := H
  have n : ∀ j, j < 11 → ¬ B (R + j) := fun j hj q => by have := hB _ q; omega
  have n0 : ¬ B R := n 0 (by decide)
  refine ⟨⟨RSk_fr f r1, by rw [f.i (n 1 (by decide))]; exact r2, by rw [f.i n0]; exact r3⟩, ⟨by rw [f.i n0]; exact t1, t2, fun k hk => by rw [f.i (n 5 (by decide))]; exact t3 k hk⟩, by rw [f.i n0]; exact f1, ?_, by rw [f.i n0]; exact a1, a2, fun a S' e i hi => by rw [f.i (n 4 (by decide))]; exact a3 a S' e i hi⟩
  cases K with
  | none => show zI h' R 3 = nI 0; rw [f.i n0]; exact k1
  | some q =>
    refine ⟨by rw [f.i n0]; exact k1.1, fun i hi => ?_⟩
    rw [f.i (n 2 (by decide))]; exact k1.2 i hi
/-- scratch of the reference: asking, thrown, aside, fits, ups, wide, prices -/
def Rs (R : Nat) (h h' : Hp) : Prop := Fr (fun x => R ≤ x ∧ x < R + 11) h h' ∧ (∀ y, y = 3 ∨ y = 6 ∨ y = 8 ∨ y = 12 ∨ y = 19 → zI h' R y = zI h R y) ∧ zI h' (R + 1) = zI h (R + 1) ∧ zI h' (R + 2) = zI h (R + 2) ∧ zI h' (R + 4) = zI h (R + 4) ∧ zI h' (R + 5) = zI h (R + 5)
theorem Rs.rf : Rs R h h := ⟨Fr.rf, fun _ _ => rfl, rfl, rfl, rfl, rfl⟩
theorem Rs.tr {g : Hp} (a : Rs R h g) (b : Rs R g h') : Rs R h h' := ⟨a.1.tr b.1, fun y hy => (b.2.1 y hy).trans (a.2.1 y hy), b.2.2.1.trans a.2.2.1, b.2.2.2.1.trans a.2.2.2.1, b.2.2.2.2.1.trans a.2.2.2.2.1, b.2.2.2.2.2.trans a.2.2.2.2.2⟩
theorem Rs.w {j : Nat} {v : Int32} (hj : j ≠ 3 ∧ j ≠ 6 ∧ j ≠ 8 ∧ j ≠ 12 ∧ j ≠ 19) : Rs R h (zwI h R j v) := ⟨Fr.w ⟨Nat.le_refl _, by omega⟩, fun y hy => zI_wj (by omega), funext fun y => zI_wb (by omega), funext fun y => zI_wb (by omega), funext fun y => zI_wb (by omega), funext fun y => zI_wb (by omega)⟩
theorem Rs.x {k j : Nat} {v : Int32} (hk : k = 3 ∨ (6 ≤ k ∧ k < 11)) : Rs R h (zwI h (R + k) j v) := ⟨Fr.w ⟨by omega, by omega⟩, fun y hy => zI_wb (by omega), funext fun y => zI_wb (by omega), funext fun y => zI_wb (by omega), funext fun y => zI_wb (by omega), funext fun y => zI_wb (by omega)⟩
theorem Rs.ra (f : RA R h h') : Rs R h h' := ⟨f.1.mo (fun x q => by omega), fun y hy => f.2 y (by omega), f.1.i (by omega), f.1.i (by omega), f.1.i (by omega), f.1.i (by omega)⟩
theorem RI.s (H : RI h R S K A tl T ft) (f : Rs R h h') : RI h' R S K A tl T ft := by
  obtain ⟨⟨r1, r2, r3⟩, ⟨t1, t2, t3⟩, f1, k1, a1, a2, a3⟩ := H
  obtain ⟨g0, g1, g2, g3, g4, g5⟩ := f
  refine ⟨⟨RSk_fr g0 r1, g2.trans r2, (g1 19 (by decide)).trans r3⟩, ⟨(g1 8 (by decide)).trans t1, t2, fun k hk => by rw [g5]; exact t3 k hk⟩, (g1 12 (by decide)).trans f1, ?_, (g1 6 (by decide)).trans a1, a2, fun a S' e i hi => by rw [g4]; exact a3 a S' e i hi⟩
  cases K with
  | none => exact (g1 3 (by decide)).trans k1
  | some q => exact ⟨(g1 3 (by decide)).trans k1.1, fun i hi => by rw [g3]; exact k1.2 i hi⟩
/-- another row -/
theorem RI.m {Q : Row} (H : RI h R S K A tl T ft) : RI (mH h R Q) R (Q, S.2) K A tl T ft := by
  obtain ⟨⟨r1, r2, r3⟩, ⟨t1, t2, t3⟩, f1, k1, a1, a2, a3⟩ := H
  refine ⟨⟨mr r1, m_1, moR.trans r3⟩, ⟨moR.trans t1, t2, fun k hk => (m_o (by omega)).trans (t3 k hk)⟩, moR.trans f1, ?_, moR.trans a1, a2, fun a S' e i hi => (m_o (by omega)).trans (a3 a S' e i hi)⟩
  cases K with
  | none => exact moR.trans k1
  | some q => exact ⟨moR.trans k1.1, fun i hi => (m_o (by omega)).trans (k1.2 i hi)⟩
theorem RI.id (H : RI h R S K A tl T ft) : mH h R S.1 = h := by rw [← H.1.2.1]; exact mH_id
/-! the simplest calls -/
theorem C_fault (H : CI z h X S ls Lo K A tl T ft) : ev z d 105 0 [.ref X] [] h = some (.inl (some (.int ft)), h) := by rw [S_LI_fault_0 H.1.1, H.2.2.2.1]
theorem R_fault (H : RI h R S K A tl T ft) : ev z d 222 0 [.ref R] [] h = some (.inl (some (.int ft)), zwI h R 0 (nI 0)) ∧ RI (zwI h R 0 (nI 0)) R S K A tl T ft := by
  refine ⟨?_, H.s (Rs.w (by decide))⟩
  rw [S_M_fault_0 H.1.1, H.2.2.1]
def enS (tl : Nat) (v : Int32) : Bool := decide (¬ v < 0 ∧ v ≤ nI tl)
theorem C_end (H : CI z h X S ls Lo K A tl T ft) {v : Int32} : ev z d 102 0 [.ref X, .int v] [] h = if enS tl v = true then some (.inl (some (.int (nI 1))), zwI h X 1 v) else some (.inl (some (.int (nI 0))), h) := by
  rw [S_LI_end_0 H.1.1, H.2.2.1.1]
  unfold enS
  by_cases c1 : v < 0
  · rw [if_pos c1, if_neg (fun q => (of_decide_eq_true q).1 c1)]
  · rw [if_neg c1]
    by_cases c2 : v ≤ nI tl
    · rw [if_pos c2, if_pos (decide_eq_true ⟨c1, c2⟩)]
    · rw [if_neg c2, if_neg (fun q => c2 (of_decide_eq_true q).2)]
theorem R_end (H : RI h R S K A tl T ft) {v : Int32} : ev z d 191 0 [.ref R, .int v] [] h = if enS tl v = true then some (.inl (some (.int (nI 1))), zwI (zwI h R 0 (nI 0)) R 8 v) else some (.inl (some (.int (nI 0))), zwI h R 0 (nI 0)) := by
  rw [S_M_end_0 H.1.1, H.2.1.1, T_M_isIn]
  simp only [zbd_i, tl_s]
  rw [S_M_end_14 (RSk_w H.1.1)]
  unfold enS
  by_cases c : isin v (nI 0) (nI tl)
  · rw [if_neg (by rw [bI_0]; exact fun q => q c), if_pos (decide_eq_true ⟨Int32.not_lt.mpr c.1, c.2⟩)]
  · rw [if_pos (by rw [bI_0]; exact c), if_neg (fun q => c ⟨Int32.not_lt.mp (of_decide_eq_true q).1, (of_decide_eq_true q).2⟩)]
theorem enS_n {v : Int32} (h : enS tl v = true) (ht : tl ≤ 400) : ∃ m, m ≤ tl ∧ v = nI m := by
  have := of_decide_eq_true h
  obtain ⟨m, hm, rfl⟩ := nI_of this.1
  exact ⟨m, (nI_leI hm (by omega)).mp this.2, rfl⟩
theorem XSk_w0 {a j : Nat} {v : Int32} (s : XSk h X) : XSk (zwI h a j v) X := s
/-- a field of the class's object is written -/
theorem CI.x (H : CI z h X S ls Lo K A tl T ft) {j : Nat} {v : Int32} : (XSk (zwI h X j v) X ∧ WA z (zwI h X j v) ∧ LA X Lo K) ∧ PL (zwI h X j v) (X + 4) S.1 S.2.1 S.2.2.1 S.2.2.2 Lo ls ∧ zI (zwI h X j v) (X + 2) 6 = ft ∧ (j ≠ 1 → CT (zwI h X j v) X tl T) ∧ (j ≠ 6 → KC (zwI h X j v) X K) ∧ (j ≠ 8 ∧ j ≠ 9 → AC (zwI h X j v) X A Lo ls) := by
  obtain ⟨⟨x1, x2, x3⟩, p1, ⟨t1, t2, t3⟩, f1, k1, a1⟩ := H
  have f : Fr (fun x => x = X) h (zwI h X j v) := Fr.w rfl
  have pl : ∀ {p : Nat} {P : Row} {np ni nd : Nat} {Lo' : Option Nat} {ls' : List LN}, X < p → (∀ L, Lo' = some L → X + 433 ≤ L) → PL h p P np ni nd Lo' ls' → PL (zwI h X j v) p P np ni nd Lo' ls' := fun hp hL G => G.fr f (fun x y => by omega) (fun x L y e => by have := hL L e; omega)
  refine ⟨⟨XSk_w0 x1, WA_fr f (fun x q => ?_) x2, x3⟩, pl (by omega) x3.1 p1, (zI_wb (by omega)).trans f1, fun hj => ⟨(zI_wj (Ne.symm hj)).trans t1, t2, fun k hk => (zI_wb (by omega)).trans (t3 k hk)⟩, fun hj => ?_, fun hj => ?_⟩
  · rw [q, XSk_K x1]; decide
  · cases K with
    | none => exact (zI_wj (Ne.symm hj)).trans k1
    | some q => exact ⟨(zI_wj (Ne.symm hj)).trans k1.1, pl (by omega) (fun L e => x3.2 q L rfl e) k1.2⟩
  · obtain ⟨nx, h1, h2, h3, h4, h5⟩ := a1
    exact ⟨nx, h1, (zI_wj (Ne.symm hj.2)).trans h2, (zI_wj (Ne.symm hj.1)).trans h3, h4, fun a S e => pl (by omega) x3.1 (h5 a S e)⟩
theorem CI.cut (H : CI z h X S ls Lo K A tl T ft) {m : Nat} (hm : m ≤ tl) : CI z (zwI h X 1 (nI m)) X S ls Lo K A m T ft := by
  obtain ⟨c1, c2, c3, -, c5, c6⟩ := H.x (j := 1) (v := nI m)
  exact ⟨c1, c2, ⟨zI_wa, by have := H.2.2.1.2.1; omega, fun k hk => (zI_wb (by omega)).trans (H.2.2.1.2.2 k (by omega))⟩, c3, c5 (by decide), c6 (by decide)⟩
theorem RI.cut (H : RI h R S K A tl T ft) {m : Nat} (hm : m ≤ tl) : RI (zwI h R 8 (nI m)) R S K A m T ft := by
  obtain ⟨⟨r1, r2, r3⟩, ⟨t1, t2, t3⟩, f1, k1, a1, a2, a3⟩ := H
  refine ⟨⟨RSk_w r1, (funext fun y => zI_wb (by omega)).trans r2, (zI_wj (by decide)).trans r3⟩, ⟨zI_wa, by omega, fun k hk => (zI_wb (by omega)).trans (t3 k (by omega))⟩, (zI_wj (by decide)).trans f1, ?_, (zI_wj (by decide)).trans a1, a2, fun a S' e i hi => (zI_wb (by omega)).trans (a3 a S' e i hi)⟩
  cases K with
  | none => exact (zI_wj (by decide)).trans k1
  | some q => exact ⟨(zI_wj (by decide)).trans k1.1, fun i hi => (zI_wb (by omega)).trans (k1.2 i hi)⟩
end
