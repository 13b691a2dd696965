/-! BUYERS: what is meant -/
def mbS (P : Row) (pr : Nat → Int32) (i q s : Nat) : Bool := decide (P (45 + 12 * i + 10) = 0 ∧ ¬ (P (45 + 12 * i + 1) = nI q ∨ P (45 + 12 * i + 2) = nI q) ∧ ¬ s.testBit q = true ∧ ¬ P (15 + 2 * q + 0) < pr i)
def slS (pr nx : Nat → Int32) (i s q : Nat) : Int32 := pr i + nx (s ||| 2 ^ q)
def moF (P : Row) (pr nx : Nat → Int32) (i s : Nat) : Nat → Int32
  | 0 => nx s
  | q + 1 => if mbS P pr i q s = true then (if moF P pr nx i s q < slS pr nx i s q then slS pr nx i s q else moF P pr nx i s q) else moF P pr nx i s q
def moT (P : Row) (pr : Nat → Int32) (np nd : Nat) : Nat → Nat → Int32
  | 0, _ => nI 0
  | n + 1, s => moF P pr (moT P pr np nd n) (nd - (n + 1)) s np
def rwT (P : Row) (pr : Nat → Int32) (np nd i s : Nat) : Int32 := moT P pr np nd (nd - i) s
def fbS (P : Row) (pr : Nat → Int32) (np nd i s q : Nat) : Bool := mbS P pr i q s && decide (slS pr (rwT P pr np nd (i + 1)) i s q = rwT P pr np nd i s)
def ffr (f : Nat → Bool) : Nat → Nat → Int32
  | 0, _ => -1
  | n + 1, k => if f k = true then nI k else ffr f n (k + 1)
def byS (P : Row) (pr : Nat → Int32) (np nd : Nat) : Nat → Nat × Int32
  | 0 => (0, -1)
  | i + 1 => if rwT P pr np nd (i + 1) (byS P pr np nd i).1 = rwT P pr np nd i (byS P pr np nd i).1 then ((byS P pr np nd i).1, -1) else ((byS P pr np nd i).1 ||| 2 ^ cN (ffr (fbS P pr np nd i (byS P pr np nd i).1) np 0), ffr (fbS P pr np nd i (byS P pr np nd i).1) np 0)
def buK (nd : Nat) (v : Int32) : Nat := if v = -1 then 0 else if inR v nd then 0 else 1
def buV (P : Row) (ls : List LN) (np nd : Nat) (v : Int32) : Int32 := if v = -1 then rwT P (fun i => prS P i (whS ls nd (nI 0) P i)) np nd 0 0 else (byS P (fun i => prS P i (whS ls nd (nI 0) P i)) np nd (cN v + 1)).2
section
variable {P : Row} {pr nx : Nat → Int32} {np nd i s q n k : Nat} {f : Nat → Bool}
theorem mbS_c : mbS P pr i q s = true ↔ P (45 + 12 * i + 10) = 0 ∧ ¬ (P (45 + 12 * i + 1) = nI q ∨ P (45 + 12 * i + 2) = nI q) ∧ ¬ s.testBit q = true ∧ ¬ P (15 + 2 * q + 0) < pr i := by
  unfold mbS
  exact decide_eq_true_iff
theorem moF_u : moF P pr nx i s (q + 1) = if mbS P pr i q s = true then (if moF P pr nx i s q < slS pr nx i s q then slS pr nx i s q else moF P pr nx i s q) else moF P pr nx i s q := rfl
theorem moF_a : ∀ n, moF P pr nx i s n = nx s ∨ ∃ q, q < n ∧ mbS P pr i q s = true ∧ slS pr nx i s q = moF P pr nx i s n
  | 0 => Or.inl rfl
  | n + 1 => by
    rw [moF_u]
    have ih : moF P pr nx i s n = nx s ∨ ∃ q, q < n + 1 ∧ mbS P pr i q s = true ∧ slS pr nx i s q = moF P pr nx i s n := by
      rcases moF_a n with e | ⟨q, hq, e⟩
      · exact Or.inl e
      · exact Or.inr ⟨q, by omega, e⟩
    by_cases c : mbS P pr i n s = true
    · rw [if_pos c]
      by_cases c2 : moF P pr nx i s n < slS pr nx i s n
      · rw [if_pos c2]
        exact Or.inr ⟨n, by omega, c, rfl⟩
      · rw [if_neg c2]
        exact ih
    · rw [if_neg c]
      exact ih
theorem rwT_z : rwT P pr np nd nd s = nI 0 := by
  unfold rwT
  rw [Nat.sub_self]
  rfl
theorem rwT_u (hi : i < nd) : rwT P pr np nd i s = moF P pr (rwT P pr np nd (i + 1)) i s np := by
  have e : ∀ t, rwT P pr np nd (i + 1) t = moT P pr np nd (nd - (i + 1)) t := fun _ => rfl
  have e1 : rwT P pr np nd (i + 1) = moT P pr np nd (nd - (i + 1)) := funext e
  rw [e1]
  unfold rwT
  obtain ⟨n, hn⟩ : ∃ n, nd - (i + 1) = n := ⟨_, rfl⟩
  rw [hn, show nd - i = n + 1 by omega]
  show moF P pr (moT P pr np nd n) (nd - (n + 1)) s np = _
  rw [show nd - (n + 1) = i by omega]
theorem ffr_u : ffr f (n + 1) k = if f k = true then nI k else ffr f n (k + 1) := rfl
theorem ffr_a : ∀ n k, (∃ q, k ≤ q ∧ q < k + n ∧ f q = true) → ∃ j, k ≤ j ∧ j < k + n ∧ ffr f n k = nI j
  | 0, k, ⟨q, h1, h2, _⟩ => by omega
  | n + 1, k, ⟨q, h1, h2, h3⟩ => by
    rw [ffr_u]
    by_cases c : f k = true
    · exact ⟨k, by omega, by omega, if_pos c⟩
    · rw [if_neg c]
      have : q ≠ k := fun e => c (e ▸ h3)
      obtain ⟨j, j1, j2, j3⟩ := ffr_a n (k + 1) ⟨q, by omega, by omega, h3⟩
      exact ⟨j, by omega, by omega, j3⟩
theorem fbS_a (hi : i < nd) (h : ¬ rwT P pr np nd (i + 1) s = rwT P pr np nd i s) : ∃ j, j < np ∧ ffr (fbS P pr np nd i s) np 0 = nI j := by
  have e := rwT_u (P := P) (pr := pr) (np := np) (s := s) hi
  rcases moF_a (P := P) (pr := pr) (nx := rwT P pr np nd (i + 1)) (i := i) (s := s) np with a | ⟨q, hq, a, b⟩
  · exact absurd (a.symm.trans e.symm) h
  · obtain ⟨j, -, j2, j3⟩ := ffr_a (f := fbS P pr np nd i s) np 0 ⟨q, by omega, by omega, by
      unfold fbS
      rw [a, Bool.true_and, decide_eq_true_iff, b, e]⟩
    exact ⟨j, by omega, j3⟩
theorem byS_u : byS P pr np nd (i + 1) = if rwT P pr np nd (i + 1) (byS P pr np nd i).1 = rwT P pr np nd i (byS P pr np nd i).1 then ((byS P pr np nd i).1, -1) else ((byS P pr np nd i).1 ||| 2 ^ cN (ffr (fbS P pr np nd i (byS P pr np nd i).1) np 0), ffr (fbS P pr np nd i (byS P pr np nd i).1) np 0) := rfl
theorem or_64 (hs : s < 64) (hq : q < 6) : s ||| 2 ^ q < 64 := by
  have : 2 ^ q < 2 ^ 6 := Nat.pow_lt_pow_right (by decide) hq
  exact Nat.or_lt_two_pow (n := 6) hs this
theorem byS_l (h6 : np ≤ 6) : ∀ i, i ≤ nd → (byS P pr np nd i).1 < 64
  | 0, _ => show 0 < 64 by decide
  | i + 1, h => by
    have ih := byS_l h6 i (by omega)
    rw [byS_u]
    split
    · exact ih
    · rename_i c
      obtain ⟨j, hj, e⟩ := fbS_a (by omega) c
      rw [e, cN_nI (by omega)]
      exact or_64 ih (by omega)
theorem mx_c {a b : Int32} : (if b < a then a else b) = if a < b then b else a := by
  by_cases c : b < a
  · rw [if_pos c, if_neg (fun q => Int32.lt_irrefl (Int32.lt_trans c q))]
  · rw [if_neg c]
    by_cases c2 : a < b
    · rw [if_pos c2]
    · rw [if_neg c2]
      exact Int32.le_antisymm (Int32.not_lt.mp c2) (Int32.not_lt.mp c)
theorem ni_dn {j : Nat} (hj : j < 2 ^ 31) : nI (j + 1) + (-1) = nI j := by
  rw [m1_sub, pk_sub (by omega), Nat.add_sub_cancel]
theorem ni_nn {j : Nat} (hj : j < 2 ^ 31) : ¬ nI j < 0 := by
  intro q
  have := Int32.lt_iff_toInt_lt.mp q
  rw [nI_toInt hj, Int32.toInt_zero] at this
  omega
end
