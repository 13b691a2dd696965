/-! RING in both -/
abbrev crF (P : Row) (nd a o : Nat) : Prop := o ≠ a ∧ ¬ dvV P nd (nI a) (nI o) (-1) ≤ 0
def crN (P : Row) (np nd a : Nat) : Nat := bsN (fun o => crF P nd a o) np
def gsP (cr : Nat → Nat) : Nat → Nat → Nat
  | 0, s => s
  | k + 1, s => if (gsP cr k s).testBit k = true then gsP cr k s ||| cr k else gsP cr k s
def gsR (cr : Nat → Nat) (np v : Nat) : Nat → Nat
  | 0 => cr v
  | r + 1 => gsP cr np (gsR cr np v r)
def jaP (cr : Nat → Nat) (come : Nat) : Nat → Nat → Nat
  | 0, s => s
  | k + 1, s => if come.testBit k = true then jaP cr come k s ||| cr k else jaP cr come k s
def jaR (cr : Nat → Nat) (np v : Nat) : Nat → Nat × Nat
  | 0 => (2 ^ v, 0)
  | r + 1 => ((jaR cr np v r).1 ||| jaP cr (jaR cr np v r).1 np (jaR cr np v r).2, jaP cr (jaR cr np v r).1 np (jaR cr np v r).2)
def cntN (s : Nat) : Nat → Nat
  | 0 => 0
  | k + 1 => cntN s k + if s.testBit k = true then 1 else 0
section
variable {cr : Nat → Nat} {np v come s n j k : Nat} {Q : Nat → Prop}
theorem gsP_u : gsP cr (k + 1) s = if (gsP cr k s).testBit k = true then gsP cr k s ||| cr k else gsP cr k s := rfl
theorem jaP_u : jaP cr come (k + 1) s = if come.testBit k = true then jaP cr come k s ||| cr k else jaP cr come k s := rfl
theorem jaP_t : ∀ n, (jaP cr come n s).testBit j = true ↔ s.testBit j = true ∨ ∃ k, k < n ∧ come.testBit k = true ∧ (cr k).testBit j = true
  | 0 => ⟨fun q => Or.inl q, fun q => q.elim id (fun ⟨k, hk, _⟩ => by omega)⟩
  | n + 1 => by
    rw [jaP_u]
    have ih := jaP_t n
    by_cases c : come.testBit n = true
    · rw [if_pos c, Nat.testBit_or, Bool.or_eq_true, ih]
      constructor
      · rintro ((q | ⟨k, hk, q⟩) | q)
        · exact Or.inl q
        · exact Or.inr ⟨k, by omega, q⟩
        · exact Or.inr ⟨n, by omega, c, q⟩
      · rintro (q | ⟨k, hk, q1, q2⟩)
        · exact Or.inl (Or.inl q)
        · by_cases e : k = n
          · subst e
            exact Or.inr q2
          · exact Or.inl (Or.inr ⟨k, by omega, q1, q2⟩)
    · rw [if_neg c, ih]
      constructor
      · rintro (q | ⟨k, hk, q⟩)
        · exact Or.inl q
        · exact Or.inr ⟨k, by omega, q⟩
      · rintro (q | ⟨k, hk, q1, q2⟩)
        · exact Or.inl q
        · by_cases e : k = n
          · subst e
            exact absurd q1 c
          · exact Or.inr ⟨k, by omega, q1, q2⟩
theorem gsP_le (hj : s.testBit j = true) : ∀ n, (gsP cr n s).testBit j = true
  | 0 => hj
  | n + 1 => by
    have ih := gsP_le hj n
    rw [gsP_u]
    split
    · rw [Nat.testBit_or, ih, Bool.true_or]
    · exact ih
theorem gsP_me (hk : s.testBit k = true) (hj : (cr k).testBit j = true) : ∀ n, k < n → (gsP cr n s).testBit j = true
  | 0, h => by omega
  | n + 1, h => by
    rw [gsP_u]
    by_cases e : k = n
    · subst e
      rw [if_pos (gsP_le hk k), Nat.testBit_or, hj, Bool.or_true]
    · have ih := gsP_me hk hj n (by omega)
      split
      · rw [Nat.testBit_or, ih, Bool.true_or]
      · exact ih
theorem gsP_su (hs : ∀ j, s.testBit j = true → Q j) : ∀ n, (∀ k, k < n → Q k → ∀ j, (cr k).testBit j = true → Q j) → ∀ j, (gsP cr n s).testBit j = true → Q j
  | 0, _, j, h => hs j h
  | n + 1, hq, j, h => by
    have ih := gsP_su hs n (fun k hk => hq k (by omega))
    rw [gsP_u] at h
    by_cases c : (gsP cr n s).testBit n = true
    · rw [if_pos c, Nat.testBit_or, Bool.or_eq_true] at h
      exact h.elim (ih j) (hq n (by omega) (ih n c) j)
    · rw [if_neg c] at h
      exact ih j h
theorem cntN_n : ∀ n, cntN s n ≤ n
  | 0 => Nat.le_refl _
  | n + 1 => by
    have := cntN_n n
    unfold cntN
    split <;> omega
theorem cntN_f : ∀ n, n ≤ cntN s n → ∀ j, j < n → s.testBit j = true
  | 0, _, j, h => by omega
  | n + 1, q, j, h => by
    have l := cntN_n (s := s) n
    unfold cntN at q
    by_cases c : s.testBit n = true
    · rw [if_pos c] at q
      by_cases e : j = n
      · rw [e]; exact c
      · exact cntN_f n (by omega) j (by omega)
    · rw [if_neg c] at q
      omega
theorem cntN_l {t : Nat} (hs : ∀ j, s.testBit j = true → t.testBit j = true) : ∀ n, cntN s n ≤ cntN t n
  | 0 => Nat.le_refl _
  | n + 1 => by
    have ih := cntN_l hs n
    unfold cntN
    by_cases c : s.testBit n = true
    · rw [if_pos c, if_pos (hs n c)]; omega
    · rw [if_neg c]; omega
theorem cntN_s {t : Nat} (hs : ∀ j, s.testBit j = true → t.testBit j = true) (h1 : t.testBit j = true) (h2 : ¬ s.testBit j = true) : ∀ n, j < n → cntN s n < cntN t n
  | 0, h => by omega
  | n + 1, h => by
    have l := cntN_l hs n
    unfold cntN
    by_cases e : j = n
    · subst e
      rw [if_pos h1, if_neg h2]; omega
    · have ih := cntN_s hs h1 h2 n (by omega)
      by_cases c : s.testBit n = true
      · rw [if_pos c, if_pos (hs n c)]; omega
      · rw [if_neg c]; omega
/-- what stands in the come set -/
theorem jaR_c : ∀ r, (jaR cr np v r).1.testBit j = true ↔ j = v ∨ (jaR cr np v r).2.testBit j = true
  | 0 => by
    show (2 ^ v).testBit j = true ↔ j = v ∨ (0 : Nat).testBit j = true
    rw [Nat.testBit_two_pow]
    simp [eq_comm]
  | r + 1 => by
    have ih := jaR_c r
    show ((jaR cr np v r).1 ||| jaP cr (jaR cr np v r).1 np (jaR cr np v r).2).testBit j = true ↔ j = v ∨ (jaP cr (jaR cr np v r).1 np (jaR cr np v r).2).testBit j = true
    rw [Nat.testBit_or, Bool.or_eq_true, ih]
    constructor
    · rintro ((q | q) | q)
      · exact Or.inl q
      · exact Or.inr ((jaP_t np).mpr (Or.inl q))
      · exact Or.inr q
    · rintro (q | q)
      · exact Or.inl (Or.inl q)
      · exact Or.inr q
theorem jaR_g (hc : ∀ k j, (cr k).testBit j = true → j < np) : ∀ r, r ≤ cntN (jaR cr np v r).2 np ∨ ∀ k, k < np → (jaR cr np v r).1.testBit k = true → ∀ j, (cr k).testBit j = true → (jaR cr np v r).2.testBit j = true
  | 0 => Or.inl (Nat.zero_le _)
  | r + 1 => by
    have up : ∀ j, (jaR cr np v r).2.testBit j = true → (jaR cr np v (r + 1)).2.testBit j = true := fun j q => (jaP_t np).mpr (Or.inl q)
    by_cases cl : ∀ k, k < np → (jaR cr np v r).1.testBit k = true → ∀ j, (cr k).testBit j = true → (jaR cr np v r).2.testBit j = true
    · right
      have dn : ∀ j, (jaR cr np v (r + 1)).2.testBit j = true → (jaR cr np v r).2.testBit j = true := by
        intro j q
        rcases (jaP_t np).mp q with q | ⟨k, hk, q1, q2⟩
        · exact q
        · exact cl k hk q1 j q2
      intro k hk q j hj
      have q' : (jaR cr np v r).1.testBit k = true := by
        rcases (jaR_c (r + 1)).mp q with e | e
        · exact (jaR_c r).mpr (Or.inl e)
        · exact (jaR_c r).mpr (Or.inr (dn k e))
      exact up j (cl k hk q' j hj)
    · left
      have ih := (jaR_g hc r).resolve_right cl
      have : ∃ k, k < np ∧ (jaR cr np v r).1.testBit k = true ∧ ∃ j, (cr k).testBit j = true ∧ ¬ (jaR cr np v r).2.testBit j = true := by
        apply Classical.byContradiction
        intro q
        refine cl (fun k hk h1 j h2 => Classical.byContradiction (fun h3 => q ⟨k, hk, h1, j, h2, h3⟩))
      obtain ⟨k, hk, h1, j, h2, h3⟩ := this
      have := cntN_s up ((jaP_t np).mpr (Or.inr ⟨k, hk, h1, h2⟩)) h3 np (hc k j h2)
      omega
theorem ring_eq (hc : ∀ k j, (cr k).testBit j = true → j < np) (h6 : np ≤ 6) (hv : v < np) : (gsR cr np v 6).testBit j = true ↔ (jaR cr np v 6).2.testBit j = true := by
  have cl : ∀ k, k < np → (jaR cr np v 6).1.testBit k = true → ∀ j, (cr k).testBit j = true → (jaR cr np v 6).2.testBit j = true := by
    rcases jaR_g (v := v) hc 6 with q | q
    · intro k hk _ j hj
      have l := cntN_n (s := (jaR cr np v 6).2) np
      exact cntN_f np (by omega) j (hc k j hj)
    · exact q
  constructor
  · have : ∀ r j, (gsR cr np v r).testBit j = true → (jaR cr np v 6).2.testBit j = true := by
      intro r
      induction r with
      | zero => exact fun j hj => cl v hv ((jaR_c 6).mpr (Or.inl rfl)) j hj
      | succ r ih => exact gsP_su (Q := fun j => (jaR cr np v 6).2.testBit j = true) ih np (fun k hk q => cl k hk ((jaR_c 6).mpr (Or.inr q)))
    exact this 6 j
  · have : ∀ r j, (jaR cr np v r).2.testBit j = true → (gsR cr np v r).testBit j = true := by
      intro r
      induction r with
      | zero =>
        intro j hj
        have : (0 : Nat).testBit j = true := hj
        rw [Nat.zero_testBit] at this
        cases this
      | succ r ih =>
        intro j hj
        rcases (jaP_t np).mp hj with q | ⟨k, hk, q1, q2⟩
        · exact gsP_le (ih j q) np
        · rcases (jaR_c r).mp q1 with e | e
          · subst e
            have b0 : ∀ r, (gsR cr np k r).testBit j = true := by
              intro r
              induction r with
              | zero => exact q2
              | succ r ih => exact gsP_le ih np
            exact b0 (r + 1)
          · exact gsP_me (ih k e) q2 np hk
    exact this 6 j
end
