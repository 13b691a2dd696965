/-! THE START: the pictures -/
section
variable {g : Hp} {p X : Nat}
theorem PSk_of (a : ∀ q ∈ ptK, zK g (p + q.1) = q.2) (n : ∀ q ∈ ptNn, zN g (p + q.1) = q.2) (r : ∀ q ∈ ptR, zR g (p + q.1) q.2.1 = some (p + q.2.2)) : PSk g p := by
  refine ⟨a (0, 8) (by decide), r (0, 0, 1) (by decide), r (0, 2, 2) (by decide), r (0, 4, 3) (by decide), r (0, 6, 4) (by decide), r (0, 13, 5) (by decide), r (0, 14, 7) (by decide), a (1, 24) (by decide), n (1, 6) (by decide), a (2, 23) (by decide), n (2, 6) (by decide), a (3, 22) (by decide), n (3, 8) (by decide), a (4, 20) (by decide), n (4, 4) (by decide), a (5, 5) (by decide), r (5, 0, 6) (by decide), a (6, 20) (by decide), n (6, 240) (by decide), a (7, 20) (by decide), n (7, 9) (by decide), fun k hk => ?_, fun k hk => ?_, fun k hk => ?_, fun k hk => ?_, fun k hk => ?_, fun k hk => ?_⟩
  · rcases (by omega : k = 0 ∨ k = 1 ∨ k = 2 ∨ k = 3 ∨ k = 4 ∨ k = 5) with e | e | e | e | e | e <;> subst e
    · exact r (1, 0, 8) (by decide)
    · exact r (1, 1, 9) (by decide)
    · exact r (1, 2, 10) (by decide)
    · exact r (1, 3, 11) (by decide)
    · exact r (1, 4, 12) (by decide)
    · exact r (1, 5, 13) (by decide)
  · rcases (by omega : k = 0 ∨ k = 1 ∨ k = 2 ∨ k = 3 ∨ k = 4 ∨ k = 5) with e | e | e | e | e | e <;> subst e
    · exact r (2, 0, 14) (by decide)
    · exact r (2, 1, 15) (by decide)
    · exact r (2, 2, 16) (by decide)
    · exact r (2, 3, 17) (by decide)
    · exact r (2, 4, 18) (by decide)
    · exact r (2, 5, 19) (by decide)
  · rcases (by omega : k = 0 ∨ k = 1 ∨ k = 2 ∨ k = 3 ∨ k = 4 ∨ k = 5 ∨ k = 6 ∨ k = 7) with e | e | e | e | e | e | e | e <;> subst e
    · exact r (3, 0, 20) (by decide)
    · exact r (3, 1, 21) (by decide)
    · exact r (3, 2, 22) (by decide)
    · exact r (3, 3, 23) (by decide)
    · exact r (3, 4, 24) (by decide)
    · exact r (3, 5, 25) (by decide)
    · exact r (3, 6, 26) (by decide)
    · exact r (3, 7, 27) (by decide)
  · rcases (by omega : k = 0 ∨ k = 1 ∨ k = 2 ∨ k = 3 ∨ k = 4 ∨ k = 5) with e | e | e | e | e | e <;> subst e
    · exact a (8, 7) (by decide)
    · exact a (9, 7) (by decide)
    · exact a (10, 7) (by decide)
    · exact a (11, 7) (by decide)
    · exact a (12, 7) (by decide)
    · exact a (13, 7) (by decide)
  · rcases (by omega : k = 0 ∨ k = 1 ∨ k = 2 ∨ k = 3 ∨ k = 4 ∨ k = 5) with e | e | e | e | e | e <;> subst e
    · exact a (14, 2) (by decide)
    · exact a (15, 2) (by decide)
    · exact a (16, 2) (by decide)
    · exact a (17, 2) (by decide)
    · exact a (18, 2) (by decide)
    · exact a (19, 2) (by decide)
  · rcases (by omega : k = 0 ∨ k = 1 ∨ k = 2 ∨ k = 3 ∨ k = 4 ∨ k = 5 ∨ k = 6 ∨ k = 7) with e | e | e | e | e | e | e | e <;> subst e
    · exact a (20, 1) (by decide)
    · exact a (21, 1) (by decide)
    · exact a (22, 1) (by decide)
    · exact a (23, 1) (by decide)
    · exact a (24, 1) (by decide)
    · exact a (25, 1) (by decide)
    · exact a (26, 1) (by decide)
    · exact a (27, 1) (by decide)
theorem JSk_of (a : ∀ q ∈ jaK, zK g (p + q.1) = q.2) (n : ∀ q ∈ jaN, zN g (p + q.1) = q.2) (r : ∀ q ∈ jaR_, zR g (p + q.1) q.2.1 = some (p + q.2.2)) : JSk g p := ⟨a (0, 3) (by decide), r (0, 0, 1) (by decide), r (0, 2, 2) (by decide), a (1, 20) (by decide), n (1, 40) (by decide), a (2, 20) (by decide), n (2, 61) (by decide)⟩
theorem MSk_of (a : ∀ q ∈ mkK, zK g (p + q.1) = q.2) (n : ∀ q ∈ mkN, zN g (p + q.1) = q.2) (r : ∀ q ∈ mkR, zR g (p + q.1) q.2.1 = some (p + q.2.2)) : MSk g p := ⟨a (0, 6) (by decide), r (0, 0, 1) (by decide), r (0, 1, 2) (by decide), a (1, 20) (by decide), n (1, 8) (by decide), a (2, 20) (by decide), n (2, 576) (by decide)⟩
theorem RSk_of (a : ∀ q ∈ rfK, zK g (p + q.1) = q.2) (n : ∀ q ∈ rfN, zN g (p + q.1) = q.2) (r : ∀ q ∈ rfR, zR g (p + q.1) q.2.1 = some (p + q.2.2)) : RSk g p := ⟨a (0, 11) (by decide), r (0, 1, 1) (by decide), a (1, 20) (by decide), n (1, 781) (by decide), r (0, 2, 2) (by decide), a (2, 20) (by decide), n (2, 781) (by decide), r (0, 4, 3) (by decide), a (3, 20) (by decide), n (3, 381) (by decide), r (0, 5, 4) (by decide), a (4, 20) (by decide), n (4, 4572) (by decide), r (0, 7, 5) (by decide), a (5, 20) (by decide), n (5, 400) (by decide), r (0, 14, 6) (by decide), a (6, 20) (by decide), n (6, 7) (by decide), r (0, 20, 7) (by decide), a (7, 21) (by decide), n (7, 126) (by decide), r (0, 21, 8) (by decide), a (8, 20) (by decide), n (8, 126) (by decide), r (0, 22, 9) (by decide), a (9, 20) (by decide), n (9, 576) (by decide), r (0, 23, 10) (by decide), a (10, 20) (by decide), n (10, 8) (by decide)⟩
theorem XSk_of (a : ∀ q ∈ liK, zK g (X + q.1) = q.2) (n : ∀ q ∈ liN, zN g (X + q.1) = q.2) (r : ∀ q ∈ liR, zR g (X + q.1) q.2.1 = some (X + q.2.2)) (p4 : PSk g (X + 4)) (p32 : PSk g (X + 32)) (p60 : PSk g (X + 60)) (pk : ∀ k, k < 12 → PSk g (X + 97 + 28 * k)) (ja : JSk g (X + 89)) (mk : MSk g (X + 92)) : XSk g X := by
  refine ⟨a (0, 10) (by decide), r (0, 0, 1) (by decide), r (0, 2, 2) (by decide), r (0, 3, 4) (by decide), r (0, 4, 32) (by decide), r (0, 5, 60) (by decide), r (0, 7, 88) (by decide), r (0, 10, 89) (by decide), r (0, 11, 92) (by decide), r (0, 12, 95) (by decide), r (0, 13, 96) (by decide), a (1, 20) (by decide), n (1, 400) (by decide), a (2, 9) (by decide), p4, p32, p60, a (88, 25) (by decide), n (88, 12) (by decide), fun k hk => ?_, pk, ja, mk, a (95, 20) (by decide), n (95, 8) (by decide), a (96, 20) (by decide), n (96, 8) (by decide)⟩
  rcases (by omega : k = 0 ∨ k = 1 ∨ k = 2 ∨ k = 3 ∨ k = 4 ∨ k = 5 ∨ k = 6 ∨ k = 7 ∨ k = 8 ∨ k = 9 ∨ k = 10 ∨ k = 11) with e | e | e | e | e | e | e | e | e | e | e | e <;> subst e
  · exact r (88, 0, 97) (by decide)
  · exact r (88, 1, 125) (by decide)
  · exact r (88, 2, 153) (by decide)
  · exact r (88, 3, 181) (by decide)
  · exact r (88, 4, 209) (by decide)
  · exact r (88, 5, 237) (by decide)
  · exact r (88, 6, 265) (by decide)
  · exact r (88, 7, 293) (by decide)
  · exact r (88, 8, 321) (by decide)
  · exact r (88, 9, 349) (by decide)
  · exact r (88, 10, 377) (by decide)
  · exact r (88, 11, 405) (by decide)
theorem PT_of {P : Row} (s : PSk g p) (m : ∀ q ∈ piI, zI g (p + q.1) q.2.1 = q.2.2) (f : ∀ q ∈ rfI, q.1 = 1 → P q.2.1 = q.2.2) : PT g p P 0 0 0 := by
  refine ⟨s, ⟨⟨by decide, by decide, by decide⟩, ⟨f (1, 3, 0) (by decide) rfl, f (1, 4, 0) (by decide) rfl, f (1, 5, 0) (by decide) rfl⟩, ⟨m (0, 1, 0) (by decide), m (0, 3, 0) (by decide), m (0, 5, 0) (by decide)⟩, ⟨(m (0, 7, 1) (by decide)).trans (f (1, 7, 1) (by decide) rfl).symm, (m (0, 8, 0) (by decide)).trans (f (1, 8, 0) (by decide) rfl).symm, (m (0, 9, 0) (by decide)).trans (f (1, 6, 0) (by decide) rfl).symm, (m (0, 10, 1) (by decide)).trans (f (1, 10, 1) (by decide) rfl).symm, (m (0, 11, 0) (by decide)).trans (f (1, 0, 0) (by decide) rfl).symm⟩, fun k hk => ?_, fun i c hi => absurd hi (Nat.not_lt_zero i), fun i c hi => absurd hi (Nat.not_lt_zero i), fun i c hi => absurd hi (Nat.not_lt_zero i)⟩, 0, 0, by decide, by decide, f (1, 9, 0) (by decide) rfl, m (5, 1, 0) (by decide), m (5, 2, 0) (by decide), fun a c ha => absurd ha (Nat.not_lt_zero a)⟩
  rcases (by omega : k = 0 ∨ k = 1 ∨ k = 2 ∨ k = 3) with e | e | e | e <;> subst e
  · exact (m (4, 0, 2) (by decide)).trans (f (1, 11, 2) (by decide) rfl).symm
  · exact (m (4, 1, 2) (by decide)).trans (f (1, 12, 2) (by decide) rfl).symm
  · exact (m (4, 2, 2) (by decide)).trans (f (1, 13, 2) (by decide) rfl).symm
  · exact (m (4, 3, 2) (by decide)).trans (f (1, 14, 2) (by decide) rfl).symm
theorem OkA_of {P : Row} (f : ∀ q ∈ rfI, q.1 = 1 → P q.2.1 = q.2.2) (t : ∀ i, 781 ≤ i → P i = 0) : OkA (P, 0, 0, 0) [] none [] := by
  refine ⟨⟨⟨⟨f (1, 3, 0) (by decide) rfl, f (1, 4, 0) (by decide) rfl, f (1, 5, 0) (by decide) rfl, Nat.zero_le _, Nat.zero_le _, Nat.zero_le _⟩, fun i hi => absurd hi (Nat.not_lt_zero i), fun i hi => absurd hi (Nat.not_lt_zero i), fun i hi => absurd hi (Nat.not_lt_zero i), ⟨fun i hi => absurd hi (Nat.not_lt_zero i), fun k hk => ⟨2, by decide, ?_⟩⟩, ⟨0, by decide, f (1, 6, 0) (by decide) rfl⟩, ⟨1, by decide, f (1, 7, 1) (by decide) rfl⟩, ⟨0, by decide, f (1, 8, 0) (by decide) rfl⟩, ⟨0, by decide, f (1, 9, 0) (by decide) rfl⟩, ⟨0, by decide, f (1, 0, 0) (by decide) rfl⟩⟩, Or.inl ⟨f (1, 1, -1) (by decide) rfl, rfl⟩, t⟩, fun q e => (by cases e), fun S' e => (by cases e)⟩
  rcases (by omega : k = 0 ∨ k = 1 ∨ k = 2 ∨ k = 3) with e | e | e | e <;> subst e
  · exact f (1, 11, 2) (by decide) rfl
  · exact f (1, 12, 2) (by decide) rfl
  · exact f (1, 13, 2) (by decide) rfl
  · exact f (1, 14, 2) (by decide) rfl
end
