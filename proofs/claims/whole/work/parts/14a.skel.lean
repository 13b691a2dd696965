/-! SKELETONS OF THE CLASS -/
theorem zkr {h : Hp} {a : Nat} (e : zK h a = 20) : 20 ≤ zK h a ∧ zK h a ≤ 28 := by rw [e]; decide
def BSk (h : Hp) (b : Nat) : Prop := (zK h b = 5) ∧ (zR h b 0 = some (b + 1)) ∧ (zK h (b + 1) = 20) ∧ (zN h (b + 1) = 240)
theorem BSk_K {h : Hp} {b : Nat} (s : BSk h b) : zK h b = 5 := s.1
theorem BSk_R0 {h : Hp} {b : Nat} (s : BSk h b) : zR h b 0 = some (b + 1) := s.2.1
theorem BSk_a0k {h : Hp} {b : Nat} (s : BSk h b) : zK h (b + 1) = 20 := s.2.2.1
theorem BSk_a0n {h : Hp} {b : Nat} (s : BSk h b) : zN h (b + 1) = 240 := s.2.2.2
def JSk (h : Hp) (J : Nat) : Prop := (zK h J = 3) ∧ (zR h J 0 = some (J + 1)) ∧ (zR h J 2 = some (J + 2)) ∧ (zK h (J + 1) = 20) ∧ (zN h (J + 1) = 40) ∧ (zK h (J + 2) = 20) ∧ (zN h (J + 2) = 61)
theorem JSk_K {h : Hp} {J : Nat} (s : JSk h J) : zK h J = 3 := s.1
theorem JSk_R0 {h : Hp} {J : Nat} (s : JSk h J) : zR h J 0 = some (J + 1) := s.2.1
theorem JSk_R2 {h : Hp} {J : Nat} (s : JSk h J) : zR h J 2 = some (J + 2) := s.2.2.1
theorem JSk_a0k {h : Hp} {J : Nat} (s : JSk h J) : zK h (J + 1) = 20 := s.2.2.2.1
theorem JSk_a0n {h : Hp} {J : Nat} (s : JSk h J) : zN h (J + 1) = 40 := s.2.2.2.2.1
theorem JSk_a2k {h : Hp} {J : Nat} (s : JSk h J) : zK h (J + 2) = 20 := s.2.2.2.2.2.1
theorem JSk_a2n {h : Hp} {J : Nat} (s : JSk h J) : zN h (J + 2) = 61 := s.2.2.2.2.2.2
def MSk (h : Hp) (K : Nat) : Prop := (zK h K = 6) ∧ (zR h K 0 = some (K + 1)) ∧ (zR h K 1 = some (K + 2)) ∧ (zK h (K + 1) = 20) ∧ (zN h (K + 1) = 8) ∧ (zK h (K + 2) = 20) ∧ (zN h (K + 2) = 576)
theorem MSk_K {h : Hp} {K : Nat} (s : MSk h K) : zK h K = 6 := s.1
theorem MSk_R0 {h : Hp} {K : Nat} (s : MSk h K) : zR h K 0 = some (K + 1) := s.2.1
theorem MSk_R1 {h : Hp} {K : Nat} (s : MSk h K) : zR h K 1 = some (K + 2) := s.2.2.1
theorem MSk_a0k {h : Hp} {K : Nat} (s : MSk h K) : zK h (K + 1) = 20 := s.2.2.2.1
theorem MSk_a0n {h : Hp} {K : Nat} (s : MSk h K) : zN h (K + 1) = 8 := s.2.2.2.2.1
theorem MSk_a1k {h : Hp} {K : Nat} (s : MSk h K) : zK h (K + 2) = 20 := s.2.2.2.2.2.1
theorem MSk_a1n {h : Hp} {K : Nat} (s : MSk h K) : zN h (K + 2) = 576 := s.2.2.2.2.2.2
def LSk (h : Hp) (L : Nat) (N : Nat) : Prop := (zK h L = 4) ∧ (zR h L 2 = some (L + 1)) ∧ (zR h L 3 = some (L + 2)) ∧ (zR h L 4 = some (L + 3)) ∧ (zR h L 6 = some (L + 4)) ∧ (zR h L 0 = some (L + 5)) ∧ (zK h (L + 1) = 20) ∧ (zN h (L + 1) = 12) ∧ (zK h (L + 2) = 20) ∧ (zN h (L + 2) = 12) ∧ (zK h (L + 3) = 20) ∧ (zN h (L + 3) = 12) ∧ (zK h (L + 4) = 20) ∧ (zN h (L + 4) = 40) ∧ (zK h (L + 5) = 20) ∧ (zN h (L + 5) = N)
theorem LSk_K {h : Hp} {L N : Nat} (s : LSk h L N) : zK h L = 4 := s.1
theorem LSk_R2 {h : Hp} {L N : Nat} (s : LSk h L N) : zR h L 2 = some (L + 1) := s.2.1
theorem LSk_R3 {h : Hp} {L N : Nat} (s : LSk h L N) : zR h L 3 = some (L + 2) := s.2.2.1
theorem LSk_R4 {h : Hp} {L N : Nat} (s : LSk h L N) : zR h L 4 = some (L + 3) := s.2.2.2.1
theorem LSk_R6 {h : Hp} {L N : Nat} (s : LSk h L N) : zR h L 6 = some (L + 4) := s.2.2.2.2.1
theorem LSk_R0 {h : Hp} {L N : Nat} (s : LSk h L N) : zR h L 0 = some (L + 5) := s.2.2.2.2.2.1
theorem LSk_a2k {h : Hp} {L N : Nat} (s : LSk h L N) : zK h (L + 1) = 20 := s.2.2.2.2.2.2.1
theorem LSk_a2n {h : Hp} {L N : Nat} (s : LSk h L N) : zN h (L + 1) = 12 := s.2.2.2.2.2.2.2.1
theorem LSk_a3k {h : Hp} {L N : Nat} (s : LSk h L N) : zK h (L + 2) = 20 := s.2.2.2.2.2.2.2.2.1
theorem LSk_a3n {h : Hp} {L N : Nat} (s : LSk h L N) : zN h (L + 2) = 12 := s.2.2.2.2.2.2.2.2.2.1
theorem LSk_a4k {h : Hp} {L N : Nat} (s : LSk h L N) : zK h (L + 3) = 20 := s.2.2.2.2.2.2.2.2.2.2.1
theorem LSk_a4n {h : Hp} {L N : Nat} (s : LSk h L N) : zN h (L + 3) = 12 := s.2.2.2.2.2.2.2.2.2.2.2.1
theorem LSk_a6k {h : Hp} {L N : Nat} (s : LSk h L N) : zK h (L + 4) = 20 := s.2.2.2.2.2.2.2.2.2.2.2.2.1
theorem LSk_a6n {h : Hp} {L N : Nat} (s : LSk h L N) : zN h (L + 4) = 40 := s.2.2.2.2.2.2.2.2.2.2.2.2.2.1
theorem LSk_a0k {h : Hp} {L N : Nat} (s : LSk h L N) : zK h (L + 5) = 20 := s.2.2.2.2.2.2.2.2.2.2.2.2.2.2.1
theorem LSk_a0n {h : Hp} {L N : Nat} (s : LSk h L N) : zN h (L + 5) = N := s.2.2.2.2.2.2.2.2.2.2.2.2.2.2.2
def RdSk (h : Hp) (r : Nat) (b : Nat) (N : Nat) : Prop := (zK h r = 9) ∧ (zR h r 0 = some b) ∧ (zK h (b) = 20) ∧ (zN h (b) = N)
theorem RdSk_K {h : Hp} {r b N : Nat} (s : RdSk h r b N) : zK h r = 9 := s.1
theorem RdSk_R0 {h : Hp} {r b N : Nat} (s : RdSk h r b N) : zR h r 0 = some b := s.2.1
theorem RdSk_a0k {h : Hp} {r b N : Nat} (s : RdSk h r b N) : zK h (b) = 20 := s.2.2.1
theorem RdSk_a0n {h : Hp} {r b N : Nat} (s : RdSk h r b N) : zN h (b) = N := s.2.2.2
def XSk (h : Hp) (X : Nat) : Prop := (zK h X = 10) ∧ (zR h X 0 = some (X + 1)) ∧ (zR h X 2 = some (X + 2)) ∧ (zR h X 3 = some (X + 4)) ∧ (zR h X 4 = some (X + 32)) ∧ (zR h X 5 = some (X + 60)) ∧ (zR h X 7 = some (X + 88)) ∧ (zR h X 10 = some (X + 89)) ∧ (zR h X 11 = some (X + 92)) ∧ (zR h X 12 = some (X + 95)) ∧ (zR h X 13 = some (X + 96)) ∧ (zK h (X + 1) = 20) ∧ (zN h (X + 1) = 400) ∧ (zK h (X + 2) = 9) ∧ (PSk h (X + 4)) ∧ (PSk h (X + 32)) ∧ (PSk h (X + 60)) ∧ (zK h (X + 88) = 25) ∧ (zN h (X + 88) = 12) ∧ (∀ k, k < 12 → zR h (X + 88) k = some (X + 97 + 28 * k)) ∧ (∀ k, k < 12 → PSk h (X + 97 + 28 * k)) ∧ (JSk h (X + 89)) ∧ (MSk h (X + 92)) ∧ (zK h (X + 95) = 20) ∧ (zN h (X + 95) = 8) ∧ (zK h (X + 96) = 20) ∧ (zN h (X + 96) = 8)
theorem XSk_K {h : Hp} {X : Nat} (s : XSk h X) : zK h X = 10 := s.1
theorem XSk_R0 {h : Hp} {X : Nat} (s : XSk h X) : zR h X 0 = some (X + 1) := s.2.1
theorem XSk_R2 {h : Hp} {X : Nat} (s : XSk h X) : zR h X 2 = some (X + 2) := s.2.2.1
theorem XSk_R3 {h : Hp} {X : Nat} (s : XSk h X) : zR h X 3 = some (X + 4) := s.2.2.2.1
theorem XSk_R4 {h : Hp} {X : Nat} (s : XSk h X) : zR h X 4 = some (X + 32) := s.2.2.2.2.1
theorem XSk_R5 {h : Hp} {X : Nat} (s : XSk h X) : zR h X 5 = some (X + 60) := s.2.2.2.2.2.1
theorem XSk_R7 {h : Hp} {X : Nat} (s : XSk h X) : zR h X 7 = some (X + 88) := s.2.2.2.2.2.2.1
theorem XSk_R10 {h : Hp} {X : Nat} (s : XSk h X) : zR h X 10 = some (X + 89) := s.2.2.2.2.2.2.2.1
theorem XSk_R11 {h : Hp} {X : Nat} (s : XSk h X) : zR h X 11 = some (X + 92) := s.2.2.2.2.2.2.2.2.1
theorem XSk_R12 {h : Hp} {X : Nat} (s : XSk h X) : zR h X 12 = some (X + 95) := s.2.2.2.2.2.2.2.2.2.1
theorem XSk_R13 {h : Hp} {X : Nat} (s : XSk h X) : zR h X 13 = some (X + 96) := s.2.2.2.2.2.2.2.2.2.2.1
theorem XSk_a0k {h : Hp} {X : Nat} (s : XSk h X) : zK h (X + 1) = 20 := s.2.2.2.2.2.2.2.2.2.2.2.1
theorem XSk_a0n {h : Hp} {X : Nat} (s : XSk h X) : zN h (X + 1) = 400 := s.2.2.2.2.2.2.2.2.2.2.2.2.1
theorem XSk_Kr {h : Hp} {X : Nat} (s : XSk h X) : zK h (X + 2) = 9 := s.2.2.2.2.2.2.2.2.2.2.2.2.2.1
theorem XSk_P3 {h : Hp} {X : Nat} (s : XSk h X) : PSk h (X + 4) := s.2.2.2.2.2.2.2.2.2.2.2.2.2.2.1
theorem XSk_P4 {h : Hp} {X : Nat} (s : XSk h X) : PSk h (X + 32) := s.2.2.2.2.2.2.2.2.2.2.2.2.2.2.2.1
theorem XSk_P5 {h : Hp} {X : Nat} (s : XSk h X) : PSk h (X + 60) := s.2.2.2.2.2.2.2.2.2.2.2.2.2.2.2.2.1
theorem XSk_k7 {h : Hp} {X : Nat} (s : XSk h X) : zK h (X + 88) = 25 := s.2.2.2.2.2.2.2.2.2.2.2.2.2.2.2.2.2.1
theorem XSk_n7 {h : Hp} {X : Nat} (s : XSk h X) : zN h (X + 88) = 12 := s.2.2.2.2.2.2.2.2.2.2.2.2.2.2.2.2.2.2.1
theorem XSk_e7 {h : Hp} {X : Nat} (s : XSk h X) : ∀ k, k < 12 → zR h (X + 88) k = some (X + 97 + 28 * k) := s.2.2.2.2.2.2.2.2.2.2.2.2.2.2.2.2.2.2.2.1
theorem XSk_P7 {h : Hp} {X : Nat} (s : XSk h X) : ∀ k, k < 12 → PSk h (X + 97 + 28 * k) := s.2.2.2.2.2.2.2.2.2.2.2.2.2.2.2.2.2.2.2.2.1
theorem XSk_J {h : Hp} {X : Nat} (s : XSk h X) : JSk h (X + 89) := s.2.2.2.2.2.2.2.2.2.2.2.2.2.2.2.2.2.2.2.2.2.1
theorem XSk_M {h : Hp} {X : Nat} (s : XSk h X) : MSk h (X + 92) := s.2.2.2.2.2.2.2.2.2.2.2.2.2.2.2.2.2.2.2.2.2.2.1
theorem XSk_a12k {h : Hp} {X : Nat} (s : XSk h X) : zK h (X + 95) = 20 := s.2.2.2.2.2.2.2.2.2.2.2.2.2.2.2.2.2.2.2.2.2.2.2.1
theorem XSk_a12n {h : Hp} {X : Nat} (s : XSk h X) : zN h (X + 95) = 8 := s.2.2.2.2.2.2.2.2.2.2.2.2.2.2.2.2.2.2.2.2.2.2.2.2.1
theorem XSk_a13k {h : Hp} {X : Nat} (s : XSk h X) : zK h (X + 96) = 20 := s.2.2.2.2.2.2.2.2.2.2.2.2.2.2.2.2.2.2.2.2.2.2.2.2.2.1
theorem XSk_a13n {h : Hp} {X : Nat} (s : XSk h X) : zN h (X + 96) = 8 := s.2.2.2.2.2.2.2.2.2.2.2.2.2.2.2.2.2.2.2.2.2.2.2.2.2.2
theorem XSk_kr7 {h : Hp} {X : Nat} (s : XSk h X) : 22 ≤ zK h (X + 88) ∧ zK h (X + 88) ≤ 25 := by rw [XSk_k7 s]; decide
theorem XSk_o7 {h : Hp} {X k : Nat} (s : XSk h X) (hk : k < 12) : PSk h (X + 97 + 28 * k) := XSk_P7 s k hk
theorem PSk_BSk {h : Hp} {p : Nat} (s : PSk h p) : BSk h (p + 5) := ⟨PSk_B s, PSk_BR s, PSk_i6 s, PSk_in6 s⟩
theorem BSk_hI {h : Hp} {f : Nat → Nat → Int32} {b : Nat} : BSk (hI h f) b = BSk h b := rfl
theorem BSk_wI {h : Hp} {a j : Nat} {v : Int32} {b : Nat} : BSk (zwI h a j v) b = BSk h b := rfl
theorem JSk_hI {h : Hp} {f : Nat → Nat → Int32} {J : Nat} : JSk (hI h f) J = JSk h J := rfl
theorem JSk_wI {h : Hp} {a j : Nat} {v : Int32} {J : Nat} : JSk (zwI h a j v) J = JSk h J := rfl
theorem MSk_hI {h : Hp} {f : Nat → Nat → Int32} {K : Nat} : MSk (hI h f) K = MSk h K := rfl
theorem MSk_wI {h : Hp} {a j : Nat} {v : Int32} {K : Nat} : MSk (zwI h a j v) K = MSk h K := rfl
theorem LSk_hI {h : Hp} {f : Nat → Nat → Int32} {L N : Nat} : LSk (hI h f) L N = LSk h L N := rfl
theorem LSk_wI {h : Hp} {a j : Nat} {v : Int32} {L N : Nat} : LSk (zwI h a j v) L N = LSk h L N := rfl
theorem RdSk_hI {h : Hp} {f : Nat → Nat → Int32} {r b N : Nat} : RdSk (hI h f) r b N = RdSk h r b N := rfl
theorem RdSk_wI {h : Hp} {a j : Nat} {v : Int32} {r b N : Nat} : RdSk (zwI h a j v) r b N = RdSk h r b N := rfl
theorem XSk_hI {h : Hp} {f : Nat → Nat → Int32} {X : Nat} : XSk (hI h f) X = XSk h X := rfl
theorem XSk_wI {h : Hp} {a j : Nat} {v : Int32} {X : Nat} : XSk (zwI h a j v) X = XSk h X := rfl
theorem e_cbi {z : ZE} {d n pc : Nat} {ls st : List Value} {h : Hp} {i : Instr} {len m d' : Nat} {as rest ent : List Value} (hf : zfetch n pc = some (i, len)) (ha : zsA z n pc i len ls st h = none) (hb : zsB z n pc i len ls st h = none) (hs : zsC n pc i len ls st h = some (.inr (.inr (m, as, rest)))) (hd : zdep d n m as = some d') (hi : Nat.blt (zin m) 99 = true) (he : zent m as = ent) : ev z d n pc ls st h = zbd (ev z d' m 0 ent [] h) (fun v h' => ev z d n (pc + 3) ls (v.toList ++ rest) h') (fun _ _ => none) := by
  rw [ev_C hf ha hb hs]
  unfold evs
  dsimp only
  rw [hd, hi, he]
