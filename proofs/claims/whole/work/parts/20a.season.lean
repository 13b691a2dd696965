/-! A SEASON, pure -/
def mn (a x : Int32) : Int32 := if a < x then a else x
theorem mn_nI {a x : Nat} (ha : a < 2 ^ 31) (hx : x < 2 ^ 31) : mn (nI a) (nI x) = nI (min a x) := by
  unfold mn
  by_cases c : a < x
  · rw [if_pos (nI_lt c hx), Nat.min_eq_left (by omega)]
  · rw [if_neg (nI_nlt (by omega) ha), Nat.min_eq_right (by omega)]
def iN (P : Row) (k : Nat) : Nat := cN (P (45 + 12 * k + 0))
def dN (P : Row) (k : Nat) : Nat := cN (P (45 + 12 * k + 1))
def eN (P : Row) (k : Nat) : Nat := cN (P (45 + 12 * k + 2))
def ripV (P : Row) (ls : List LN) (sp : Int32) (k : Nat) : Int32 := mn (nI 999) (P (45 + 12 * k + 8) + ripS P ls k + sp)
def ripD (P : Row) (ls : List LN) (sp : Int32) (k : Nat) : Row := if P (27 + 3 * iN P k + 0) ≤ ripV P ls sp k then comeS (up P (45 + 12 * k + 8) (ripV P ls sp k)) k else up P (45 + 12 * k + 8) (ripV P ls sp k)
def ripL (ls : List LN) (sp : Int32) (P : Row) : Nat → Row
  | 0 => P
  | k + 1 => if ripL ls sp P k (45 + 12 * k + 10) = 0 then ripD (ripL ls sp P k) ls sp k else ripL ls sp P k
def fadC (P : Row) (k : Nat) : Bool := decide (P (45 + 12 * k + 10) = nI 1 ∧ ¬ P (27 + 3 * iN P k + 1) ≤ 0 ∧ ¬ P 6 - P (45 + 12 * k + 9) < P (27 + 3 * iN P k + 1))
def fadD (P : Row) (k : Nat) : Row := logP (up P (45 + 12 * k + 10) (nI 2)) (nI k) (nI 1) (nI 0)
def fadL (P : Row) : Nat → Row
  | 0 => P
  | k + 1 => if fadC (fadL P k) k = true then fadD (fadL P k) k else fadL P k
def payI (P : Row) (k : Nat) : Bool := decide (P (45 + 12 * k + 3) ≤ P (15 + 2 * dN P k + 0))
def payV (P : Row) (k : Nat) : Int32 := if payI P k = true then P (45 + 12 * k + 3) else P (15 + 2 * dN P k + 0)
def pay1 (P : Row) (k : Nat) : Row := up P (15 + 2 * dN P k + 0) (P (15 + 2 * dN P k + 0) - payV P k)
def pay2 (P : Row) (k : Nat) : Row := up (pay1 P k) (15 + 2 * eN P k + 0) (mn (nI 9999) (pay1 P k (15 + 2 * eN P k + 0) + payV P k))
def pay3 (P : Row) (k : Nat) : Row := if payI P k = true then pay2 P k else up (pay2 P k) (15 + 2 * dN P k + 1) (nI 1)
def pay4 (P : Row) (k : Nat) : Row := up (pay3 P k) (45 + 12 * k + 11) (nI 1)
def payD (P : Row) (k : Nat) : Row := logP (pay4 P k) (nI k) (if payI P k = true then nI 2 else nI 3) (payV P k)
def payC (P : Row) (r : Int32) (k : Nat) : Bool := vld P k r && decide (P (45 + 12 * k + 11) = 0 ∧ ¬ P 6 - P (45 + 12 * k + 9) < P (45 + 12 * k + 4))
def payL (r : Int32) (P : Row) : Nat → Row × Int32
  | 0 => (P, nI 0)
  | k + 1 => if payC (payL r P k).1 r k = true then (payD (payL r P k).1 k, (payL r P k).2 + nI 1) else payL r P k
def psS (ls : List LN) (nd : Nat) (P : Row) (sp : Int32) : Row × Int32 :=
  let Q := fadL (ripL ls sp P nd) nd
  let q := payL (inS Q (nI 1) nd) Q nd
  (up q.1 6 (mn (nI 9999) (q.1 6 + nI 1)), q.2)
/-! rows stay well -/
section
variable {S : PSt} {k : Nat} {v : Int32}
theorem Ok_D {c : Nat} (H : Ok S) (hk : k < S.2.2.2) (hc : c < 12) (h6 : 6 ≤ c ∧ c ≠ 7) (x6 : c = 6 → v = -1 ∨ ∃ j, j < k ∧ v = nI j) (x8 : c = 8 → ∃ j, j ≤ 999 ∧ v = nI j) (x9 : c = 9 → v = -1 ∨ ∃ j, j ≤ 9999 ∧ v = nI j) (x10 : c = 10 → ∃ j, j ≤ 3 ∧ v = nI j) (x11 : c = 11 → v = nI 0 ∨ v = nI 1) : Ok (up S.1 (45 + 12 * k + c) v, S.2) := by
  obtain ⟨P, np, ni, nd⟩ := S
  obtain ⟨⟨h3, h4, h5, l6, l7, l8⟩, hD, hE, hP, hI, hS⟩ := H
  dsimp only at h3 h4 h5 l6 l7 l8 hD hE hP hI hS hk
  have n : ∀ i, i ≠ 45 + 12 * k + c → up P (45 + 12 * k + c) v i = P i := fun i hi => up_n hi
  have n1 : ∀ i, i < 45 → up P (45 + 12 * k + c) v i = P i := fun i hi => up_n (by omega)
  have nl : ∀ i c', c' < 6 ∨ c' = 7 → up P (45 + 12 * k + c) v (45 + 12 * i + c') = P (45 + 12 * i + c') := by
    clear x6 x8 x9 x10 x11 hD hE hP hI hS
    intro i c' hc'
    exact up_n (by omega)
  have nf : ∀ i c', c' < 12 → ¬ (i = k ∧ c' = c) → up P (45 + 12 * k + c) v (45 + 12 * i + c') = P (45 + 12 * i + c') := fun i c' h1 h2 => up_n (by omega)
  refine ⟨⟨(n1 3 (by omega)).trans h3, (n1 4 (by omega)).trans h4, (n1 5 (by omega)).trans h5, l6, l7, l8⟩, fun i hi => ?_, fun i hi => ?_, ?_, ?_, ?_⟩ <;> dsimp only at *
  · obtain ⟨a0, a1, a2, a5, a6, a11⟩ := hD i hi
    rw [nl i 0 (by decide), nl i 1 (by decide), nl i 2 (by decide), nl i 5 (by decide)]
    refine ⟨a0, a1, a2, a5, ?_, ?_⟩
    · by_cases e : i = k ∧ 6 = c
      · obtain ⟨rfl, rfl⟩ := e; rw [up_a]; exact x6 rfl
      · rw [nf i 6 (by decide) e]; exact a6
    · by_cases e : i = k ∧ 11 = c
      · obtain ⟨rfl, rfl⟩ := e; rw [up_a]; exact x11 rfl
      · rw [nf i 11 (by decide) e]; exact a11
  · have g3 := nl i 3 (by decide)
    have g4 := nl i 4 (by decide)
    have g7 := nl i 7 (by decide)
    have g1 := nl i 1 (by decide)
    have g2 := nl i 2 (by decide)
    obtain ⟨a3, a4, a7, a8, a9, a10, ane⟩ := hE i hi
    rw [g3, g4, g7, g1, g2]
    refine ⟨a3, a4, a7, ?_, ?_, ?_, ane⟩
    · by_cases e : i = k ∧ 8 = c
      · obtain ⟨rfl, rfl⟩ := e; rw [up_a]; exact x8 rfl
      · rw [nf i 8 (by decide) e]; exact a8
    · by_cases e : i = k ∧ 9 = c
      · obtain ⟨rfl, rfl⟩ := e; rw [up_a]; exact x9 rfl
      · rw [nf i 9 (by decide) e]; exact a9
    · by_cases e : i = k ∧ 10 = c
      · obtain ⟨rfl, rfl⟩ := e; rw [up_a]; exact x10 rfl
      · rw [nf i 10 (by decide) e]; exact a10
  · exact OkP_cg hP (fun i c hi hc => n1 _ (by omega))
  · exact OkI_cg hI (fun i c hi hc => n1 _ (by omega)) (fun k hk => n1 _ (by omega))
  · exact OkS_cg hS (n1 _ (by omega)) (n1 _ (by omega)) (n1 _ (by omega)) (n1 _ (by omega)) (n1 _ (by omega))
theorem Ok_P {c : Nat} (H : Ok S) (hk : k < S.2.1) (hc : c < 2) (x0 : c = 0 → ∃ j, j ≤ 9999 ∧ v = nI j) (x1 : c = 1 → v = nI 0 ∨ v = nI 1) : Ok (up S.1 (15 + 2 * k + c) v, S.2) := by
  obtain ⟨P, np, ni, nd⟩ := S
  obtain ⟨⟨h3, h4, h5, l6, l7, l8⟩, hD, hE, hP, hI, hS⟩ := H
  dsimp only at h3 h4 h5 l6 l7 l8 hD hE hP hI hS hk
  have n : ∀ i, i < 15 ∨ 27 ≤ i → up P (15 + 2 * k + c) v i = P i := fun i hi => up_n (by omega)
  refine ⟨⟨(n 3 (by omega)).trans h3, (n 4 (by omega)).trans h4, (n 5 (by omega)).trans h5, l6, l7, l8⟩, ?_, ?_, fun i hi => ?_, ?_, ?_⟩ <;> dsimp only at *
  · exact OkD_cg hD (fun i c hi hc => n _ (by omega)) (Nat.le_refl _) (Nat.le_refl _)
  · exact OkE_cg hE (fun i c hi hc => n _ (by omega))
  · obtain ⟨a1, a0⟩ := hP i hi
    refine ⟨?_, ?_⟩
    · by_cases e : i = k ∧ 1 = c
      · obtain ⟨rfl, rfl⟩ := e; rw [up_a]; exact x1 rfl
      · rw [up_n (by omega)]; exact a1
    · by_cases e : i = k ∧ 0 = c
      · obtain ⟨rfl, rfl⟩ := e; rw [up_a]; exact x0 rfl
      · rw [up_n (by omega)]; exact a0
  · exact OkI_cg hI (fun i c hi hc => n _ (by omega)) (fun k hk => n _ (by omega))
  · exact OkS_cg hS (n _ (by omega)) (n _ (by omega)) (n _ (by omega)) (n _ (by omega)) (n _ (by omega))
theorem Ok_log {u v w : Int32} (H : Ok S) : Ok (logP S.1 u v w, S.2) := by
  obtain ⟨P, np, ni, nd⟩ := S
  obtain ⟨⟨h3, h4, h5, l6, l7, l8⟩, hD, hE, hP, hI, hS⟩ := H
  dsimp only at h3 h4 h5 l6 l7 l8 hD hE hP hI hS
  have n : ∀ i, i < 141 → i ≠ 9 → logP P u v w i = P i := fun i hi h9 => logP_o h9 (Or.inl hi)
  refine ⟨⟨(n 3 (by omega) (by omega)).trans h3, (n 4 (by omega) (by omega)).trans h4, (n 5 (by omega) (by omega)).trans h5, l6, l7, l8⟩, ?_, ?_, ?_, ?_, ?_⟩ <;> dsimp only at *
  · exact OkD_cg hD (fun i c hi hc => n _ (by omega) (by omega)) (Nat.le_refl _) (Nat.le_refl _)
  · exact OkE_cg hE (fun i c hi hc => n _ (by omega) (by omega))
  · exact OkP_cg hP (fun i c hi hc => n _ (by omega) (by omega))
  · exact OkI_cg hI (fun i c hi hc => n _ (by omega) (by omega)) (fun k hk => n _ (by omega) (by omega))
  · obtain ⟨s6, s7, s8, ⟨m, hm, em⟩, s0⟩ := hS
    refine ⟨?_, ?_, ?_, ⟨min (m + 1) 60, by omega, logP_9 em hm⟩, ?_⟩
    · rw [n 6 (by omega) (by omega)]; exact s6
    · rw [n 7 (by omega) (by omega)]; exact s7
    · rw [n 8 (by omega) (by omega)]; exact s8
    · rw [n 0 (by omega) (by omega)]; exact s0
theorem OkL_cg {P Q : Row} {ls : List LN} (H : OkL P ls) (e : ∀ i, i = 1 ∨ i = 2 ∨ 381 ≤ i → Q i = P i) : OkL Q ls := by
  have e2 : lTx Q = lTx P := funext fun i => e _ (by omega)
  unfold OkL
  rw [e 1 (by omega), e 2 (by omega), e2]
  exact H
end
/-- what no season touches -/
def Qt (P Q : Row) : Prop := ∀ i, i < 6 ∨ i = 7 ∨ i = 8 ∨ (10 ≤ i ∧ i < 15) ∨ (27 ≤ i ∧ i < 45) ∨ 381 ≤ i ∨ (∃ k c, k < 8 ∧ c < 8 ∧ i = 45 + 12 * k + c) → Q i = P i
theorem Qt.rf {P : Row} : Qt P P := fun _ _ => rfl
theorem Qt.tr {P Q T : Row} (a : Qt P Q) (b : Qt Q T) : Qt P T := fun i hi => (b i hi).trans (a i hi)
theorem Qt.d {P : Row} {k c : Nat} {v : Int32} (hk : k < 8) (hc : 8 ≤ c ∧ c < 12) : Qt P (up P (45 + 12 * k + c) v) := by
  intro i hi
  refine up_n (fun e => ?_)
  rcases hi with h | h | h | h | h | h | ⟨k', c', h1, h2, h3⟩ <;> omega
theorem Qt.p {P : Row} {k c : Nat} {v : Int32} (hk : k < 6) (hc : c < 2) : Qt P (up P (15 + 2 * k + c) v) := by
  intro i hi
  refine up_n (fun e => ?_)
  rcases hi with h | h | h | h | h | h | ⟨k', c', h1, h2, h3⟩ <;> omega
theorem Qt.l {P : Row} {u v w : Int32} : Qt P (logP P u v w) := by
  intro i hi
  rcases hi with h | h | h | h | h | h | ⟨k', c', h1, h2, h3⟩ <;> exact logP_o (by omega) (by omega)
theorem Qt.t {P : Row} {v : Int32} : Qt P (up P 6 v) := by
  intro i hi
  refine up_n (fun e => ?_)
  rcases hi with h | h | h | h | h | h | ⟨k', c', h1, h2, h3⟩ <;> omega
theorem Qt.okl {P Q : Row} {ls : List LN} (a : Qt P Q) (H : OkL P ls) : OkL Q ls := OkL_cg H (fun i hi => a i (by omega))
