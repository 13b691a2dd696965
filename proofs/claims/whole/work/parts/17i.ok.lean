/-! ROWS ARE WELL behind each line -/
theorem up_a {P : Row} {k : Nat} {v : Int32} : up P k v k = v := if_pos rfl
theorem up_n {P : Row} {k i : Nat} {v : Int32} (h : i ≠ k) : up P k v i = P i := if_neg h
theorem pB_inv {α β : Type} {x : Nat ⊕ α} {f : α → Nat ⊕ β} {y : β} (h : pB x f = .inr y) : ∃ a, x = .inr a ∧ f a = .inr y := by
  cases x with
  | inl e => cases h
  | inr a => exact ⟨a, rfl, h⟩
theorem pN_ok {T : Row} {E s l m : Nat} {q : Int32 × Nat} (h : pN T E (nI l) (nI m) s = .inr q) (hl : l < 2 ^ 31) (hm : m < 2 ^ 31) : ∃ k, l ≤ k ∧ k ≤ m ∧ q.1 = nI k := by
  unfold pN at h
  split at h
  · rename_i c
    cases h
    exact isN_nI c hl hm
  · cases h
theorem pN_m1 {T : Row} {E s n : Nat} {q : Int32 × Nat} (h : pN T E (nI 0) (nI n - nI 1) s = .inr q) (hn : n < 2 ^ 31) : ∃ k, k < n ∧ q.1 = nI k := by
  unfold pN at h
  split at h
  · rename_i c
    cases h
    exact isN_m1 c hn
  · cases h
theorem pA_ok {T : Row} {E s l m : Nat} {tx : List Nat} {q : Int32 × Nat} (h : pA T E tx (nI l) (nI m) s = .inr q) (hl : l < 2 ^ 31) (hm : m < 2 ^ 31) : ∃ k, l ≤ k ∧ k ≤ m ∧ q.1 = nI k := by
  obtain ⟨a, -, h2⟩ := pB_inv h
  exact pN_ok h2 hl hm
theorem pA_m1 {T : Row} {E s n : Nat} {tx : List Nat} {q : Int32 × Nat} (h : pA T E tx (nI 0) (nI n - nI 1) s = .inr q) (hn : n < 2 ^ 31) : ∃ k, k < n ∧ q.1 = nI k := by
  obtain ⟨a, -, h2⟩ := pB_inv h
  exact pN_m1 h2 hn
theorem pM_ok {T : Row} {E s l m : Nat} {tx : List Nat} {df : Int32} {q : Int32 × Nat} (h : pM T E tx (nI l) (nI m) df s = .inr q) (hl : l < 2 ^ 31) (hm : m < 2 ^ 31) : q.1 = df ∨ ∃ k, l ≤ k ∧ k ≤ m ∧ q.1 = nI k := by
  unfold pM at h
  split at h
  · exact Or.inr (pN_ok h hl hm)
  · cases h; exact Or.inl rfl
theorem pM_m1 {T : Row} {E s n : Nat} {tx : List Nat} {df : Int32} {q : Int32 × Nat} (h : pM T E tx (nI 0) (nI n - nI 1) df s = .inr q) (hn : n < 2 ^ 31) : q.1 = df ∨ ∃ k, k < n ∧ q.1 = nI k := by
  unfold pM at h
  split at h
  · exact Or.inr (pN_m1 h hn)
  · cases h; exact Or.inl rfl
theorem OkD_cg {P Q : Row} {np ni nd np' ni' : Nat} (H : OkD P np ni nd) (e : ∀ i c, i < nd → c < 12 → Q (45 + 12 * i + c) = P (45 + 12 * i + c)) (hp : np ≤ np') (hi : ni ≤ ni') : OkD Q np' ni' nd := by
  intro i h
  obtain ⟨⟨k0, a0, b0⟩, ⟨k1, a1, b1⟩, ⟨k2, a2, b2⟩, h5, h6, h11⟩ := H i h
  rw [e i 0 h (by decide), e i 1 h (by decide), e i 2 h (by decide), e i 5 h (by decide), e i 6 h (by decide), e i 11 h (by decide)]
  exact ⟨⟨k0, by omega, b0⟩, ⟨k1, by omega, b1⟩, ⟨k2, by omega, b2⟩, h5, h6, h11⟩
theorem OkE_cg {P Q : Row} {nd : Nat} (H : OkE P nd) (e : ∀ i c, i < nd → c < 12 → Q (45 + 12 * i + c) = P (45 + 12 * i + c)) : OkE Q nd := by
  intro i h
  rw [e i 1 h (by decide), e i 2 h (by decide), e i 3 h (by decide), e i 4 h (by decide), e i 7 h (by decide), e i 8 h (by decide), e i 9 h (by decide), e i 10 h (by decide)]
  exact H i h
theorem OkP_cg {P Q : Row} {np : Nat} (H : OkP P np) (e : ∀ i c, i < np → c < 2 → Q (15 + 2 * i + c) = P (15 + 2 * i + c)) : OkP Q np := by
  intro i h
  rw [e i 0 h (by decide), e i 1 h (by decide)]
  exact H i h
theorem OkI_cg {P Q : Row} {ni : Nat} (H : OkI P ni) (e : ∀ i c, i < ni → c < 3 → Q (27 + 3 * i + c) = P (27 + 3 * i + c)) (e2 : ∀ k, k < 4 → Q (11 + k) = P (11 + k)) : OkI Q ni := by
  refine ⟨fun i h => ?_, fun k hk => ?_⟩
  · rw [e i 0 h (by decide), e i 1 h (by decide), e i 2 h (by decide)]
    exact H.1 i h
  · rw [e2 k hk]; exact H.2 k hk
theorem OkS_cg {P Q : Row} (H : OkS P) (h0 : Q 0 = P 0) (h6 : Q 6 = P 6) (h7 : Q 7 = P 7) (h8 : Q 8 = P 8) (h9 : Q 9 = P 9) : OkS Q := by
  unfold OkS
  rw [h0, h6, h7, h8, h9]
  exact H
section
variable {T P : Row} {E s s' : Nat} {S S' : PSt}
theorem lParty_ok (H : Ok S) (h : lParty T E S s = .inr (S', s')) : Ok S' := by
  obtain ⟨P, np, ni, nd⟩ := S
  obtain ⟨⟨h3, h4, h5, l6, l7, l8⟩, hD, hE, hP, hI, hS⟩ := H
  dsimp only at h3 h4 h5 l6 l7 l8 hD hE hP hI hS
  unfold lParty at h
  dsimp only at h
  split at h
  · cases h
  · rename_i hc
    obtain ⟨q, h1, h2⟩ := pB_inv h
    obtain ⟨k, -, hk, ek⟩ := pN_ok h1 (by decide) (by decide)
    cases h2
    have e : ∀ i, i ≠ 3 → i ≠ 15 + 2 * np → i ≠ 15 + 2 * np + 1 → up (up (up P (15 + 2 * np) q.1) (15 + 2 * np + 1) (nI 0)) 3 (nI (np + 1)) i = P i := fun i g1 g2 g3 => (up_n g1).trans ((up_n g3).trans (up_n g2))
    refine ⟨⟨by dsimp only; exact up_a, ?_, ?_, by dsimp only; omega, l7, l8⟩, ?_, ?_, ?_, ?_, ?_⟩ <;> dsimp only
    · rw [e 4 (by decide) (by omega) (by omega)]; exact h4
    · rw [e 5 (by decide) (by omega) (by omega)]; exact h5
    · exact OkD_cg hD (fun i c hi hc => e _ (by omega) (by omega) (by omega)) (by omega) (Nat.le_refl _)
    · exact OkE_cg hE (fun i c hi hc => e _ (by omega) (by omega) (by omega))
    · intro i hi
      by_cases hn : i = np
      · subst hn
        refine ⟨Or.inl ((up_n (by omega)).trans up_a), k, by omega, ?_⟩
        rw [← ek]
        exact (up_n (by omega)).trans ((up_n (by omega)).trans up_a)
      · rw [e _ (by omega) (by omega) (by omega), e _ (by omega) (by omega) (by omega)]
        exact hP i (by omega)
    · exact OkI_cg hI (fun i c hi hc => e _ (by omega) (by omega) (by omega)) (fun k hk => e _ (by omega) (by omega) (by omega))
    · exact OkS_cg hS (e _ (by omega) (by omega) (by omega)) (e _ (by omega) (by omega) (by omega)) (e _ (by omega) (by omega) (by omega)) (e _ (by omega) (by omega) (by omega)) (e _ (by omega) (by omega) (by omega))
theorem addI_o {ni : Nat} {v0 v1 v2 : Int32} {i : Nat} (h4 : i ≠ 4) (h : i < 27 + 3 * ni ∨ 27 + 3 * ni + 3 ≤ i) : addI P ni v0 v1 v2 i = P i := (up_n h4).trans ((up_n (by omega)).trans ((up_n (by omega)).trans (up_n (by omega))))
theorem lInk_ok (H : Ok S) (h : lInk T E S s = .inr (S', s')) : Ok S' := by
  obtain ⟨P, np, ni, nd⟩ := S
  obtain ⟨⟨h3, h4, h5, l6, l7, l8⟩, hD, hE, hP, hI, hS⟩ := H
  dsimp only at h3 h4 h5 l6 l7 l8 hD hE hP hI hS
  unfold lInk at h
  dsimp only at h
  split at h
  · cases h
  · rename_i hc
    obtain ⟨q1, g1, h⟩ := pB_inv h
    obtain ⟨q2, g2, h⟩ := pB_inv h
    obtain ⟨q3, g3, h⟩ := pB_inv h
    obtain ⟨k1, a1, b1, e1⟩ := pA_ok g1 (by decide) (by decide)
    have x2 : ∃ a, a ≤ 99 ∧ q2.1 = nI a := by
      rcases pM_ok g2 (by decide) (by decide) with e | ⟨k, -, hk, e⟩
      · exact ⟨0, by decide, e⟩
      · exact ⟨k, hk, e⟩
    have x3 : ∃ a, a ≤ 9 ∧ q3.1 = nI a := by
      rcases pM_ok g3 (by decide) (by decide) with e | ⟨k, -, hk, e⟩
      · exact ⟨0, by decide, e⟩
      · exact ⟨k, hk, e⟩
    obtain ⟨k2, b2, e2⟩ := x2
    obtain ⟨k3, b3, e3⟩ := x3
    cases h
    refine ⟨⟨?_, by dsimp only; unfold addI; exact up_a, ?_, l6, by dsimp only; omega, l8⟩, ?_, ?_, ?_, ?_, ?_⟩ <;> dsimp only
    · rw [addI_o (by omega) (by omega)]; exact h3
    · rw [addI_o (by omega) (by omega)]; exact h5
    · exact OkD_cg hD (fun i c hi hc => addI_o (by omega) (by omega)) (Nat.le_refl _) (by omega)
    · exact OkE_cg hE (fun i c hi hc => addI_o (by omega) (by omega))
    · exact OkP_cg hP (fun i c hi hc => addI_o (by omega) (by omega))
    · refine ⟨fun i hi => ?_, fun k hk => ?_⟩
      · by_cases hn : i = ni
        · subst hn
          refine ⟨⟨k1, a1, b1, ?_⟩, ⟨k2, b2, ?_⟩, ⟨k3, b3, ?_⟩⟩
          · rw [← e1]; exact (up_n (by omega)).trans ((up_n (by omega)).trans ((up_n (by omega)).trans up_a))
          · rw [← e2]; exact (up_n (by omega)).trans ((up_n (by omega)).trans up_a)
          · rw [← e3]; exact (up_n (by omega)).trans up_a
        · rw [addI_o (by omega) (by omega), addI_o (by omega) (by omega), addI_o (by omega) (by omega)]
          exact hI.1 i (by omega)
      · rw [addI_o (by omega) (by omega)]; exact hI.2 k hk
    · exact OkS_cg hS (addI_o (by omega) (by omega)) (addI_o (by omega) (by omega)) (addI_o (by omega) (by omega)) (addI_o (by omega) (by omega)) (addI_o (by omega) (by omega))
theorem addD_o {nd : Nat} {v0 v1 v2 v3 v4 v5 v6 : Int32} {i : Nat} (h5 : i ≠ 5) (h : i < 45 + 12 * nd ∨ 45 + 12 * nd + 12 ≤ i) : addD P nd v0 v1 v2 v3 v4 v5 v6 i = P i := (up_n h5).trans ((up_n (by omega)).trans ((up_n (by omega)).trans ((up_n (by omega)).trans ((up_n (by omega)).trans ((up_n (by omega)).trans ((up_n (by omega)).trans ((up_n (by omega)).trans ((up_n (by omega)).trans ((up_n (by omega)).trans ((up_n (by omega)).trans ((up_n (by omega)).trans (up_n (by omega)))))))))))))
def nth12 (v0 v1 v2 v3 v4 v5 v6 v7 v8 v9 v10 v11 : Int32) : Nat → Int32
  | 0 => v0
  | 1 => v1
  | 2 => v2
  | 3 => v3
  | 4 => v4
  | 5 => v5
  | 6 => v6
  | 7 => v7
  | 8 => v8
  | 9 => v9
  | 10 => v10
  | _ => v11
theorem addD_at {nd : Nat} {v0 v1 v2 v3 v4 v5 v6 : Int32} : ∀ c, c < 12 → addD P nd v0 v1 v2 v3 v4 v5 v6 (45 + 12 * nd + c) = nth12 v0 v1 v2 v3 v4 v5 v6 (P 6) (nI 0) (-1) (nI 0) (nI 0) c := by
  intro c hc
  have h5 : 45 + 12 * nd + c ≠ 5 := by omega
  unfold addD
  rw [up_n h5]
  unfold up
  match c, hc with
  | 0, _ => simp [nth12]
  | 1, _ => simp [nth12]
  | 2, _ => simp [nth12]
  | 3, _ => simp [nth12]
  | 4, _ => simp [nth12]
  | 5, _ => simp [nth12]
  | 6, _ => simp [nth12]
  | 7, _ => simp [nth12]
  | 8, _ => simp [nth12]
  | 9, _ => simp [nth12]
  | 10, _ => simp [nth12]
  | 11, _ => simp [nth12]
theorem addD_ok {np ni nd : Nat} {v0 v1 v2 v3 v4 v5 v6 : Int32} (H : Ok (P, np, ni, nd)) (h8 : nd < 8) (x0 : ∃ k, k < ni ∧ v0 = nI k) (x1 : ∃ k, k < np ∧ v1 = nI k) (x2 : ∃ k, k < np ∧ v2 = nI k) (hne : v1 ≠ v2) (x3 : ∃ k, k ≤ 99 ∧ v3 = nI k) (x4 : ∃ k, k ≤ 20 ∧ v4 = nI k) (x5 : v5 = -1 ∨ ∃ k, k < nd ∧ v5 = nI k) (x6 : v6 = -1 ∨ ∃ k, k < nd ∧ v6 = nI k) : Ok (addD P nd v0 v1 v2 v3 v4 v5 v6, np, ni, nd + 1) := by
  obtain ⟨⟨h3, h4, h5, l6, l7, l8⟩, hD, hE, hP, hI, hS⟩ := H
  dsimp only at h3 h4 h5 l6 l7 l8 hD hE hP hI hS
  have A := fun c hc => addD_at (P := P) (nd := nd) (v0 := v0) (v1 := v1) (v2 := v2) (v3 := v3) (v4 := v4) (v5 := v5) (v6 := v6) c hc
  refine ⟨⟨?_, ?_, by dsimp only; unfold addD; exact up_a, l6, l7, by dsimp only; omega⟩, ?_, ?_, ?_, ?_, ?_⟩ <;> dsimp only
  · rw [addD_o (by omega) (by omega)]; exact h3
  · rw [addD_o (by omega) (by omega)]; exact h4
  · intro i hi
    by_cases hn : i = nd
    · subst hn
      rw [A 0 (by decide), A 1 (by decide), A 2 (by decide), A 5 (by decide), A 6 (by decide), A 11 (by decide)]
      exact ⟨x0, x1, x2, x5, x6, Or.inl rfl⟩
    · rw [addD_o (by omega) (by omega), addD_o (by omega) (by omega), addD_o (by omega) (by omega), addD_o (by omega) (by omega), addD_o (by omega) (by omega), addD_o (by omega) (by omega)]
      exact hD i (by omega)
  · intro i hi
    by_cases hn : i = nd
    · subst hn
      rw [A 1 (by decide), A 2 (by decide), A 3 (by decide), A 4 (by decide), A 7 (by decide), A 8 (by decide), A 9 (by decide), A 10 (by decide)]
      exact ⟨x3, x4, hS.1, ⟨0, by decide, rfl⟩, Or.inl rfl, ⟨0, by decide, rfl⟩, hne⟩
    · rw [addD_o (by omega) (by omega), addD_o (by omega) (by omega), addD_o (by omega) (by omega), addD_o (by omega) (by omega), addD_o (by omega) (by omega), addD_o (by omega) (by omega), addD_o (by omega) (by omega), addD_o (by omega) (by omega)]
      exact hE i (by omega)
  · exact OkP_cg hP (fun i c hi hc => addD_o (by omega) (by omega))
  · exact OkI_cg hI (fun i c hi hc => addD_o (by omega) (by omega)) (fun k hk => addD_o (by omega) (by omega))
  · exact OkS_cg hS (addD_o (by omega) (by omega)) (addD_o (by omega) (by omega)) (addD_o (by omega) (by omega)) (addD_o (by omega) (by omega)) (addD_o (by omega) (by omega))
theorem lDeed_ok (H : Ok S) (h : lDeed T E S s = .inr (S', s')) : Ok S' := by
  obtain ⟨P, np, ni, nd⟩ := S
  have l8 : nd ≤ 8 := H.1.2.2.2.2.2
  have l6 : np ≤ 6 := H.1.2.2.2.1
  have l7 : ni ≤ 6 := H.1.2.2.2.2.1
  unfold lDeed at h
  dsimp only at h
  split at h
  · cases h
  · rename_i hc
    obtain ⟨q1, g1, h⟩ := pB_inv h
    obtain ⟨q2, g2, h⟩ := pB_inv h
    obtain ⟨s3, -, h⟩ := pB_inv h
    obtain ⟨q3, g3, h⟩ := pB_inv h
    split at h
    · cases h
    · rename_i hne
      unfold lDeed2 at h
      dsimp only at h
      obtain ⟨q4, g4, h⟩ := pB_inv h
      obtain ⟨q5, g5, h⟩ := pB_inv h
      obtain ⟨q6, g6, h⟩ := pB_inv h
      obtain ⟨q7, g7, h⟩ := pB_inv h
      cases h
      refine addD_ok H (by omega) (pA_m1 g1 (by omega)) (pA_m1 g2 (by omega)) (pN_m1 g3 (by omega)) (Ne.symm hne) ?_ ?_ (pM_m1 g6 (by omega)) (pM_m1 g7 (by omega))
      · obtain ⟨k, -, b, e⟩ := pA_ok g4 (by decide) (by decide)
        exact ⟨k, b, e⟩
      · rcases pM_ok g5 (by decide) (by decide) with e | ⟨k, -, b, e⟩
        · exact ⟨0, by decide, e⟩
        · exact ⟨k, b, e⟩
theorem Ok_up {k : Nat} {v : Int32} (H : Ok S) (hk : k = 6 ∨ k = 7 ∨ k = 8 ∨ (11 ≤ k ∧ k < 15)) (h6 : k = 6 → ∃ t, t ≤ 9999 ∧ v = nI t) (h7 : k = 7 → ∃ t, t ≤ 9 ∧ v = nI t) (h8 : k = 8 → ∃ t, t ≤ 100 ∧ v = nI t) (h11 : 11 ≤ k → ∃ t, t ≤ 9 ∧ v = nI t) : Ok (up S.1 k v, S.2) := by
  obtain ⟨⟨h3, h4, h5, l6, l7, l8⟩, hD, hE, hP, hI, hS⟩ := H
  have kk : 6 ≤ k ∧ k < 15 ∧ k ≠ 9 := by clear h6 h7 h8 h11; omega
  obtain ⟨k1, k2, k3⟩ := kk
  clear hk
  have n : ∀ i, i < 6 ∨ 15 ≤ i ∨ i = 9 → up S.1 k v i = S.1 i := fun i hi => up_n (by omega)
  refine ⟨⟨(n 3 (by omega)).trans h3, (n 4 (by omega)).trans h4, (n 5 (by omega)).trans h5, l6, l7, l8⟩, ?_, ?_, ?_, ?_, ?_⟩
  · exact OkD_cg hD (fun i c hi hc => n _ (by omega)) (Nat.le_refl _) (Nat.le_refl _)
  · exact OkE_cg hE (fun i c hi hc => n _ (by omega))
  · exact OkP_cg hP (fun i c hi hc => n _ (by omega))
  · refine ⟨fun i hi => ?_, fun j hj => ?_⟩
    · dsimp only
      rw [n _ (by omega), n _ (by omega), n _ (by omega)]
      exact hI.1 i hi
    · dsimp only
      by_cases e : 11 + j = k
      · rw [e, up_a]; exact h11 (by omega)
      · rw [up_n e]; exact hI.2 j hj
  · obtain ⟨s6, s7, s8, s9, s0⟩ := hS
    refine ⟨?_, ?_, ?_, ?_, ?_⟩ <;> dsimp only
    · by_cases e : 6 = k
      · rw [← e, up_a]; exact h6 e.symm
      · rw [up_n e]; exact s6
    · by_cases e : 7 = k
      · rw [← e, up_a]; exact h7 e.symm
      · rw [up_n e]; exact s7
    · by_cases e : 8 = k
      · rw [← e, up_a]; exact h8 e.symm
      · rw [up_n e]; exact s8
    · rw [n _ (by omega)]; exact s9
    · rw [n _ (by omega)]; exact s0
theorem lTell_v {k m : Nat} (hm : m < 2 ^ 31) (h : lTell T E S k (nI m) s = .inr (S', s')) : ∃ v t, t ≤ m ∧ v = nI t ∧ S' = (up S.1 k v, S.2) := by
  unfold lTell at h
  obtain ⟨q, h1, h2⟩ := pB_inv h
  obtain ⟨t, -, ht, e⟩ := pN_ok h1 (by decide) hm
  cases h2
  exact ⟨q.1, t, ht, e, rfl⟩
theorem lLine_ok (H : Ok S) (h : lLine T E S s = .inr (S', s')) : Ok S' := by
  unfold lLine at h
  split at h
  · exact lParty_ok H h
  · split at h
    · exact lInk_ok H h
    · split at h
      · exact lDeed_ok H h
      · have dmp : ∀ k s, k < 4 → lTell T E S (11 + k) (nI 9) s = .inr (S', s') → Ok S' := by
          intro k s hk h
          obtain ⟨v, t, ht, ev, rfl⟩ := lTell_v (by decide) h
          exact Ok_up H (by omega) (by omega) (by omega) (by omega) (fun _ => ⟨t, ht, ev⟩)
        split at h
        · unfold lDamp at h
          split at h
          · exact dmp 0 _ (by decide) h
          · split at h
            · exact dmp 1 _ (by decide) h
            · split at h
              · exact dmp 2 _ (by decide) h
              · split at h
                · exact dmp 3 _ (by decide) h
                · cases h
        · split at h
          · obtain ⟨v, t, ht, ev, rfl⟩ := lTell_v (by decide) h
            exact Ok_up H (by omega) (by omega) (fun _ => ⟨t, ht, ev⟩) (by omega) (by omega)
          · split at h
            · obtain ⟨v, t, ht, ev, rfl⟩ := lTell_v (by decide) h
              exact Ok_up H (by omega) (by omega) (by omega) (fun _ => ⟨t, ht, ev⟩) (by omega)
            · split at h
              · split at h
                · obtain ⟨v, t, ht, ev, rfl⟩ := lTell_v (by decide) h
                  exact Ok_up H (by omega) (fun _ => ⟨t, by omega, ev⟩) (by omega) (by omega) (by omega)
                · cases h
              · cases h
theorem rdL_ok : ∀ n S s, Ok S → rdL T E n S s = .inr S' → Ok S'
  | 0, S, s, _, h => by cases h
  | n + 1, S, s, H, h => by
    unfold rdL at h
    obtain ⟨q, h1, h2⟩ := pB_inv h
    have hq := lLine_ok H h1
    split at h2
    · split at h2
      · exact rdL_ok n _ _ hq h2
      · cases h2
    · cases h2; exact hq
end
