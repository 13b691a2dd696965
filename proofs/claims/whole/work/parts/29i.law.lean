/-! LAW in the class: the new law, whole -/
section
variable {z : ZE} {d : Nat} {h h' g : Hp} {L n j : Nat}
/-- the making of a law: what stands of its arrays -/
def LwN (h g : Hp) (L k m s : Nat) (f : Nat → Option Nat) : Prop := zK g L = 4 ∧ zT g = L + 1 + k ∧ (∀ i, i < k → zK g (L + 1 + i) = 20) ∧ (∀ i x, f i = some x → zR g L i = some x) ∧ Mv (fun x => x = L) m s h g
theorem LwN_a {k m s : Nat} {f : Nat → Option Nat} (H : LwN h g L k m s f) : LwN h (arS g L j n) L (k + 1) (m + 1) (s + n) (fun i => if i = j then some (L + 1 + k) else f i) ∧ zN (arS g L j n) (L + 1 + k) = n ∧ (∀ x, x < L + 1 + k → zN (arS g L j n) x = zN g x) ∧ ∀ y, zI (arS g L j n) L y = zI g L y := by
  obtain ⟨h1, h2, h3, h4, h5⟩ := H
  refine ⟨⟨(arS_K (by omega)).trans h1, by rw [arS_T, h2]; rfl, fun i hi => ?_, fun i x e => ?_, h5.tr arS_m⟩, by rw [← h2, arS_nn], fun x hx => arS_n (by omega), fun y => arS_i (by omega)⟩
  · by_cases e : i = k
    · rw [e, ← h2, arS_nk]
    · rw [arS_k (by omega)]
      exact h3 i (by omega)
  · dsimp only at e
    by_cases c : i = j
    · rw [if_pos c] at e
      rw [c, arS_r, h2]
      exact e
    · rw [if_neg c] at e
      rw [arS_o (by omega) c]
      exact h4 i x e
theorem LwN_w {k m s : Nat} {v : Int32} {f : Nat → Option Nat} (H : LwN h g L k m s f) : LwN h (zwI g L j v) L k m s f := by
  obtain ⟨h1, h2, h3, h4, h5⟩ := H
  exact ⟨h1, h2, h3, h4, (h5.tr (Mv.fr (Fr.w rfl))).mo (fun _ q => q) (Nat.le_refl _) (Nat.le_refl _)⟩
theorem Law_new (hk : zK h L = 4) (ht : zT h = L + 1) (hn : n ≤ 400) : ∃ h', ev z d 18 0 [.ref L, .int (nI n)] [] h = some (.inl none, h') ∧ LSk h' L n ∧ zI h' L 1 = nI 0 ∧ zI h' L 5 = nI 0 ∧ Mv (fun x => x = L) 5 (76 + n) h h' ∧ zT h' = L + 6 := by
  have N0 : LwN h h L 0 0 0 (fun _ => none) := ⟨hk, ht, fun i hi => by omega, fun i x e => (by cases e), ⟨fun _ _ => ⟨rfl, rfl, rfl⟩, fun _ _ _ => ⟨rfl, rfl⟩, Nat.le_refl _, fun t => t, Nat.le_refl _, Nat.le_refl _⟩⟩
  have s1 := Law_s1 (z := z) (d := d) (n := n) hk
  obtain ⟨h1, e1⟩ : ∃ x, x = zwI h L 1 (nI 0) := ⟨_, rfl⟩
  have N1 : LwN h h1 L 0 0 0 (fun _ => none) := by rw [e1]; exact LwN_w N0
  have a1 : zI h1 L 1 = nI 0 := by rw [e1]; exact zI_wa
  rw [← e1] at s1
  clear e1 N0
  have s2 := Law_s2 (z := z) (d := d) (h := h1) (L := L) (n := n) N1.1 (by rw [N1.2.1]; omega)
  obtain ⟨h2, e2⟩ : ∃ x, x = arS h1 L 2 12 := ⟨_, rfl⟩
  have A2 := LwN_a (j := 2) (n := 12) N1
  rw [← e2] at s2 A2
  obtain ⟨N2, n2, o2, i2⟩ := A2
  clear e2
  have s3 := Law_s3 (z := z) (d := d) (h := h2) (L := L) (n := n) N2.1 (by rw [N2.2.1]; omega)
  obtain ⟨h3, e3⟩ : ∃ x, x = arS h2 L 3 12 := ⟨_, rfl⟩
  have A3 := LwN_a (j := 3) (n := 12) N2
  rw [← e3] at s3 A3
  obtain ⟨N3, n3, o3, i3⟩ := A3
  clear e3
  have s4 := Law_s4 (z := z) (d := d) (h := h3) (L := L) (n := n) N3.1 (by rw [N3.2.1]; omega)
  obtain ⟨h4, e4⟩ : ∃ x, x = arS h3 L 4 12 := ⟨_, rfl⟩
  have A4 := LwN_a (j := 4) (n := 12) N3
  rw [← e4] at s4 A4
  obtain ⟨N4, n4, o4, i4⟩ := A4
  clear e4
  have s5 := Law_s5 (z := z) (d := d) (n := n) N4.1
  obtain ⟨h5, e5⟩ : ∃ x, x = zwI h4 L 5 (nI 0) := ⟨_, rfl⟩
  have N5 := LwN_w (j := 5) (v := nI 0) N4
  have o5 : zN h5 = zN h4 := by rw [e5]; rfl
  have a5 : zI h5 L 5 = nI 0 := by rw [e5]; exact zI_wa
  have i5 : zI h5 L 1 = zI h4 L 1 := by rw [e5]; exact zI_wj (by decide)
  rw [← e5] at s5 N5
  clear e5
  have s6 := Law_s6 (z := z) (d := d) (h := h5) (L := L) (n := n) N5.1 (by rw [N5.2.1]; omega)
  obtain ⟨h6, e6⟩ : ∃ x, x = arS h5 L 6 40 := ⟨_, rfl⟩
  have A6 := LwN_a (j := 6) (n := 40) N5
  rw [← e6] at s6 A6
  obtain ⟨N6, n6, o6, i6⟩ := A6
  clear e6
  have s7 := Law_s7 (z := z) (d := d) (h := h6) (L := L) hn
  have s8 := Law_s8 (z := z) (d := d) (h := h6) (L := L) N6.1 (by rw [N6.2.1]; omega) hn
  obtain ⟨h8, e8⟩ : ∃ x, x = arS h6 L 0 n := ⟨_, rfl⟩
  have A8 := LwN_a (j := 0) (n := n) N6
  rw [← e8] at s8 A8
  obtain ⟨N8, n8, o8, i8⟩ := A8
  clear e8
  obtain ⟨g1, g2, g3, g4, g5⟩ := N8
  refine ⟨h8, ((((((s1.trans s2).trans s3).trans s4).trans s5).trans s6).trans s7).trans s8, ⟨g1, g4 2 _ rfl, g4 3 _ rfl, g4 4 _ rfl, g4 6 _ rfl, g4 0 _ rfl, g3 0 (by decide), ?_, g3 1 (by decide), ?_, g3 2 (by decide), ?_, g3 3 (by decide), ?_, g3 4 (by decide), n8⟩, ?_, ?_, g5.mo (fun _ q => q) (by omega) (by omega), by rw [g2]⟩
  · rw [o8 _ (by omega), o6 _ (by omega), o5, o4 _ (by omega), o3 _ (by omega)]
    exact n2
  · rw [o8 _ (by omega), o6 _ (by omega), o5, o4 _ (by omega)]
    exact n3
  · rw [o8 _ (by omega), o6 _ (by omega), o5]
    exact n4
  · rw [o8 _ (by omega)]
    exact n6
  · rw [i8, i6, i5, i4, i3, i2, a1]
  · rw [i8, i6, a5]
end
