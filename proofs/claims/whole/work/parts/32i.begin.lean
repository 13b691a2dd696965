/-! THE START of the law's loop -/
theorem ztx_b : ∀ q, q < 65 → ∀ j, j < 20 → (ztx.getD q []).getD j 0 < 128 := by decide +kernel
theorem WA_0 {z : ZE} {zv : Nat → Nat} {b L X : Nat} {xs : Nat → Int32} {h g : Hp} (F : zF0 z zv b L X xs h) (f : ∀ x, x < X → zK g x = zK h x ∧ zN g x = zN h x ∧ (∀ j, zI g x j = zI h x j) ∧ ∀ j, zR g x j = zR h x j) : WA z g := by
  intro q hq
  obtain ⟨a1, a2, a3, a4, a5, a6, a7, a8, a9⟩ := F.2.2.2.2.2.2.2.2 q hq
  obtain ⟨u1, u2, u3, u4⟩ := f _ a1
  obtain ⟨v1, v2, v3, v4⟩ := f _ a2
  have l := ztx_len q hq
  refine ⟨u1.trans a3, zv q, (u4 0).trans a4, (u3 1).trans a5, v1.trans a6, ?_, ?_, ?_, fun j hj => ⟨ztx_b q hq j (Nat.lt_of_lt_of_le hj l), (v3 j).trans (a9 j hj)⟩⟩
  · rw [v2]; exact a7
  · rw [v2]; exact a8
  · exact Nat.lt_of_le_of_lt l (by decide)
theorem opP_of {g : Hp} {X i : Nat} {l : List zOp} {h : Hp} (hB : zT h = X) (w : qW l 445) (e : g = qH X h l) (F : okP l i = true) : PSk g (X + i) := by
  unfold okP at F
  rw [Bool.and_eq_true, Bool.and_eq_true] at F
  subst e
  exact PSk_of (gK hB w F.1) (gN hB w F.2.1) (gR hB w F.2.2)
set_option maxHeartbeats 2000000 in
theorem IV_0 {z : ZE} {zv : Nat → Nat} {b L X : Nat} {xs : Nat → Int32} {h : Hp} {l : List zOp} (F : zF0 z zv b L X xs h) (w : qW l 445) (G : stFf l = true) (bz : B15 X (qH X h l)) : IV z b L X (X + 433) (X + 444) xs 0 (qH X h l) := by
  have hB : zT h = X := F.1
  have tp : Tp (qH X h l) := q_Tp (fun x hx => F.2.2.2.2.2.2.2.1 x (by rw [← hB]; exact hx)) l
  have below := q_b hB l 445
  have cc := q_C (B := X) (h := h) l 445 w
  have zt : ∀ j, qB l 434 781 = true → 781 ≤ j → zI (qH X h l) (X + 433 + 1) j = 0 := fun j e hj => (q_I hB l 445 434 j w (by decide)).trans (qB_0 l 434 781 j e hj)
  have z12 : qR l 4 12 = none → zR (qH X h l) (X + 4) 12 = none := fun e => by rw [q_R hB l 445 4 12 w (by decide), e]; rfl
  unfold stFf at G
  rw [Bool.and_eq_true, Bool.and_eq_true, Bool.and_eq_true, Bool.and_eq_true, Bool.and_eq_true, Bool.and_eq_true] at G
  obtain ⟨fX, fJ, fM, fQ, fR, fP, fS⟩ := G
  have fS := Nat.le_of_ble_eq_true fS
  unfold stX at fX
  unfold stJ at fJ
  unfold stM at fM
  unfold stQ at fQ
  unfold stR at fR
  unfold stP at fP
  rw [Bool.and_eq_true, Bool.and_eq_true, Bool.and_eq_true] at fX fP
  rw [Bool.and_eq_true, Bool.and_eq_true] at fJ fM
  rw [Bool.and_eq_true] at fQ
  rw [Bool.and_eq_true, Bool.and_eq_true, Bool.and_eq_true, Bool.and_eq_true] at fR
  have x1 := gK (i := 0) hB w fX.1
  have x2 := gN (i := 0) hB w fX.2.1
  have x3 := gR (i := 0) hB w fX.2.2.1
  have x4 := gI (i := 0) hB w fX.2.2.2
  have j1 := JSk_of (gK hB w fJ.1) (gN hB w fJ.2.1) (gR hB w fJ.2.2)
  have m1 := MSk_of (gK hB w fM.1) (gN hB w fM.2.1) (gR hB w fM.2.2)
  have r1 := RSk_of (gK hB w fR.1) (gN hB w fR.2.1) (gR hB w fR.2.2.1)
  have r4 := gI hB w fR.2.2.2.1
  have q1 := gI hB w fQ.1
  have p4 := opP_of hB w rfl fP.1
  have p32 := opP_of hB w rfl fP.2.1
  have p60 := opP_of hB w rfl fP.2.2.1
  have pk : ∀ k, k < 12 → PSk (qH X h l) (X + 97 + 28 * k) := fun k hk => by
    rw [Nat.add_assoc]
    exact opP_of hB w rfl (List.all_eq_true.mp fP.2.2.2 k (List.mem_range.mpr hk))
  have zt := fun j => zt j fR.2.2.2.2
  have z12 := z12 (Option.isNone_iff_eq_none.mp fQ.2)
  clear fX fJ fM fQ fR fP
  generalize qH X h l = g at *
  have f : ∀ q ∈ rfI, q.1 = 1 → zI g (X + 433 + 1) q.2.1 = q.2.2 := fun q hq e => by
    have := r4 q hq
    rw [e] at this
    exact this
  have xs0 := XSk_of x1 x2 x3 p4 p32 p60 pk j1 m1
  have T0 : PT g (X + 4) (zI g (X + 433 + 1)) 0 0 0 := PT_of p4 q1 f
  have wa := WA_0 F (fun x hx => below x w hx)
  refine ⟨⟨⟨F.2.2.2.1, Nat.le_refl _, Nat.le_refl _⟩, ⟨?_, ?_, fun k hk => ?_⟩, ⟨x1 (444, 26) (by decide), x2 (444, 1) (by decide)⟩, tp, bz⟩, (((zI g (X + 433 + 1), 0, 0, 0), [], none), none, [], 0, fun _ => 0, -1), ?_, ?_, OkA_of f zt, ?_, ?_⟩
  · rw [(below b w F.2.2.2.1).1]; exact F.2.2.2.2.1
  · rw [(below b w F.2.2.2.1).2.1]; exact F.2.2.2.2.2.1
  · rw [(below b w F.2.2.2.1).2.2.1 k]; exact F.2.2.2.2.2.2.1 k hk
  · exact ⟨⟨xs0, wa, ⟨fun L e => (by cases e), fun q L e => (by cases e)⟩⟩, ⟨T0, z12, ⟨f (1, 1, -1) (by decide) rfl, rfl⟩, fun L e => (by cases e)⟩, ⟨x4 (0, 1, 0) (by decide), Nat.zero_le _, fun k hk => absurd hk (Nat.not_lt_zero k)⟩, x4 (2, 6, -1) (by decide), x4 (0, 6, 0) (by decide), 0, by decide, x4 (0, 9, 0) (by decide), x4 (0, 8, 0) (by decide), Nat.zero_le _, fun a S e => (by cases e)⟩
  · exact ⟨⟨r1, rfl, r4 (0, 19, 0) (by decide)⟩, ⟨r4 (0, 8, 0) (by decide), Nat.zero_le _, fun k hk => absurd hk (Nat.not_lt_zero k)⟩, r4 (0, 12, -1) (by decide), r4 (0, 3, 0) (by decide), r4 (0, 6, 0) (by decide), Nat.zero_le _, fun a S e => (by cases e)⟩
  · rw [cc.1, F.2.1]; decide
  · rw [cc.2, F.2.2.1]; omega
