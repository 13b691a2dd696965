/-! A SEASON by the class, its end -/
section
variable {z : ZE} {d : Nat} {h h' g : Hp} {p k : Nat} {P Q : Row} {np ni nd : Nat} {ls : List LN} {sp r : Int32} {Lo : Option Nat}
theorem T_C_pay_l (H : Ok (Q, np, ni, nd)) (hr : r = inS Q (nI 1) nd) : ∀ n k g w4, k + n = nd → PL g p (payL r Q k).1 np ni nd Lo ls → ∃ g', Fp p Lo g g' ∧ PL g' p (payL r Q nd).1 np ni nd Lo ls ∧ ev z d 54 10 [.ref p, .int r, .int (payL r Q k).2, .int (nI k), w4] [] g = some (.inl (some (.int (payL r Q nd).2)), g') := by
  have l8 : nd ≤ 8 := H.1.2.2.2.2.2
  intro n
  induction n with
  | zero =>
    intro k g w4 hk G
    obtain rfl : k = nd := by omega
    refine ⟨g, Fp.rf, G, ?_⟩
    rw [S_Port_payDueDeeds_10 G.1.1, G.1.rp.cd, if_pos (nI_le (Nat.le_refl _) (by omega))]
  | succ n ih =>
    intro k g w4 hk G
    have kn : k < nd := by omega
    have k8 : k < 8 := by omega
    obtain ⟨K, q, t, e, -⟩ := payL_ok (r := r) H k (by omega)
    have po : payL r Q (k + 1) = if payC (payL r Q k).1 r k = true then (payD (payL r Q k).1 k, (payL r Q k).2 + nI 1) else payL r Q k := rfl
    have cd : payC (payL r Q k).1 r k = true ↔ vld (payL r Q k).1 k r = true ∧ (payL r Q k).1 (45 + 12 * k + 11) = 0 ∧ ¬ (payL r Q k).1 6 - (payL r Q k).1 (45 + 12 * k + 9) < (payL r Q k).1 (45 + 12 * k + 4) := by
      unfold payC
      rw [Bool.and_eq_true_iff, decide_eq_true_iff]
    have sk : ∀ w4, ¬ payC (payL r Q k).1 r k = true → ∃ g', Fp p Lo g g' ∧ PL g' p (payL r Q nd).1 np ni nd Lo ls ∧ ev z d 54 10 [.ref p, .int r, .int (payL r Q k).2, .int (nI k + nI 1), w4] [] g = some (.inl (some (.int (payL r Q nd).2)), g') := by
      intro w4 nc
      rw [if_neg nc] at po
      have := ih (k + 1) g w4 (by omega) (by rw [po]; exact G)
      rw [po] at this
      rw [nI_add]
      exact this
    have dd := fun c (hc : c < 12) => G.1.rp.deed kn hc
    rw [S_Port_payDueDeeds_10 G.1.1, G.1.rp.cd, if_neg (nI_ge kn (by omega)), ix_n k8 (by decide), T_Port_isValid G.1.1 G.1.rp kn]
    simp only [zbd_i, tl_s]
    rw [S_Port_payDueDeeds_32 G.1.1 k8, dd 11 (by decide), dd 9 (by decide), dd 4 (by decide), G.1.rp.time]
    by_cases c1 : vld (payL r Q k).1 k r = true
    · rw [if_neg (by rw [bI_0]; exact fun x => x c1)]
      by_cases c2 : (payL r Q k).1 (45 + 12 * k + 11) = 0
      · rw [if_pos c2]
        by_cases c3 : (payL r Q k).1 6 - (payL r Q k).1 (45 + 12 * k + 9) < (payL r Q k).1 (45 + 12 * k + 4)
        · rw [if_pos c3]
          exact sk _ (fun x => (cd.mp x).2.2 c3)
        · rw [if_pos (cd.mpr ⟨c1, c2, c3⟩)] at po
          obtain ⟨g1, f1, T1, e1⟩ := T_C_pay (z := z) (d := d) (Lo := Lo) K G.1 kn
          have l6 : np ≤ 6 := H.1.2.2.2.1
          have d2 := (dN_e K.2.1 kn l6).2
          have g2 := (eN_e K.2.1 kn l6).2
          dsimp only at d2 g2
          rw [if_neg c3, e1]
          simp only [zbd_i, tl_n, S_Port_payDueDeeds_66, nI_add]
          have G1 : PL g1 p (payL r Q (k + 1)).1 np ni nd Lo ls := by
            rw [po]
            exact G.of f1 T1 (payD_o (P := (payL r Q k).1) (k := k) (i := 1) (by omega) (by omega) (by decide) (by decide) (by decide) (by omega))
          obtain ⟨g', f', G', e'⟩ := ih (k + 1) g1 (.ref (p + 20 + k)) (by omega) G1
          rw [show (payL r Q (k + 1)).2 = (payL r Q k).2 + nI 1 by rw [po]] at e'
          exact ⟨g', f1.tr f', G', e'⟩
      · rw [if_neg c2]
        exact sk _ (fun x => c2 (cd.mp x).2.1)
    · rw [if_pos (by rw [bI_0]; exact c1)]
      exact sk _ (fun x => c1 (cd.mp x).1)
theorem T_C_pass (H : Ok (P, np, ni, nd)) (hL : OkL P ls) (hsp : sp = nI 0 ∨ sp = nI 1) (G : PL h p P np ni nd Lo ls) : ∃ h', Fp p Lo h h' ∧ PL h' p (psS ls nd P sp).1 np ni nd Lo ls ∧ ev z d 51 0 [.ref p, .int sp, zu] [] h = some (.inl (some (.int (psS ls nd P sp).2)), h') := by
  obtain ⟨K1, q1, t1, -⟩ := ripL_ok H hL hsp nd (Nat.le_refl _)
  obtain ⟨K2, q2, t2, -⟩ := fadL_ok K1 nd (Nat.le_refl _)
  obtain ⟨g1, f1, G1, e1⟩ := T_C_rip_l (z := z) (d := d) H hL hsp nd 0 h zu (by omega) G
  obtain ⟨g2, f2, G2, e2⟩ := T_C_fad_l (z := z) (d := d) K1 nd 0 g1 zu zu (by omega) G1
  obtain ⟨g3, f3, G3, e3⟩ := T_C_pay_l (z := z) (d := d) (r := inS (fadL (ripL ls sp P nd) nd) (nI 1) nd) K2 rfl nd 0 g2 zu (by omega) G2
  rw [S_Port_passSeason_0 G.1.1, S_Port_ripenBlankDeeds_0, e1]
  simp only [zbd_i, tl_n]
  rw [S_Port_passSeason_5 G1.1.1, S_Port_fadeOldDeeds_0, e2]
  simp only [zbd_i, tl_n]
  rw [S_Port_passSeason_9 G2.1.1, S_Port_payDueDeeds_0 G2.1.1, T_Port_inState G2.1.1 G2.1.rp]
  simp only [zbd_i, tl_s, S_Port_payDueDeeds_5]
  have e3' : ev z d 54 10 [.ref p, .int (inS (fadL (ripL ls sp P nd) nd) (nI 1) nd), .int (nI 0), .int (nI 0), zu] [] g2 = some (.inl (some (.int (payL (inS (fadL (ripL ls sp P nd) nd) (nI 1) nd) (fadL (ripL ls sp P nd) nd) nd).2)), g3) := e3
  rw [e3']
  simp only [zbd_i, tl_s]
  rw [S_Port_passSeason_13 G3.1.1 zisL_i, G3.1.rp.time]
  have f4 : Fp p Lo g3 (zwI g3 p 9 (mn (nI 9999) ((payL (inS (fadL (ripL ls sp P nd) nd) (nI 1) nd) (fadL (ripL ls sp P nd) nd) nd).1 6 + nI 1))) := Fp.w ⟨Nat.le_refl _, by omega⟩
  have G4 : PL (zwI g3 p 9 (mn (nI 9999) ((payL (inS (fadL (ripL ls sp P nd) nd) (nI 1) nd) (fadL (ripL ls sp P nd) nd) nd).1 6 + nI 1))) p (up (payL (inS (fadL (ripL ls sp P nd) nd) (nI 1) nd) (fadL (ripL ls sp P nd) nd) nd).1 6 (mn (nI 9999) ((payL (inS (fadL (ripL ls sp P nd) nd) (nI 1) nd) (fadL (ripL ls sp P nd) nd) nd).1 6 + nI 1))) np ni nd Lo ls := G3.of f4 (G3.1.wS (Or.inr (Or.inr (Or.inl ⟨rfl, rfl⟩)))) (up_n (i := 1) (k := 6) (by decide))
  exact ⟨_, f1.tr (f2.tr (f3.tr f4)), G4, rfl⟩
theorem T_C_draw (G : PL h p P np ni nd Lo ls) : ∃ h', Fp p Lo h h' ∧ PL h' p (up P 10 (sdS P)) np ni nd Lo ls ∧ ev z d 50 0 [.ref p, zu] [] h = some (.inl (some (.int (spS P))), h') := by
  have f : Fp p Lo h (zwI h p 10 (sdS P)) := Fp.w ⟨Nat.le_refl _, by omega⟩
  refine ⟨_, f, G.of f (G.1.wS (Or.inr (Or.inr (Or.inr (Or.inl ⟨rfl, rfl⟩))))) (up_n (by decide)), ?_⟩
  have fold : nI 1103515245 * P 10 + nI 12345 = sdS P := rfl
  have fold2 : (zus (sdS P) (nI 16) &&& nI 32767) - (zus (sdS P) (nI 16) &&& nI 32767) / nI 100 * nI 100 = drS P := rfl
  rw [S_Port_drawSpray_0 G.1.1, G.1.rp.spray, G.1.rp.seed, fold, fold2]
  unfold spS
  by_cases c : P 8 ≤ drS P
  · rw [if_pos c, if_pos c]
  · rw [if_neg c, if_neg c]
/-- a season with its draw -/
theorem T_C_passD (H : Ok (P, np, ni, nd)) (hL : OkL P ls) (G : PL h p P np ni nd Lo ls) : ∃ h1 h', Fp p Lo h h' ∧ Fp p Lo h h1 ∧ PSk h1 p ∧ PL h' p (psD ls nd P).1 np ni nd Lo ls ∧ ev z d 50 0 [.ref p, zu] [] h = some (.inl (some (.int (spS P))), h1) ∧ ev z d 51 0 [.ref p, .int (spS P), zu] [] h1 = some (.inl (some (.int (psD ls nd P).2)), h') := by
  obtain ⟨h1, f1, G1, e1⟩ := T_C_draw (z := z) (d := d) G
  obtain ⟨h2, f2, G2, e2⟩ := T_C_pass (z := z) (d := d) (Ok_10 (v := sdS P) H) (OkL_10 (v := sdS P) hL) spS_b G1
  exact ⟨h1, h2, f1.tr f2, f1, G1.1.1, G2, e1, e2⟩
end
