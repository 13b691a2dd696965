/-! A SEASON by the class -/
def Sz (p : Nat) (Lo : Option Nat) : Nat → Prop := fun x => Pz p x ∨ L4 Lo x
def Fp (p : Nat) (Lo : Option Nat) (h h' : Hp) : Prop := Fr (Sz p Lo) h h' ∧ zR h' p 12 = zR h p 12
def PL (h : Hp) (p : Nat) (P : Row) (np ni nd : Nat) (Lo : Option Nat) (ls : List LN) : Prop := PT h p P np ni nd ∧ zR h p 12 = Lo ∧ LwP h Lo P ls ∧ ∀ L, Lo = some L → p + 28 ≤ L ∨ L + 5 < p
section
variable {z : ZE} {d : Nat} {h h' g : Hp} {p k : Nat} {P Q : Row} {np ni nd : Nat} {ls : List LN} {sp r : Int32} {Lo : Option Nat}
theorem Fp.rf : Fp p Lo h h := ⟨Fr.rf, rfl⟩
theorem Fp.tr (a : Fp p Lo h g) (b : Fp p Lo g h') : Fp p Lo h h' := ⟨a.1.tr b.1, b.2.trans a.2⟩
theorem Fp.w {a j : Nat} {v : Int32} (ha : Pz p a) : Fp p Lo h (zwI h a j v) := ⟨Fr.w (Or.inl ha), rfl⟩
theorem Fp.a {a j : Nat} {v : Int32} (f : Fp p Lo h g) (ha : Pz p a) : Fp p Lo h (zwI g a j v) := f.tr (Fp.w ha)
theorem Fp.lg (f : Fr (fun x => x = p + 5 ∨ x = p + 6) h h') : Fp p Lo h h' := ⟨f.mo (fun x q => Or.inl ⟨by omega, by omega⟩), f.rx (by omega)⟩
theorem Fp.az (hpl : ∀ L, Lo = some L → p + 28 ≤ L ∨ L + 5 < p) (f : Fr (Az p Lo) h h') : Fp p Lo h h' := by
  refine ⟨f.mo (fun x q => ?_), f.rx (fun q => ?_)⟩
  · rcases q with q | q
    · exact Or.inl ⟨by omega, by omega⟩
    · exact Or.inr q
  · rcases q with q | ⟨L, e, q⟩
    · omega
    · have := hpl L e; omega
theorem LwP.fr (W : LwP h Lo P ls) (hpl : ∀ L, Lo = some L → p + 28 ≤ L ∨ L + 5 < p) (f : Fr (Sz p Lo) h h') (e1 : Q 1 = P 1) : LwP h' Lo Q ls := by
  cases Lo with
  | none => exact ⟨e1.trans W.1, W.2⟩
  | some L =>
    obtain ⟨E, W, w1⟩ := W
    have hL := hpl L rfl
    refine ⟨E, W.fr f (fun x q => ?_), e1.trans w1⟩
    rcases q with ⟨q1, q2⟩ | ⟨L', e, q⟩
    · omega
    · cases e; omega
theorem PL.of (H : PL h p P np ni nd Lo ls) (f : Fp p Lo h h') (T : PT h' p Q np ni nd) (e1 : Q 1 = P 1) : PL h' p Q np ni nd Lo ls := ⟨T, f.2.trans H.2.1, H.2.2.1.fr H.2.2.2 f.1 e1, H.2.2.2⟩
theorem PL.az (H : PL h p P np ni nd Lo ls) (f : Fr (Az p Lo) h h') : PL h' p P np ni nd Lo ls := by
  refine H.of (Fp.az H.2.2.2 f) (H.1.fr f (fun x q => ?_)) rfl
  rcases q with q | ⟨L, e, q⟩
  · omega
  · have := H.2.2.2 L e; omega
theorem T_C_comeUp (H : PT h p P np ni nd) (hk : k < nd) : ∃ h', ev z d 56 0 [.ref p, .int (nI k)] [] h = some (.inl none, h') ∧ Fp p Lo h h' ∧ PT h' p (comeS P k) np ni nd := by
  have h8 := H.ld
  have t := H.2.1.time
  have H1 := (H.wD (i := k) (c := 10) (v := nI 1) (by omega) (by decide)).wD (i := k) (c := 9) (v := P 6) (by omega) (by decide)
  have e6 : up (up P (45 + 12 * k + 10) (nI 1)) (45 + 12 * k + 9) (P 6) 6 = P 6 := (up_n (by omega)).trans (up_n (by omega))
  obtain ⟨h', e, f, b⟩ := T_Port_log (z := z) (d := d) (u := nI k) (v := nI 0) (w := nI 0) H1
  rw [S_Port_comeUp_0 H.1, ix_n (by omega) (by decide), ix_n (by omega) (by decide), t]
  have t1 := H1.2.1.time
  rw [e6] at t1 e
  rw [t1, e]
  simp only [zbd_i, tl_n, S_Port_comeUp_37]
  exact ⟨h', rfl, (Fp.a (Fp.w ⟨by omega, by omega⟩) ⟨by omega, by omega⟩).tr (Fp.lg f), b⟩
theorem ripL_1 (H : Ok (P, np, ni, nd)) (hL : OkL P ls) (hsp : sp = nI 0 ∨ sp = nI 1) (hk : k ≤ nd) : ripL ls sp P k 1 = P 1 := (ripL_ok H hL hsp k hk).2.1 1 (by omega)
theorem T_C_rip_l (H : Ok (P, np, ni, nd)) (hL : OkL P ls) (hsp : sp = nI 0 ∨ sp = nI 1) : ∀ n k g w3, k + n = nd → PL g p (ripL ls sp P k) np ni nd Lo ls → ∃ g', Fp p Lo g g' ∧ PL g' p (ripL ls sp P nd) np ni nd Lo ls ∧ ev z d 52 2 [.ref p, .int sp, .int (nI k), w3] [] g = some (.inl none, g') := by
  have l8 : nd ≤ 8 := H.1.2.2.2.2.2
  have l7 : ni ≤ 6 := H.1.2.2.2.2.1
  intro n
  induction n with
  | zero =>
    intro k g w3 hk G
    obtain rfl : k = nd := by omega
    refine ⟨g, Fp.rf, G, ?_⟩
    rw [S_Port_ripenBlankDeeds_2 G.1.1, G.1.rp.cd, if_pos (nI_le (Nat.le_refl _) (by omega))]
  | succ n ih =>
    intro k g w3 hk G
    have kn : k < nd := by omega
    have k8 : k < 8 := by omega
    obtain ⟨⟨K1, K2, K3, K4, K5, K6⟩, q, t, e, -⟩ := ripL_ok H hL hsp k (by omega)
    dsimp only at K1 K2 K3 K4 K5 K6
    obtain ⟨i1, i2⟩ := ink_e K2 kn l7
    have ro : ripL ls sp P (k + 1) = if ripL ls sp P k (45 + 12 * k + 10) = 0 then ripD (ripL ls sp P k) ls sp k else ripL ls sp P k := rfl
    rw [S_Port_ripenBlankDeeds_2 G.1.1, G.1.rp.cd, if_neg (nI_ge kn (by omega)), ix_n k8 (by decide), G.1.rp.deed kn (by decide), G.1.rp.deed kn (by decide)]
    by_cases c : ripL ls sp P k (45 + 12 * k + 10) = 0
    · rw [if_pos c] at ro
      obtain ⟨g1, e1, f1⟩ := T_Port_ripensBy (z := z) (d := d) G.1.1 G.1.rp K2 K6 kn G.2.1 G.2.2.1 G.2.2.2
      have G1 := G.az f1
      have p1 : Fp p Lo g g1 := Fp.az G.2.2.2 f1
      rw [if_pos c, e1]
      simp only [zbd_i, tl_s]
      rw [S_Port_ripenBlankDeeds_34 G1.1.1 k8, G1.1.rp.deed kn (by decide), i1, ix_n (by omega) (by decide), G1.1.rp.ink i2 (by decide)]
      have fold : (if nI 999 < ripL ls sp P k (45 + 12 * k + 8) + ripS (ripL ls sp P k) ls k + sp then nI 999 else ripL ls sp P k (45 + 12 * k + 8) + ripS (ripL ls sp P k) ls k + sp) = ripV (ripL ls sp P k) ls sp k := rfl
      rw [fold]
      have T2 := G1.1.wD (i := k) (c := 8) (v := ripV (ripL ls sp P k) ls sp k) k8 (by decide)
      have p2 : Fp p Lo g1 (zwI g1 (p + 20 + k) 8 (ripV (ripL ls sp P k) ls sp k)) := Fp.w ⟨by omega, by omega⟩
      unfold ripD iN at ro
      by_cases c2 : ripV (ripL ls sp P k) ls sp k < ripL ls sp P k (27 + 3 * cN (ripL ls sp P k (45 + 12 * k + 0)) + 0)
      · rw [if_neg (Int32.not_le.mpr c2)] at ro
        rw [if_pos c2, nI_add]
        have G2 : PL (zwI g1 (p + 20 + k) 8 (ripV (ripL ls sp P k) ls sp k)) p (ripL ls sp P (k + 1)) np ni nd Lo ls := by
          rw [ro]
          exact G1.of p2 T2 (up_n (by omega))
        obtain ⟨g', f', G', e'⟩ := ih (k + 1) _ (.ref (p + 20 + k)) (by omega) G2
        exact ⟨g', p1.tr (p2.tr f'), G', e'⟩
      · rw [if_pos (Int32.not_lt.mp c2)] at ro
        obtain ⟨g3, e3, p3, T3⟩ := T_C_comeUp (z := z) (d := d) (Lo := Lo) T2 kn
        rw [if_neg c2, e3]
        simp only [zbd_i, tl_n, S_Port_ripenBlankDeeds_70, nI_add]
        have G3 : PL g3 p (ripL ls sp P (k + 1)) np ni nd Lo ls := by
          rw [ro]
          exact G1.of (p2.tr p3) T3 ((comeS_o (by decide) (by decide) (by omega) (by omega)).trans (up_n (by omega)))
        obtain ⟨g', f', G', e'⟩ := ih (k + 1) g3 (.ref (p + 20 + k)) (by omega) G3
        exact ⟨g', p1.tr (p2.tr (p3.tr f')), G', e'⟩
    · rw [if_neg c] at ro
      rw [if_neg c, nI_add]
      exact ih (k + 1) g _ (by omega) (by rw [ro]; exact G)
theorem T_C_fad_l (H : Ok (Q, np, ni, nd)) : ∀ n k g w2 w3, k + n = nd → PL g p (fadL Q k) np ni nd Lo ls → ∃ g', Fp p Lo g g' ∧ PL g' p (fadL Q nd) np ni nd Lo ls ∧ ev z d 53 2 [.ref p, .int (nI k), w2, w3] [] g = some (.inl none, g') := by
  have l8 : nd ≤ 8 := H.1.2.2.2.2.2
  have l7 : ni ≤ 6 := H.1.2.2.2.2.1
  intro n
  induction n with
  | zero =>
    intro k g w2 w3 hk G
    obtain rfl : k = nd := by omega
    refine ⟨g, Fp.rf, G, ?_⟩
    rw [S_Port_fadeOldDeeds_2 G.1.1, G.1.rp.cd, if_pos (nI_le (Nat.le_refl _) (by omega))]
  | succ n ih =>
    intro k g w2 w3 hk G
    have kn : k < nd := by omega
    have k8 : k < 8 := by omega
    obtain ⟨⟨K1, K2, K3, K4, K5, K6⟩, q, t, e⟩ := fadL_ok H k (by omega)
    dsimp only at K1 K2 K3 K4 K5 K6
    obtain ⟨i1, i2⟩ := ink_e K2 kn l7
    have fo : fadL Q (k + 1) = if fadC (fadL Q k) k = true then fadD (fadL Q k) k else fadL Q k := rfl
    have cd : fadC (fadL Q k) k = true ↔ (fadL Q k (45 + 12 * k + 10) = nI 1 ∧ ¬ fadL Q k (27 + 3 * cN (fadL Q k (45 + 12 * k + 0)) + 1) ≤ 0 ∧ ¬ fadL Q k 6 - fadL Q k (45 + 12 * k + 9) < fadL Q k (27 + 3 * cN (fadL Q k (45 + 12 * k + 0)) + 1)) := by
      unfold fadC iN
      exact decide_eq_true_iff
    have sk : ∀ w2 w3, ¬ fadC (fadL Q k) k = true → ∃ g', Fp p Lo g g' ∧ PL g' p (fadL Q nd) np ni nd Lo ls ∧ ev z d 53 2 [.ref p, .int (nI k + nI 1), w2, w3] [] g = some (.inl none, g') := by
      intro w2 w3 nc
      rw [if_neg nc] at fo
      rw [nI_add]
      exact ih (k + 1) g w2 w3 (by omega) (by rw [fo]; exact G)
    have dd := fun c (hc : c < 12) => G.1.rp.deed kn hc
    rw [S_Port_fadeOldDeeds_2 G.1.1, G.1.rp.cd, if_neg (nI_ge kn (by omega)), ix_n k8 (by decide), dd 0 (by decide), i1, ix_n (by omega) (by decide), dd 10 (by decide), dd 9 (by decide), G.1.rp.ink i2 (by decide), G.1.rp.time]
    by_cases c1 : fadL Q k (45 + 12 * k + 10) = nI 1
    · rw [if_pos c1]
      by_cases c2 : fadL Q k (27 + 3 * cN (fadL Q k (45 + 12 * k + 0)) + 1) ≤ 0
      · rw [if_pos c2]
        exact sk _ _ (fun x => (cd.mp x).2.1 c2)
      · rw [if_neg c2]
        by_cases c3 : fadL Q k 6 - fadL Q k (45 + 12 * k + 9) < fadL Q k (27 + 3 * cN (fadL Q k (45 + 12 * k + 0)) + 1)
        · rw [if_pos c3]
          exact sk _ _ (fun x => (cd.mp x).2.2 c3)
        · rw [if_pos (cd.mpr ⟨c1, c2, c3⟩)] at fo
          have T1 := G.1.wD (i := k) (c := 10) (v := nI 2) k8 (by decide)
          obtain ⟨g2, e2, f2, T2⟩ := T_Port_log (z := z) (d := d) (u := nI k) (v := nI 1) (w := nI 0) T1
          rw [up_n (show 6 ≠ 45 + 12 * k + 10 by omega)] at e2
          have p2 : Fp p Lo g g2 := (Fp.w ⟨by omega, by omega⟩).tr (Fp.lg f2)
          rw [if_neg c3, e2]
          simp only [zbd_i, tl_n, S_Port_fadeOldDeeds_74, nI_add]
          have G2 : PL g2 p (fadL Q (k + 1)) np ni nd Lo ls := by
            rw [fo]
            exact G.of p2 T2 (fadD_o (by decide) (by decide) (by omega))
          obtain ⟨g', f', G', e'⟩ := ih (k + 1) g2 _ _ (by omega) G2
          exact ⟨g', p2.tr f', G', e'⟩
    · rw [if_neg c1]
      exact sk _ _ (fun x => c1 (cd.mp x).1)
theorem T_C_pay (H : Ok (P, np, ni, nd)) (T : PT h p P np ni nd) (hk : k < nd) : ∃ h', Fp p Lo h h' ∧ PT h' p (payD P k) np ni nd ∧ ev z d 55 0 [.ref p, .int (nI k), zu, zu, zu, zu, zu] [] h = some (.inl none, h') := by
  have l8 : nd ≤ 8 := H.1.2.2.2.2.2
  have l6 : np ≤ 6 := H.1.2.2.2.1
  have k8 : k < 8 := by omega
  obtain ⟨d1, d2⟩ := dN_e H.2.1 hk l6
  obtain ⟨g1, g2⟩ := eN_e H.2.1 hk l6
  dsimp only at d1 d2 g1 g2
  have dd := fun c (hc : c < 12) => T.rp.deed hk hc
  have T1 : PT (zwI h (p + 8 + dN P k) 0 (P (15 + 2 * dN P k + 0) - payV P k)) p (pay1 P k) np ni nd := T.wP (by omega) (by decide)
  have T2 : PT (zwI (zwI h (p + 8 + dN P k) 0 (P (15 + 2 * dN P k + 0) - payV P k)) (p + 8 + eN P k) 0 (mn (nI 9999) (pay1 P k (15 + 2 * eN P k + 0) + payV P k))) p (pay2 P k) np ni nd := T1.wP (by omega) (by decide)
  have r1 : zI (zwI h (p + 8 + dN P k) 0 (P (15 + 2 * dN P k + 0) - payV P k)) (p + 8 + eN P k) 0 = pay1 P k (15 + 2 * eN P k + 0) := T1.rp.party g2 (by decide)
  have q2 : Fp p Lo h (zwI (zwI h (p + 8 + dN P k) 0 (P (15 + 2 * dN P k + 0) - payV P k)) (p + 8 + eN P k) 0 (mn (nI 9999) (pay1 P k (15 + 2 * eN P k + 0) + payV P k))) := Fp.a (Fp.w ⟨by omega, by omega⟩) ⟨by omega, by omega⟩
  /- behind the coins -/
  have fin : ∀ (g : Hp) (b : Int32) (w3 w4 : Value), Fp p Lo h g → PT g p (pay3 P k) np ni nd → (b = nI 0 ∧ ¬ payI P k = true) ∨ (b = nI 1 ∧ payI P k = true) → ∃ h', Fp p Lo h h' ∧ PT h' p (payD P k) np ni nd ∧ ev z d 55 104 [.ref p, .int (nI k), .ref (p + 20 + k), w3, w4, .int b, .int (payV P k)] [] g = some (.inl none, h') := by
    intro g b w3 w4 f G hb
    have G1 : PT (zwI g (p + 20 + k) 11 (nI 1)) p (pay4 P k) np ni nd := G.wD k8 (by decide)
    have t3 : pay3 P k 6 = P 6 := pay3_o (by omega) (by omega) (by omega)
    have t4 : pay4 P k 6 = P 6 := (up_n (by omega)).trans t3
    have f1 : Fp p Lo h (zwI g (p + 20 + k) 11 (nI 1)) := f.a ⟨by omega, by omega⟩
    rw [S_Port_pay_104 G.1 k8, G.rp.time, t3]
    unfold payD
    rcases hb with ⟨rfl, hp⟩ | ⟨rfl, hp⟩
    · obtain ⟨h', e, f2, b2⟩ := T_Port_log (z := z) (d := d) (u := nI k) (v := nI 3) (w := payV P k) G1
      rw [t4] at e
      rw [if_pos (show nI 0 = 0 from rfl), S_Port_pay_128 G1.1, e, if_neg hp]
      simp only [zbd_i, tl_n, S_Port_pay_133]
      exact ⟨h', f1.tr (Fp.lg f2), b2, rfl⟩
    · obtain ⟨h', e, f2, b2⟩ := T_Port_log (z := z) (d := d) (u := nI k) (v := nI 2) (w := payV P k) G1
      rw [t4] at e
      rw [if_neg (show ¬ nI 1 = 0 by decide), S_Port_pay_128 G1.1, e, if_pos hp]
      simp only [zbd_i, tl_n, S_Port_pay_133]
      exact ⟨h', f1.tr (Fp.lg f2), b2, rfl⟩
  rw [S_Port_pay_0 T.1, ix_n k8 (by decide), dd 1 (by decide), dd 2 (by decide), dd 3 (by decide), d1, g1, ix_n (by omega) (by decide), ix_n (by omega) (by decide), T.rp.party d2 (by decide)]
  by_cases c : payI P k = true
  · have c1 : P (45 + 12 * k + 3) ≤ P (15 + 2 * dN P k + 0) := of_decide_eq_true c
    have v1 : payV P k = P (45 + 12 * k + 3) := if_pos c
    have e3 : pay3 P k = pay2 P k := if_pos c
    rw [if_neg (Int32.not_lt.mpr c1), S_Port_pay_44 T.1 k8 (by omega), if_neg (by decide), dd 3 (by decide), ← v1, S_Port_pay_62 T.1 (by omega) (by omega), if_neg (by decide), T.rp.party d2 (by decide), r1]
    exact fin _ (nI 1) _ _ q2 (by rw [e3]; exact T2) (Or.inr ⟨rfl, c⟩)
  · have c1 : ¬ P (45 + 12 * k + 3) ≤ P (15 + 2 * dN P k + 0) := fun q => c (decide_eq_true q)
    have v1 : payV P k = P (15 + 2 * dN P k + 0) := if_neg c
    have e3 : pay3 P k = up (pay2 P k) (15 + 2 * dN P k + 1) (nI 1) := if_neg c
    have T3 := T2.wP (i := dN P k) (c := 1) (v := nI 1) (by omega) (by decide)
    rw [if_pos (Int32.not_le.mp c1), S_Port_pay_44 T.1 k8 (by omega), if_pos (by decide), T.rp.party d2 (by decide)]
    have s := S_Port_pay_62 (z := z) (d := d) (h := h) (v1 := nI k) (v5 := nI 0) (w6 := zu) (s0 := payV P k) (k900 := k) (k901 := dN P k) (k902 := eN P k) T.1 (by omega) (by omega)
    rw [if_pos (by decide), T.rp.party d2 (by decide), r1] at s
    obtain ⟨h', a1, a2, a3⟩ := fin _ (nI 0) (.ref (p + 8 + dN P k)) (.ref (p + 8 + eN P k)) (q2.a (a := p + 8 + dN P k) (j := 1) (v := nI 1) ⟨by omega, by omega⟩) (by rw [e3]; exact T3) (Or.inl ⟨rfl, c⟩)
    refine ⟨h', a1, a2, ?_⟩
    rw [← v1]
    exact s.trans a3
end
