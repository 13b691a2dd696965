/-- instructions of the heap -/
def crC (n : Nat) (i : Instr) (len : Nat) (st : List zRV) (c : Nat) (l : List zOp) : Option (List zRV × Nat × List zOp) := match i with
  | .new k => crl len 3 (match zcl n k with
    | some q => (match Nat.blt q 11 with
      | true => some ((c + 3, 0) :: st, c + 1, (0, q + 1, znf q, 0, c) :: l)
      | false => none)
    | none => none)
  | .newarray .int => crl len 2 (match st with
    | (0, j) :: r => (match decide (¬ j < 0 ∧ j.toNatClampNeg ≤ 100000) with
      | true => some ((c + 3, 0) :: r, c + 1, (0, 20, j.toNatClampNeg, 0, c) :: l)
      | false => none)
    | _ => none)
  | .newarray .boolean => crl len 2 (match st with
    | (0, j) :: r => (match decide (¬ j < 0 ∧ j.toNatClampNeg ≤ 100000) with
      | true => some ((c + 3, 0) :: r, c + 1, (0, 21, j.toNatClampNeg, 0, c) :: l)
      | false => none)
    | _ => none)
  | .anewarray k => crl len 3 (match st with
    | (0, j) :: r => (match decide (¬ j < 0 ∧ j.toNatClampNeg ≤ 100000) with
      | true => (match zcl n k with
        | some q => (match Nat.beq q 0 || (Nat.beq q 1 || (Nat.beq q 6 || Nat.beq q 7)) with
          | true => some ((c + 3, 0) :: r, c + 1, (0, zak q, j.toNatClampNeg, 0, c) :: l)
          | false => none)
        | none => none)
      | false => none)
    | _ => none)
  | .putfield k => crl len 3 (match zfr n k with
    | some q => (match zfin q.1 q.2 && !(Nat.beq (zin n) q.1) || Nat.beq q.1 11 with
      | true => none
      | false => (match st with
        | (b + 3, _) :: (a + 3, _) :: r => (match Nat.beq (zfty q.1 q.2) 2 && Nat.beq (qK l a).1 (q.1 + 1) with
          | true => some (r, c, (2, a, q.2, 0, b) :: l)
          | false => none)
        | (2, _) :: (a + 3, _) :: r => (match Nat.beq (zfty q.1 q.2) 2 && Nat.beq (qK l a).1 (q.1 + 1) with
          | true => some (r, c, (3, a, q.2, 0, 0) :: l)
          | false => none)
        | (0, v) :: (a + 3, _) :: r => (match Nat.beq (qK l a).1 (q.1 + 1) && (Nat.beq (zfty q.1 q.2) 0 || (Nat.beq (zfty q.1 q.2) 1 && decide (v = 0 ∨ v = 1))) with
          | true => some (r, c, (1, a, q.2, v, 0) :: l)
          | false => none)
        | _ => none))
    | none => none)
  | .getfield k => crl len 3 (match zfr n k with
    | some q => (match st with
      | (a + 3, _) :: r => (match Nat.beq (zfty q.1 q.2) 2 && Nat.beq (qK l a).1 (q.1 + 1) with
        | true => (match qR l a q.2 with
          | some b => some ((b + 3, 0) :: r, c, l)
          | none => none)
        | false => none)
      | _ => none)
    | none => none)
  | .iastore => crl len 1 (match st with
    | (0, v) :: (0, j) :: (a + 3, _) :: r => (match Nat.beq (qK l a).1 20 && decide (¬ j < 0 ∧ j.toNatClampNeg < (qK l a).2) with
      | true => some (r, c, (1, a, j.toNatClampNeg, v, 0) :: l)
      | false => none)
    | _ => none)
  | .aastore => crl len 1 (match st with
    | (b + 3, _) :: (0, j) :: (a + 3, _) :: r => (match zkidR (qK l a).1 with
      | some kk => (match (Nat.beq kk (qK l b).1 && Nat.blt 0 kk) && decide (¬ j < 0 ∧ j.toNatClampNeg < (qK l a).2) with
        | true => some (r, c, (2, a, j.toNatClampNeg, 0, b) :: l)
        | false => none)
      | none => none)
    | _ => none)
  | _ => none
section
variable {z : ZE} {d n pc len B c : Nat} {h : Hp} {ls st : List zRV} {i : Instr} {l : List zOp}
theorem q_k (hB : zT h = B) (w : qW l c) {a k : Nat} (e : Nat.beq (qK l a).1 (k + 1) = true) : a < c ∧ zK (qH B h l) (B + a) = k + 1 ∧ zN (qH B h l) (B + a) = (qK l a).2 := by
  have e := Nat.eq_of_beq_eq_true e
  have lt := q_lt l c a w (by omega)
  obtain ⟨k1, k2⟩ := q_K hB l c a w lt
  exact ⟨lt, by omega, k2⟩
theorem crC_aa (hB : zT h = B) (w : qW l c) {a b kk : Nat} {j : Int32} (hk : zkidR (qK l a).1 = some kk) (hb : ((Nat.beq kk (qK l b).1 && Nat.blt 0 kk) && decide (¬ j < 0 ∧ j.toNatClampNeg < (qK l a).2)) = true) : zkidR (zK (qH B h l) (B + a)) = some (zK (qH B h l) (B + b)) ∧ ¬ j < 0 ∧ j.toNatClampNeg < zN (qH B h l) (B + a) := by
  rw [Bool.and_eq_true, Bool.and_eq_true] at hb
  obtain ⟨⟨hb1, hb2⟩, hb3⟩ := hb
  have hb1 := Nat.eq_of_beq_eq_true hb1
  have hb2 : 0 < kk := Nat.le_of_ble_eq_true hb2
  have ka : (qK l a).1 ≠ 0 := by
    intro q0
    rw [q0] at hk
    cases hk
  have la := q_lt l c a w ka
  have lb := q_lt l c b w (by omega)
  obtain ⟨a1, a2⟩ := q_K hB l c a w la
  obtain ⟨b1, b2⟩ := q_K hB l c b w lb
  exact ⟨by rw [a1, b1, hk, hb1], by rw [a2]; exact of_decide_eq_true hb3⟩
theorem crC_ok {st' : List zRV} {c' : Nat} {l' : List zOp} {lv : List Value} (hB : zT h = B) (w : qW l c) (hf : zfetch n pc = some (i, len)) (e : crC n i len st c l = some (st', c', l')) : ev z d n pc lv (st.map (rv B)) (qH B h l) = ev z d n (pc + len) lv (st'.map (rv B)) (qH B h l') ∧ qW l' c' := by
  have t := q_T hB l c w
  unfold crC at e
  split at e
  · rename_i k
    obtain ⟨rfl, e⟩ := crl_s e
    split at e
    · rename_i q hq
      split at e
      · rename_i hb
        cases e
        refine ⟨(e_new hf hq hb).trans ?_, qW_n w⟩
        rw [t]; rfl
      · cases e
    · cases e
  · obtain ⟨rfl, e⟩ := crl_s e
    split at e
    · split at e
      · rename_i hb
        cases e
        refine ⟨(e_newa_int hf (of_decide_eq_true hb)).trans ?_, qW_n w⟩
        rw [t]; rfl
      · cases e
    · cases e
  · obtain ⟨rfl, e⟩ := crl_s e
    split at e
    · split at e
      · rename_i hb
        cases e
        refine ⟨(e_newa_boolean hf (of_decide_eq_true hb)).trans ?_, qW_n w⟩
        rw [t]; rfl
      · cases e
    · cases e
  · obtain ⟨rfl, e⟩ := crl_s e
    split at e
    · split at e
      · rename_i hb
        split at e
        · rename_i q hq
          split at e
          · rename_i hc
            cases e
            have hc2 : q = 0 ∨ q = 1 ∨ q = 6 ∨ q = 7 := by
              rw [Bool.or_eq_true, Bool.or_eq_true, Bool.or_eq_true] at hc
              rcases hc with x | x | x | x
              · exact Or.inl (Nat.eq_of_beq_eq_true x)
              · exact Or.inr (Or.inl (Nat.eq_of_beq_eq_true x))
              · exact Or.inr (Or.inr (Or.inl (Nat.eq_of_beq_eq_true x)))
              · exact Or.inr (Or.inr (Or.inr (Nat.eq_of_beq_eq_true x)))
            refine ⟨(e_anew hf hq hc2 (of_decide_eq_true hb)).trans ?_, qW_n w⟩
            rw [t]; rfl
          · cases e
        · cases e
      · cases e
    · cases e
  · obtain ⟨rfl, e⟩ := crl_s e
    split at e
    · rename_i q hq
      split at e
      · cases e
      · rename_i hfi
        split at e
        · split at e
          · rename_i hb
            rw [Bool.and_eq_true] at hb
            obtain ⟨k1, k2, k3⟩ := q_k hB w hb.2
            cases e
            exact ⟨e_putR hf hq hfi (Nat.eq_of_beq_eq_true hb.1) k2, w⟩
          · cases e
        · split at e
          · rename_i hb
            rw [Bool.and_eq_true] at hb
            obtain ⟨k1, k2, k3⟩ := q_k hB w hb.2
            cases e
            exact ⟨e_putN hf hq hfi (Nat.eq_of_beq_eq_true hb.1) k2, w⟩
          · cases e
        · split at e
          · rename_i hb
            rw [Bool.and_eq_true, Bool.or_eq_true, Bool.and_eq_true] at hb
            obtain ⟨k1, k2, k3⟩ := q_k hB w hb.1
            cases e
            rcases hb.2 with x | x
            · exact ⟨e_putI hf hq hfi (Nat.eq_of_beq_eq_true x) k2, w⟩
            · exact ⟨e_putZ hf hq hfi (Nat.eq_of_beq_eq_true x.1) k2 (of_decide_eq_true x.2), w⟩
          · cases e
        · cases e
    · cases e
  · obtain ⟨rfl, e⟩ := crl_s e
    split at e
    · rename_i q hq
      split at e
      · split at e
        · rename_i hb
          rw [Bool.and_eq_true] at hb
          obtain ⟨k1, k2, k3⟩ := q_k hB w hb.2
          split at e
          · rename_i b hr
            cases e
            refine ⟨e_getR hf hq (Nat.eq_of_beq_eq_true hb.1) k2 ?_, w⟩
            rw [q_R hB _ _ _ _ w k1, hr]; rfl
          · cases e
        · cases e
      · cases e
    · cases e
  · obtain ⟨rfl, e⟩ := crl_s e
    split at e
    · split at e
      · rename_i hb
        rw [Bool.and_eq_true] at hb
        obtain ⟨k1, k2, k3⟩ := q_k hB w hb.1
        cases e
        exact ⟨e_iast hf k2 (by rw [k3]; exact of_decide_eq_true hb.2), w⟩
      · cases e
    · cases e
  · obtain ⟨rfl, e⟩ := crl_s e
    split at e
    · split at e
      · rename_i kk hk
        split at e
        · rename_i hb
          obtain ⟨x1, x2⟩ := crC_aa (h := h) hB w hk hb
          cases e
          exact ⟨e_aast hf x1 x2, w⟩
        · cases e
      · cases e
    · cases e
  · cases e
end
def qrun : Nat → Nat → Nat → List zRV → List zRV → Nat → List zOp → Option (Nat × List zOp)
  | 0, _, _, _, _, _, _ => none
  | f + 1, n, pc, ls, st, c, l => match zfetch n pc with
    | none => none
    | some (i, len) => match crA pc i len ls st with
      | some q => qrun f n q.1 q.2.1 q.2.2 c l
      | none => match crC n i len st c l with
        | some q => qrun f n (pc + len) ls q.1 q.2.1 q.2.2
        | none => match i with
          | .invokespecial k => (match Nat.beq len 3 with
            | true => (match zmr n k with
              | some m => (match st with
                | (a + 3, _) :: r => (match Nat.ble r.length 4 with
                  | true => (match Nat.beq m 1000 with
                    | true => qrun f n (pc + 3) ls r c l
                    | false => (match (Nat.blt m 351 && !zstc m && Nat.beq (zin m) (zown m) && Nat.ble (zpar m) (st.map (rv 0)).length) && ((Nat.beq (zpar m) 0 && Nat.blt (zrk m) (zrk n)) && (Nat.ble 1 (zmax m) && Nat.beq (qK l a).1 (zown m + 1))) with
                      | true => (match Nat.beq m 47 with
                        | true => (match l with
                          | (0, 8, 15, _, ix) :: l0 => (match Nat.beq ix a with
                            | true => qrun f n (pc + 3) ls r (ix + 28) ((4, 0, 0, 0, ix) :: l0)
                            | false => none)
                          | _ => none)
                        | false => (match qrun f m 0 ((a + 3, 0) :: List.replicate (zmax m - 1) (1, 0)) [] c l with
                          | some q => qrun f n (pc + 3) ls r q.1 q.2
                          | none => none))
                      | false => none))
                  | false => none)
                | _ => none)
              | none => none)
            | false => none)
          | .return_ => (match Nat.beq len 1 && st.isEmpty with
            | true => (match zret n with
              | none => some (c, l)
              | some _ => none)
            | false => none)
          | _ => none
section
variable {z : ZE} {d B : Nat} {h : Hp}
theorem qrun_ok (hB : zT h = B) : ∀ (f n pc : Nat) (ls st : List zRV) (c : Nat) (l : List zOp) (q : Nat × List zOp), qrun f n pc ls st c l = some q → qW l c → ev z d n pc (ls.map (rv B)) (st.map (rv B)) (qH B h l) = some (.inl none, qH B h q.2) ∧ qW q.2 q.1
  | 0, n, pc, ls, st, c, l, q, e, w => by cases e
  | f + 1, n, pc, ls, st, c, l, q, e, w => by
    unfold qrun at e
    cases hf : zfetch n pc with
    | none => rw [hf] at e; cases e
    | some il =>
      obtain ⟨i, len⟩ := il
      rw [hf] at e
      dsimp only at e
      cases ha : crA pc i len ls st with
      | some t =>
        obtain ⟨pc', ls', st'⟩ := t
        rw [ha] at e
        obtain ⟨e1, w1⟩ := qrun_ok hB f n pc' ls' st' c l q e w
        exact ⟨(ev_Ag hf (crA_ok ha)).trans e1, w1⟩
      | none =>
        rw [ha] at e
        dsimp only at e
        cases hb : crC n i len st c l with
        | some t =>
          obtain ⟨st', c', l'⟩ := t
          rw [hb] at e
          obtain ⟨e0, w0⟩ := crC_ok (z := z) (d := d) (lv := ls.map (rv B)) hB w hf hb
          obtain ⟨e1, w1⟩ := qrun_ok hB f n (pc + len) ls st' c' l' q e w0
          exact ⟨e0.trans e1, w1⟩
        | none =>
          rw [hb] at e
          dsimp only at e
          split at e
          · rename_i k
            split at e
            · rename_i hl
              have hl := Nat.eq_of_beq_eq_true hl
              subst hl
              split at e
              · rename_i m hm
                split at e
                · rename_i a v r
                  split at e
                  · rename_i hr
                    have hr : (r.map (rv B)).length ≤ 4 := by rw [List.length_map]; exact Nat.le_of_ble_eq_true hr
                    split at e
                    · rename_i h0
                      have h0 := Nat.eq_of_beq_eq_true h0
                      subst h0
                      obtain ⟨e1, w1⟩ := qrun_ok hB f n (pc + 3) ls r c l q e w
                      exact ⟨(e_obj hf hm hr).trans e1, w1⟩
                    · rename_i h0
                      split at e
                      · rename_i hg
                        rw [Bool.and_eq_true, Bool.and_eq_true (Nat.beq (zpar m) 0 && _), Bool.and_eq_true (Nat.beq (zpar m) 0), Bool.and_eq_true (Nat.ble 1 (zmax m))] at hg
                        obtain ⟨g1, ⟨g2, g3⟩, g4, g5⟩ := hg
                        have g2 := Nat.eq_of_beq_eq_true g2
                        obtain ⟨k1, k2, -⟩ := q_k hB w g5
                        have g1 : (Nat.blt m 351 && !zstc m && Nat.beq (zin m) (zown m) && Nat.ble (zpar m) (List.map (rv B) ((a + 3, v) :: r)).length) = true := by
                          rw [List.length_map] at g1 ⊢
                          exact g1
                        have hs := zsC_i (pc := pc) (ls := ls.map (rv B)) (h := qH B h l) (st := List.map (rv B) ((a + 3, v) :: r)) hm h0 g1 (a := B + a) (rest := r.map (rv B)) (by rw [g2]; rfl) k2 hr
                        rw [g2] at hs
                        split at e
                        · rename_i h47
                          have h47 := Nat.eq_of_beq_eq_true h47
                          subst h47
                          split at e
                          · rename_i ix l0
                            split at e
                            · rename_i hx
                              have hx := Nat.eq_of_beq_eq_true hx
                              subst hx
                              obtain ⟨-, w2⟩ : c = ix + 1 ∧ qW l0 ix := w
                              have e0 := Port_ev (z := z) (d := d) (p := B + ix) (h := qH B h l0) (q_T hB l0 ix w2)
                              obtain ⟨e1, w1⟩ := qrun_ok hB f n (pc + 3) ls r (ix + 28) ((4, 0, 0, 0, ix) :: l0) q e (qW_p w2)
                              refine ⟨(e_K (m := 47) (rest := r.map (rv B)) hf rfl rfl hs (zdep_c g3 g4) rfl e0).trans ?_, w1⟩
                              exact e1
                            · cases e
                          · cases e
                        · split at e
                          · rename_i t ht
                            obtain ⟨c', l'⟩ := t
                            obtain ⟨e0, w0⟩ := qrun_ok hB f m 0 _ [] c l (c', l') ht w
                            obtain ⟨e1, w1⟩ := qrun_ok hB f n (pc + 3) ls r c' l' q e w0
                            refine ⟨(e_K (m := m) (rest := r.map (rv B)) hf rfl rfl hs (zdep_c g3 g4) (rv_ent g4) e0).trans ?_, w1⟩
                            exact e1
                          · cases e
                      · cases e
                  · cases e
                · cases e
              · cases e
            · cases e
          · split at e
            · rename_i hl
              rw [Bool.and_eq_true] at hl
              have hl1 := Nat.eq_of_beq_eq_true hl.1
              have hl2 := List.isEmpty_iff.mp hl.2
              subst hl1 hl2
              split at e
              · rename_i hr
                cases e
                exact ⟨e_vret hf hr, w⟩
              · cases e
            · cases e
          · cases e
end
