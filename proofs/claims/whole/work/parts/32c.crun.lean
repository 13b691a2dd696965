/-! CONSTRUCTORS: whole runs -/
def crun : Nat → Nat → Nat → List zRV → List zRV → Nat → List zOp → Option (Nat × List zOp)
  | 0, _, _, _, _, _, _ => none
  | f + 1, n, pc, ls, st, c, l => match zfetch n pc with
    | none => none
    | some (i, len) => match crA pc i len ls st with
      | some q => crun f n q.1 q.2.1 q.2.2 c l
      | none => match crB n i len st c l with
        | some q => crun f n (pc + len) ls q.1 q.2.1 q.2.2
        | none => match i with
          | .invokespecial k => (match Nat.beq len 3 with
            | true => (match zmr n k with
              | some m => (match st with
                | (a + 3, _) :: r => (match Nat.ble r.length 4 with
                  | true => (match Nat.beq m 1000 with
                    | true => crun f n (pc + 3) ls r c l
                    | false => (match (Nat.blt m 351 && !zstc m && Nat.beq (zin m) (zown m) && Nat.ble (zpar m) (st.map (rv 0)).length) && ((Nat.beq (zpar m) 0 && Nat.blt (zrk m) (zrk n)) && (Nat.ble 1 (zmax m) && Nat.beq (opK l a).1 (zown m + 1))) with
                      | true => (match crun f m 0 ((a + 3, 0) :: List.replicate (zmax m - 1) (1, 0)) [] c l with
                        | some q => crun f n (pc + 3) ls r q.1 q.2
                        | none => none)
                      | false => none))
                  | false => none)
                | _ => none)
              | none => none)
            | false => none)
          | .return_ => (match Nat.beq len 1 && st.isEmpty with
            | true => (match zret n with
              | none => some (c, l)
              | some _ => none)
            | false => none)
          | _ => none
section
variable {z : ZE} {d B : Nat} {h : Hp}
theorem rv_ent {m a : Nat} (hm : Nat.ble 1 (zmax m) = true) : zent m [.ref (B + a)] = (((a + 3, (0 : Int32)) :: List.replicate (zmax m - 1) (1, (0 : Int32))) : List zRV).map (rv B) := by
  unfold zent zpad
  show Value.ref (B + a) :: List.replicate (zmax m - 1) zu = Value.ref (B + a) :: (List.replicate (zmax m - 1) ((1, 0) : zRV)).map (rv B)
  rw [List.map_replicate]
  rfl
theorem zdep_c {d n m a : Nat} (h1 : Nat.blt (zrk m) (zrk n) = true) (hm : Nat.ble 1 (zmax m) = true) : zdep d n m [.ref (B + a)] = some d := by
  unfold zdep
  rw [show Nat.ble (zexp [Value.ref (B + a)]).length (zmax m) = true from hm]
  dsimp only
  unfold zdep0
  rw [h1]
theorem crun_ok (hB : zT h = B) : ∀ (f n pc : Nat) (ls st : List zRV) (c : Nat) (l : List zOp) (q : Nat × List zOp), crun f n pc ls st c l = some q → opW l c → ev z d n pc (ls.map (rv B)) (st.map (rv B)) (opH B h l) = some (.inl none, opH B h q.2) ∧ opW q.2 q.1
  | 0, n, pc, ls, st, c, l, q, e, w => by cases e
  | f + 1, n, pc, ls, st, c, l, q, e, w => by
    unfold crun at e
    cases hf : zfetch n pc with
    | none => rw [hf] at e; cases e
    | some il =>
      obtain ⟨i, len⟩ := il
      rw [hf] at e
      dsimp only at e
      cases ha : crA pc i len ls st with
      | some t =>
        obtain ⟨pc', ls', st'⟩ := t
        rw [ha] at e
        obtain ⟨e1, w1⟩ := crun_ok hB f n pc' ls' st' c l q e w
        exact ⟨(ev_Ag hf (crA_ok ha)).trans e1, w1⟩
      | none =>
        rw [ha] at e
        dsimp only at e
        cases hb : crB n i len st c l with
        | some t =>
          obtain ⟨st', c', l'⟩ := t
          rw [hb] at e
          obtain ⟨e0, w0⟩ := crB_ok (z := z) (d := d) (lv := ls.map (rv B)) hB w hf hb
          obtain ⟨e1, w1⟩ := crun_ok hB f n (pc + len) ls st' c' l' q e w0
          exact ⟨e0.trans e1, w1⟩
        | none =>
          rw [hb] at e
          dsimp only at e
          split at e
          · rename_i k
            split at e
            · rename_i hl
              have hl := Nat.eq_of_beq_eq_true hl
              subst hl
              split at e
              · rename_i m hm
                split at e
                · rename_i a v r
                  split at e
                  · rename_i hr
                    have hr : (r.map (rv B)).length ≤ 4 := by rw [List.length_map]; exact Nat.le_of_ble_eq_true hr
                    split at e
                    · rename_i h0
                      have h0 := Nat.eq_of_beq_eq_true h0
                      subst h0
                      obtain ⟨e1, w1⟩ := crun_ok hB f n (pc + 3) ls r c l q e w
                      exact ⟨(e_obj hf hm hr).trans e1, w1⟩
                    · rename_i h0
                      split at e
                      · rename_i hg
                        rw [Bool.and_eq_true, Bool.and_eq_true (Nat.beq (zpar m) 0 && _), Bool.and_eq_true (Nat.beq (zpar m) 0), Bool.and_eq_true (Nat.ble 1 (zmax m))] at hg
                        obtain ⟨g1, ⟨g2, g3⟩, g4, g5⟩ := hg
                        have g2 := Nat.eq_of_beq_eq_true g2
                        obtain ⟨k1, k2, -⟩ := op_k hB w g5
                        split at e
                        · rename_i t ht
                          obtain ⟨c', l'⟩ := t
                          obtain ⟨e0, w0⟩ := crun_ok hB f m 0 _ [] c l (c', l') ht w
                          obtain ⟨e1, w1⟩ := crun_ok hB f n (pc + 3) ls r c' l' q e w0
                          have g1 : (Nat.blt m 351 && !zstc m && Nat.beq (zin m) (zown m) && Nat.ble (zpar m) (List.map (rv B) ((a + 3, v) :: r)).length) = true := by
                            rw [List.length_map] at g1 ⊢
                            exact g1
                          have hs := zsC_i (pc := pc) (ls := ls.map (rv B)) (h := opH B h l) (st := List.map (rv B) ((a + 3, v) :: r)) hm h0 g1 (a := B + a) (rest := r.map (rv B)) (by rw [g2]; rfl) k2 hr
                          rw [g2] at hs
                          refine ⟨(e_K (m := m) (rest := r.map (rv B)) hf rfl rfl hs (zdep_c g3 g4) (rv_ent g4) e0).trans ?_, w1⟩
                          exact e1
                        · cases e
                      · cases e
                  · cases e
                · cases e
              · cases e
            · cases e
          · split at e
            · rename_i hl
              rw [Bool.and_eq_true] at hl
              have hl1 := Nat.eq_of_beq_eq_true hl.1
              have hl2 := List.isEmpty_iff.mp hl.2
              subst hl1 hl2
              split at e
              · rename_i hr
                cases e
                exact ⟨e_vret hf hr, w⟩
              · cases e
            · cases e
          · cases e
end
