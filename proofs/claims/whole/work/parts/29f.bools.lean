/-! TWO BOOLEAN FIELDS: the rest of the machine -/
section
variable {bb : Nat} {z : ZE} {d n pc len k : Nat} {i : Instr} {ls st : List Value} {h : Hp} {x A B : Option zRes}
theorem zfty_b : ∀ y, y = 15 ∨ y = 16 → zfty 10 y = 1 := by
  intro y hy
  rcases hy with rfl | rfl <;> rfl
theorem gd_zsB (hP : B15 bb h) : GdB bb (zsB z n pc i len ls st h) := by
  unfold zsB
  split
  · refine gd_zl (gd_op fun q => gd_a1 fun a r => gd_if (fun _ => hP) (fun _ => trivial))
  · refine gd_zl (gd_op fun q => ?_)
    split
    · trivial
    · split
      · split
        · exact gd_if (fun _ => hP) (fun _ => trivial)
        · exact gd_if (fun _ => hP) (fun _ => trivial)
        · trivial
      · split
        · exact gd_if (fun c => B15_w hP (Or.inr c.2)) (fun _ => trivial)
        · trivial
      · rename_i h2 h1
        split
        · refine gd_if (fun c => B15_w hP (Or.inl ?_)) (fun _ => trivial)
          by_cases e : q.1 = 10
          · right
            refine ⟨fun y => h1 ?_, fun y => h1 ?_⟩
            · rw [e, y]; rfl
            · rw [e, y]; rfl
          · left
            rw [c]
            omega
        · trivial
  · refine gd_zl (gd_op fun q => ?_)
    split
    · exact hP
    · exact hP
  · exact gd_zl (gd_a1 fun a r => gd_if (fun _ => hP) (fun _ => trivial))
  · exact gd_zl (gd_al fun a j r => gd_if (fun _ => hP) (fun _ => trivial))
  · exact gd_zl (gd_al fun a j r => gd_if (fun _ => hP) (fun _ => trivial))
  · exact gd_zl (gd_al fun a j r => gd_if (fun _ => hP) (fun _ => trivial))
  · exact gd_zl (gd_al fun a j r => gd_if (fun _ => hP) (fun _ => trivial))
  · refine gd_zl ?_
    split
    · exact gd_if (fun c => B15_w hP (Or.inl (Or.inl (by rw [c.1]; decide)))) (fun _ => trivial)
    · trivial
  · refine gd_zl ?_
    split
    · exact gd_if (fun c => B15_w hP (Or.inl (Or.inl (by rw [c.1]; decide)))) (fun _ => trivial)
    · trivial
  · refine gd_zl ?_
    split
    · exact gd_if (fun c => hP) (fun _ => trivial)
    · trivial
  · refine gd_zl ?_
    split
    · exact gd_if (fun c => hP) (fun _ => trivial)
    · trivial
  · refine gd_zl (gd_1 fun j r => gd_if (fun _ => ?_) (fun _ => trivial))
    split
    · exact B15_n hP
    · exact B15_n hP
    · exact B15_n hP
    · trivial
  · refine gd_zl (gd_1 fun j r => gd_if (fun _ => ?_) (fun _ => trivial))
    split
    · exact B15_n hP
    · exact B15_n hP
    · exact B15_n hP
    · exact B15_n hP
    · trivial
  · trivial
theorem gd_zsC (hP : B15 bb h) : GdB bb (zsC n pc i len ls st h) := by
  unfold zsC
  split
  · refine gd_zl (gd_op fun c => ?_)
    split
    · exact B15_n hP
    · split
      · exact B15_n hP
      · trivial
  · refine gd_zl (gd_op fun m => ?_)
    split
    · split
      · exact gd_if (fun c => B15_c hP c.1.2.1) (fun _ => trivial)
      · trivial
    · split
      · split
        · trivial
        · exact gd_2 fun x y r => hP
        · exact gd_q2 fun x y r => hP
        · exact gd_2 fun x y r => hP
      · trivial
  · refine gd_zl (gd_op fun m => ?_)
    split
    · exact gd_a1 fun a r => gd_if (fun _ => trivial) (fun _ => trivial)
    · trivial
  · refine gd_zl (gd_op fun m => ?_)
    split
    · exact gd_a1 fun a r => gd_if (fun _ => hP) (fun _ => trivial)
    · split
      · exact gd_a1 fun a r => gd_if (fun _ => trivial) (fun _ => trivial)
      · trivial
  · refine gd_zl ?_
    split
    · exact gd_op fun ty => gd_if (fun _ => hP) (fun _ => trivial)
    · trivial
  · refine gd_zl ?_
    split
    · split
      · exact hP
      · trivial
    · trivial
  · refine gd_zl ?_
    split
    · split
      · exact hP
      · trivial
    · trivial
  · refine gd_zl ?_
    split
    · split
      · exact hP
      · trivial
    · trivial
  · trivial
theorem gd_step (hP : B15 bb h) : GdB bb (zstep z n pc i len ls st h) := by
  have a := gd_zsA (z := z) (n := n) (pc := pc) (len := len) (i := i) (ls := ls) (st := st) hP
  have b := gd_zsB (z := z) (n := n) (pc := pc) (len := len) (i := i) (ls := ls) (st := st) hP
  unfold zstep
  cases ha : zsA z n pc i len ls st h with
  | some r => rw [ha] at a; exact a
  | none =>
    cases hb : zsB z n pc i len ls st h with
    | some r => rw [hb] at b; exact b
    | none => exact gd_zsC hP
theorem gd_run : ∀ f {z : ZE} {d n pc : Nat} {ls st : List Value} {h : Hp} {r : zO × Hp}, zrun f z d n pc ls st h = some r → B15 bb h → B15 bb r.2
  | 0, _, _, _, _, _, _, _, _, e, _ => by cases e
  | f + 1, z, d, n, pc, ls, st, h, r, e, hP => by
    unfold zrun at e
    cases hf : zfetch n pc with
    | none => rw [hf] at e; cases e
    | some il =>
      obtain ⟨i, len⟩ := il
      rw [hf] at e
      dsimp only at e
      have g := gd_step (z := z) (n := n) (pc := pc) (len := len) (i := i) (ls := ls) (st := st) hP
      cases hs : zstep z n pc i len ls st h with
      | none => rw [hs] at e; cases e
      | some q =>
        rw [hs] at e g
        rcases q with ⟨pc', ls', st', h'⟩ | q | ⟨m, args, rest⟩
        · exact gd_run f e g
        · obtain rfl := Option.some.inj e
          exact g
        · dsimp only at e
          cases hd : zdep d n m args with
          | none => rw [hd] at e; cases e
          | some d' =>
            rw [hd] at e
            dsimp only at e
            cases hc : zrun f z d' m 0 (zent m args) [] h with
            | none => rw [hc] at e; cases e
            | some q =>
              have gq := gd_run f hc hP
              rw [hc] at e
              obtain ⟨v | x, h'⟩ := q
              · exact gd_run f e gq
              · unfold zbd at e
                dsimp only at e
                cases hb : Nat.blt (zin m) 99 with
                | true => rw [hb] at e; cases e
                | false =>
                  rw [hb] at e
                  dsimp only at e
                  cases hh : zhh n with
                  | nil =>
                    rw [hh] at e
                    obtain rfl := Option.some.inj e
                    exact gq
                  | cons a l =>
                    rw [hh] at e
                    dsimp only at e
                    cases hx : zhan n pc x with
                    | none => rw [hx] at e; cases e
                    | some pk =>
                      obtain ⟨pc', k⟩ := pk
                      rw [hx] at e
                      dsimp only at e
                      cases hp : zput ls k zu with
                      | none => rw [hp] at e; cases e
                      | some ls' =>
                        rw [hp] at e
                        exact gd_run f e gq
/-- whatever a call does -/
theorem B15_ev {z : ZE} {d n pc : Nat} {ls st : List Value} {h h' : Hp} {o : zO} (e : ev z d n pc ls st h = some (o, h')) (hP : B15 bb h) : B15 bb h' := by
  obtain ⟨f, hf⟩ := ev_iff.mp e
  exact gd_run f hf hP
end
