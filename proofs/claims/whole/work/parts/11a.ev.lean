/-! THE TOY MACHINE WITHOUT FUEL -/
theorem zrun_up : ∀ (f : Nat) (z : ZE) (d n pc : Nat) (ls st : List Value) (h : Hp) (r : zO × Hp), zrun f z d n pc ls st h = some r → zrun (f + 1) z d n pc ls st h = some r := by
  intro f
  induction f with
  | zero => intro z d n pc ls st h r hr; cases hr
  | succ f ih =>
    intro z d n pc ls st h r hr
    unfold zrun at hr ⊢
    split at hr
    · cases hr
    · split at hr
      · cases hr
      · exact ih _ _ _ _ _ _ _ _ hr
      · exact hr
      · split at hr
        · cases hr
        · unfold zbd at hr ⊢
          split at hr
          · cases hr
          · rename_i e
            rw [ih _ _ _ _ _ _ _ _ e]
            exact ih _ _ _ _ _ _ _ _ hr
          · rename_i e
            rw [ih _ _ _ _ _ _ _ _ e]
            dsimp only
            split at hr
            · cases hr
            · split at hr
              · exact hr
              · dsimp only at hr ⊢
                split at hr
                · cases hr
                · split at hr
                  · cases hr
                  · exact ih _ _ _ _ _ _ _ _ hr
theorem zrun_le {f g : Nat} {z : ZE} {d n pc : Nat} {ls st : List Value} {h : Hp} {r : zO × Hp} (hfg : f ≤ g) (hr : zrun f z d n pc ls st h = some r) : zrun g z d n pc ls st h = some r := by
  obtain ⟨k, rfl⟩ := Nat.le.dest hfg
  induction k with
  | zero => exact hr
  | succ k ih => exact zrun_up _ _ _ _ _ _ _ _ _ (ih (Nat.le_add_right _ _))
theorem zrun_det {f g : Nat} {z : ZE} {d n pc : Nat} {ls st : List Value} {h : Hp} {r q : zO × Hp} (h1 : zrun f z d n pc ls st h = some r) (h2 : zrun g z d n pc ls st h = some q) : r = q := by
  have a := zrun_le (Nat.le_max_left f g) h1
  have b := zrun_le (Nat.le_max_right f g) h2
  exact Option.some.inj (a.symm.trans b)
noncomputable def ev (z : ZE) (d n pc : Nat) (ls st : List Value) (h : Hp) : Option (zO × Hp) := Classical.epsilon (fun o : Option (zO × Hp) => ∀ r, o = some r ↔ ∃ f, zrun f z d n pc ls st h = some r)
theorem ev_iff {z : ZE} {d n pc : Nat} {ls st : List Value} {h : Hp} {r : zO × Hp} : ev z d n pc ls st h = some r ↔ ∃ f, zrun f z d n pc ls st h = some r := by
  have hx : ∃ o : Option (zO × Hp), ∀ r, o = some r ↔ ∃ f, zrun f z d n pc ls st h = some r := by
    rcases Classical.em (∃ r : zO × Hp, ∃ f, zrun f z d n pc ls st h = some r) with ⟨r0, f0, hr⟩ | hn
    · refine ⟨some r0, fun r => ⟨fun e => ?_, fun ⟨f, hf⟩ => ?_⟩⟩
      · obtain rfl := Option.some.inj e; exact ⟨f0, hr⟩
      · rw [zrun_det hr hf]
    · exact ⟨none, fun r => ⟨fun e => (by cases e), fun ⟨f, hf⟩ => absurd ⟨r, f, hf⟩ hn⟩⟩
  exact Classical.epsilon_spec hx r
theorem ev_of {f : Nat} {z : ZE} {d n pc : Nat} {ls st : List Value} {h : Hp} {r : zO × Hp} (hr : zrun f z d n pc ls st h = some r) : ev z d n pc ls st h = some r := ev_iff.mpr ⟨f, hr⟩
theorem ev_ext {z : ZE} {d n pc : Nat} {ls st : List Value} {h : Hp} {o : Option (zO × Hp)} (h1 : ∀ r, o = some r → ∃ f, zrun f z d n pc ls st h = some r) (h2 : ∀ f r, zrun f z d n pc ls st h = some r → o = some r) : ev z d n pc ls st h = o := by
  cases ho : o with
  | some r =>
    obtain ⟨f, hf⟩ := h1 r ho
    exact ev_of hf
  | none =>
    cases he : ev z d n pc ls st h with
    | none => rfl
    | some r =>
      obtain ⟨f, hf⟩ := ev_iff.mp he
      have := h2 f r hf
      rw [ho] at this
      cases this
/-- what follows a callee's exception -/
noncomputable def evx (z : ZE) (d n pc : Nat) (ls : List Value) (e : Nat) (h : Hp) : Option (zO × Hp) := match zhh n with
  | [] => some (.inr e, h)
  | _ :: _ => match zhan n pc e with
    | none => none
    | some (pc', k) => match zput ls k zu with
      | none => none
      | some ls' => ev z d n pc' ls' [] h
/-- one step -/
noncomputable def evs (z : ZE) (d n pc : Nat) (ls : List Value) (h : Hp) : Option zRes → Option (zO × Hp)
  | none => none
  | some (.inl (pc', ls', st', h')) => ev z d n pc' ls' st' h'
  | some (.inr (.inl r)) => some r
  | some (.inr (.inr (m, args, rest))) => match zdep d n m args with
    | none => none
    | some d' => zbd (ev z d' m 0 (zent m args) [] h) (fun v h' => ev z d n (pc + 3) ls (v.toList ++ rest) h') (fun e h' => match Nat.blt (zin m) 99 with
      | true => none
      | false => evx z d n pc ls e h')
theorem ev_step {z : ZE} {d n pc : Nat} {ls st : List Value} {h : Hp} {i : Instr} {len : Nat} (hf : zfetch n pc = some (i, len)) : ev z d n pc ls st h = evs z d n pc ls h (zstep z n pc i len ls st h) := by
  refine ev_ext ?_ ?_
  · intro r hr
    unfold evs at hr
    split at hr
    · cases hr
    · rename_i e
      obtain ⟨f, hq⟩ := ev_iff.mp hr
      refine ⟨f + 1, ?_⟩
      unfold zrun
      rw [hf]
      dsimp only
      rw [e]
      exact hq
    · rename_i e
      refine ⟨1, ?_⟩
      unfold zrun
      rw [hf]
      dsimp only
      rw [e]
      exact hr
    · rename_i e
      split at hr
      · cases hr
      · rename_i d' hd
        unfold zbd at hr
        split at hr
        · cases hr
        · rename_i v h1 hc
          obtain ⟨f1, g1⟩ := ev_iff.mp hc
          obtain ⟨f2, g2⟩ := ev_iff.mp hr
          refine ⟨max f1 f2 + 1, ?_⟩
          unfold zrun
          rw [hf]
          dsimp only
          rw [e]
          dsimp only
          rw [hd]
          dsimp only
          rw [zrun_le (Nat.le_max_left f1 f2) g1]
          exact zrun_le (Nat.le_max_right f1 f2) g2
        · rename_i x h1 hc
          obtain ⟨f1, g1⟩ := ev_iff.mp hc
          split at hr
          · cases hr
          · rename_i hi
            unfold evx at hr
            split at hr
            · rename_i hh
              refine ⟨f1 + 1, ?_⟩
              unfold zrun
              rw [hf]
              dsimp only
              rw [e]
              dsimp only
              rw [hd]
              dsimp only
              rw [g1]
              unfold zbd
              dsimp only
              rw [hi, hh]
              exact hr
            · rename_i a b hh
              dsimp only at hr
              split at hr
              · cases hr
              · rename_i pc' k hz
                split at hr
                · cases hr
                · rename_i ls' hp
                  obtain ⟨f2, g2⟩ := ev_iff.mp hr
                  refine ⟨max f1 f2 + 1, ?_⟩
                  unfold zrun
                  rw [hf]
                  dsimp only
                  rw [e]
                  dsimp only
                  rw [hd]
                  dsimp only
                  rw [zrun_le (Nat.le_max_left f1 f2) g1]
                  unfold zbd
                  dsimp only
                  rw [hi, hh]
                  dsimp only
                  rw [hz]
                  dsimp only
                  rw [hp]
                  exact zrun_le (Nat.le_max_right f1 f2) g2
  · intro f r hr
    cases f with
    | zero => cases hr
    | succ f =>
      unfold zrun at hr
      rw [hf] at hr
      dsimp only at hr
      unfold evs
      split at hr
      · cases hr
      · rename_i e; rw [e]; exact ev_of hr
      · rename_i e; rw [e]; exact hr
      · rename_i e
        rw [e]
        dsimp only
        split at hr
        · cases hr
        · rename_i d' hd
          rw [hd]
          dsimp only
          unfold zbd at hr
          split at hr
          · cases hr
          · rename_i v h1 hc
            rw [ev_of hc]
            exact ev_of hr
          · rename_i x h1 hc
            rw [ev_of hc]
            unfold zbd
            dsimp only
            split at hr
            · cases hr
            · rename_i hi
              rw [hi]
              unfold evx
              split at hr
              · rename_i hh; rw [hh]; exact hr
              · rename_i a b hh
                rw [hh]
                dsimp only at hr ⊢
                split at hr
                · cases hr
                · rename_i pc' k hz
                  rw [hz]
                  dsimp only
                  split at hr
                  · cases hr
                  · rename_i ls' hp
                    rw [hp]
                    exact ev_of hr
