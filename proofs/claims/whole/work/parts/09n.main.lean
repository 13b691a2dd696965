/-! SOUNDNESS: the induction -/
theorem zdep_mu {d n k d' : Nat} {as : List Value} (hk : k < 352) (h : zdep d n k as = some d') : (zexp as).length ≤ zmax k ∧ zmu d' k < zmu d n := by
  unfold zdep at h
  split at h
  · rename_i hb
    rw [Nat.ble_eq] at hb
    refine ⟨hb, ?_⟩
    have hrk := (zrk_max k hk).1
    unfold zdep0 at h
    unfold zmu
    split at h
    · rename_i hlt
      rw [Nat.blt_eq] at hlt
      obtain rfl := Option.some.inj h
      omega
    · cases d with
      | zero => cases h
      | succ d0 =>
        obtain rfl := Option.some.inj h
        omega
  · cases h
theorem zmath_v {j : Nat} (h : zstc j = false) : zmath j = 0 := by
  rcases zmath_ok (j := j) with ⟨e0, -⟩ | ⟨e0, rfl⟩ | ⟨e0, rfl⟩ | ⟨e0, rfl⟩
  · exact e0
  · exact absurd h (by decide +kernel)
  · exact absurd h (by decide +kernel)
  · exact absurd h (by decide +kernel)
theorem zgo_not {pc : Nat} {ls st : List Value} {h : Hp} {x : (zO × Hp) ⊕ (Nat × List Value × List Value)} (hs : zgo pc ls st h = some (.inr x)) : False := by
  unfold zgo at hs; cases hs
theorem zsC_call {n pc len : Nat} {i : Instr} {ls st : List Value} {h : Hp} {j : Nat} {as rest : List Value} (hs : zsC n pc i len ls st h = some (.inr (.inr (j, as, rest)))) : j < 351 ∧ zmath j = 0 := by
  unfold zsC at hs
  split at hs
  · have hs := (zl_ok hs).2
    obtain ⟨ci, hci, hs⟩ := zop_ok hs
    split at hs
    · exact (zgo_not hs).elim
    · split at hs
      · cases hs
      · cases hs
  · have hs := (zl_ok hs).2
    obtain ⟨j', hj, hs⟩ := zop_ok hs
    split at hs
    · split at hs
      · exact (zgo_not (zite_ok hs).2).elim
      · cases hs
    · split at hs
      · rename_i hcond
        simp only [Bool.and_eq_true, Nat.ble_eq, Nat.blt_eq] at hcond
        rcases zmath_ok (j := j') with ⟨e0, -⟩ | ⟨e0, -⟩ | ⟨e0, -⟩ | ⟨e0, -⟩
        · rw [e0] at hs; cases hs; exact ⟨hcond.1.1.1, e0⟩
        · rw [e0] at hs; obtain ⟨x, y, r, -, hs⟩ := z2_ok hs; exact (zgo_not hs).elim
        · rw [e0] at hs; obtain ⟨x, y, r, -, hs⟩ := zq2_ok hs; exact (zgo_not hs).elim
        · rw [e0] at hs; obtain ⟨x, y, r, -, hs⟩ := z2_ok hs; exact (zgo_not hs).elim
      · cases hs
  · have hs := (zl_ok hs).2
    obtain ⟨j', hj, hs⟩ := zop_ok hs
    split at hs
    · rename_i hcond
      simp only [Bool.and_eq_true, Nat.ble_eq, Nat.blt_eq, Bool.not_eq_true'] at hcond
      obtain ⟨a, r, -, hs⟩ := za1_ok hs
      have hs := (zite_ok hs).2
      cases hs
      exact ⟨hcond.1.1.1, zmath_v hcond.1.1.2⟩
    · cases hs
  · have hs := (zl_ok hs).2
    obtain ⟨j', hj, hs⟩ := zop_ok hs
    split at hs
    · obtain ⟨a, r, -, hs⟩ := za1_ok hs
      exact (zgo_not (zite_ok hs).2).elim
    · split at hs
      · rename_i hcond
        simp only [Bool.and_eq_true, Nat.ble_eq, Nat.blt_eq, Bool.not_eq_true'] at hcond
        obtain ⟨a, r, -, hs⟩ := za1_ok hs
        have hs := (zite_ok hs).2
        cases hs
        exact ⟨hcond.1.1.1, zmath_v hcond.1.1.2⟩
      · cases hs
  · have hs := (zl_ok hs).2
    split at hs
    · obtain ⟨ty, -, hs⟩ := zop_ok hs
      have hs := (zite_ok hs).2
      cases hs
    · cases hs
  · have hs := (zl_ok hs).2
    split at hs
    · split at hs <;> cases hs
    · cases hs
  · have hs := (zl_ok hs).2
    split at hs
    · split at hs <;> cases hs
    · cases hs
  · have hs := (zl_ok hs).2
    split at hs
    · split at hs <;> cases hs
    · cases hs
  · cases hs
section
variable {D : va_G} {dT : Nat → ClassId} {B0 : Nat} {z : ZE} {l : Launch}
/-- what a run owes -/
def zOk (D : va_G) (dT : Nat → ClassId) (B0 : Nat) (z : ZE) (l : Launch) (d n pc : Nat) (lst st : List Value) (h : Hp) (r : zO) (h' : Hp) : Prop :=
  ∀ (p : Program) (e : Env) (R : Room) (s : State) (m : MethodId) (args : Array Value) (below : List Frame) (meth : Method) (c : Code) (C0 S0 mc ms : Nat), zCx D dT B0 z p l R s m args meth c n → zRm R d n → zC h' = C0 + mc → zS h' = S0 + ms → mc ≤ R.cells ∧ ms ≤ R.slots → C0 ≤ zC h ∧ S0 ≤ zS h →
    zWk D dT B0 C0 S0 p l e R s m args below meth c n (vx_MQ below (zQc D dT B0 r h') (zXc D dT B0 r h') args s mc ms (zAp B0)) pc lst st h
/-- a callee's contract -/
theorem zMet_of {d j : Nat} {as : List Value} {h h' : Hp} {r : zO} (hl : l.stackTraces = false) (hj : j < 351) (hm : zmath j = 0) (hlen : (zexp as).length ≤ zmax j) (hmon : zC h ≤ zC h' ∧ zS h ≤ zS h') (hb : zOk D dT B0 z l d j 0 (zent j as) [] h r h') : zMet D dT B0 z l d j as h r h' := by
  obtain ⟨m1, m2, m3, m4, m5, m6⟩ := zmok_at (k := j) (by omega)
  have key : ∀ (p : Program) (e : Env) (s : State) (m : MethodId) (args : Array Value) (below : List Frame) (meth : Method) (c : Code) (s₁ : State), BodyLoose p l (zyy j) (headSpec (zwsm j) (zroom d j (zC h' - zC h) (zS h' - zS h))) (zcd j) (zmax j) (zret j) e s m args below meth c s₁ → c.maxLocals = zmax j → c.exceptionTable.toList.map (fun x => (x.startPc, x.endPc, x.handlerPc, x.catchType)) = zhh j → zPc D dT B0 z as h args s →
      W p l e (headSpec (zwsm j) (zroom d j (zC h' - zC h) (zS h' - zS h))).room s m args below meth c s.heap [] 0 0 (vx_MQ below (zQc D dT B0 r h') (zXc D dT B0 r h') args s (zC h' - zC h) (zS h' - zS h) (zAp B0)) (entryFrame m args (zmax j)) := by
    intro p e s m args below meth c s₁ B hml hxt hP
    obtain ⟨rfl, hR, hK, hSt⟩ := hP
    have hts : ∀ w ∈ zwsm j, w.before as.toArray s = true := atoms_spec (ws := zwsm j) B.pre
    have hown : s.vm.findClass (zyy j).cls = some m.cls := findClass_of_methodNamed B.named
    have hin : zin j ≠ 99 → meth.name = "<init>" := fun hne => by
      have h99 := (zin_99 j (by omega)).1
      rw [(name_of_methodNamed B.named B.method).1]
      exact (m5 (by omega)).1
    have hC : zCx D dT B0 z p l (zroom d j (zC h' - zC h) (zS h' - zS h)) s m as.toArray meth c j := ⟨B.exec, B.bytes, hml, B.returns, by rw [← m2]; exact hown, fun w hw => hts w (List.mem_cons_of_mem _ hw), B.notSynchronized, hin, hK, hSt, hl, hxt⟩
    rw [lg_entry_eq]
    exact hb p e _ s m as.toArray below meth c (zC h) (zS h) (zC h' - zC h) (zS h' - zS h) hC ⟨Nat.le_refl _, Nat.le_refl _⟩ (by omega) (by omega) ⟨Nat.le_refl _, Nat.le_refl _⟩ ⟨Nat.le_refl _, Nat.le_refl _⟩ s.heap [] 0 0 _ hR va_S.rf (by omega) (by omega) (zent_ok hlen)
  unfold zMet
  cases hh : zhh j with
  | nil =>
    have hcw : zcode j = .code (zyy j) (zcd j) (zmax j) (zret j) := by unfold zcode; rw [hh]
    refine vx_ofW (cc := zcd j) (maxL := zmax j) (ret := zret j) (ws' := zgw) (m4 hm) (by rw [← hcw]) ?_
    intro p e s m args below meth c s₁ B hml hx hP
    refine key p e s m args below meth c s₁ B hml ?_ hP
    rw [hh]
    have : c.exceptionTable.toList = [] := List.eq_nil_iff_forall_not_mem.mpr (fun x hx2 => hx x hx2)
    rw [this]; rfl
  | cons h1 t1 =>
    have hcw : zcode j = .codeWith (zyy j) (zcd j) (zmax j) (zret j) (h1 :: t1) := by unfold zcode; rw [hh]
    refine vx_ofWH (cc := zcd j) (maxL := zmax j) (ret := zret j) (hh := h1 :: t1) (ws' := zgw) (m4 hm) (by rw [← hcw]) ?_
    intro p e s m args below meth c s₁ B hml hP
    refine key p e s m args below meth c s₁ B hml ?_ hP
    have hts : ∀ w ∈ zwsm j, w.before args s = true := atoms_spec (ws := zwsm j) B.pre
    have hcb := hts _ List.mem_cons_self
    rw [hcw] at hcb
    obtain ⟨m9, meth9, c9, hn9, g1, g2, -, -, g6, -⟩ := Cond.codeWith_spec hcb
    cases Option.some.inj (hn9.symm.trans B.named)
    cases Option.some.inj (g1.symm.trans B.method)
    cases Option.some.inj (g2.symm.trans (Stand.of_body B).code)
    rw [g6, hh]
set_option maxHeartbeats 4000000 in
theorem zrun_ok (hl : l.stackTraces = false) : ∀ (f d n pc : Nat) (lst st : List Value) (h : Hp) (r : zO) (h' : Hp), n < 352 → zrun f z d n pc lst st h = some (r, h') → zOk D dT B0 z l d n pc lst st h r h' := by
  intro f
  induction f with
  | zero => intro d n pc lst st h r h' hn hr; cases hr
  | succ f ih =>
    intro d n pc lst st h r h' hn hrun
    intro p e R s m args below meth c C0 S0 mc ms hC hRm hmc hms hmR hcle
    unfold zrun at hrun
    split at hrun
    · cases hrun
    · rename_i i len hf
      have hd := zfetch_ok hn hf
      split at hrun
      · cases hrun
      · -- a step
        rename_i pc' lst' st' h1 hs
        have m1 := zrun_mono _ _ _ _ _ _ _ _ _ _ hrun
        have m0 : zC h ≤ zC h1 ∧ zS h ≤ zS h1 := zstep_mono hs
        have k := ih d n pc' lst' st' h1 r h' hn hrun p e R s m args below meth c C0 S0 mc ms hC hRm hmc hms hmR ⟨by omega, by omega⟩
        have hrm : zC h1 ≤ C0 + R.cells ∧ zS h1 ≤ S0 + R.slots := ⟨by omega, by omega⟩
        rcases zstep_or hs with hs | hs | hs
        · exact zsA_ok hC hd hs (fun a b c1 d1 e1 => by cases e1; exact k)
        · exact zsB_ok hC hd hs (fun a b c1 d1 e1 => by cases e1; exact hrm) (fun a b c1 d1 e1 => by cases e1; exact k)
        · exact zsC_ok hn hC hRm hd hs hmc hms hmR hcle (fun a b c1 d1 e1 => by cases e1; exact ⟨hrm, k⟩) (fun a b e1 => by cases e1) (fun a b c1 e1 => by cases e1)
      · -- an end
        rename_i q hs
        cases hrun
        rcases zstep_or hs with hs | hs | hs
        · obtain ⟨a, b, c1, e1⟩ := zsA_inl hs; cases e1
        · obtain ⟨a, b, c1, d1, e1, -⟩ := zsB_inl hs; cases e1
        · exact zsC_ok hn hC hRm hd hs hmc hms hmR hcle (fun a b c1 d1 e1 => by cases e1) (fun a b e1 => by cases e1; exact ⟨rfl, rfl⟩) (fun a b c1 e1 => by cases e1)
      · -- a call
        rename_i j as rest hs
        have hs3 : zsC n pc i len lst st h = some (.inr (.inr (j, as, rest))) := by
          rcases zstep_or hs with hs | hs | hs
          · obtain ⟨a, b, c1, e1⟩ := zsA_inl hs; cases e1
          · obtain ⟨a, b, c1, d1, e1, -⟩ := zsB_inl hs; cases e1
          · exact hs
        obtain ⟨hj, hjm⟩ := zsC_call hs3
        split at hrun
        · cases hrun
        · rename_i d' hdep
          obtain ⟨hlen, hmu⟩ := zdep_mu (by omega) hdep
          refine zsC_ok hn hC hRm hd hs3 hmc hms hmR hcle (fun a b c1 d1 e1 => by cases e1) (fun a b e1 => by cases e1) (fun a b c1 e1 => ?_)
          cases e1
          unfold zbd at hrun
          split at hrun
          · cases hrun
          · rename_i v h1 hcall
            have m0 := zrun_mono _ _ _ _ _ _ _ _ _ _ hcall
            have m1 := zrun_mono _ _ _ _ _ _ _ _ _ _ hrun
            have hM := zMet_of hl hj hjm hlen m0 (ih d' j 0 (zent j as) [] h (.inl v) h1 (by omega) hcall)
            refine ⟨d', .inl v, h1, hmu, hM, fun _ => ⟨v, rfl⟩, m0, ⟨by omega, by omega⟩, fun v' ev => ?_, fun x ex => by cases ex⟩
            cases ev
            exact ih d n (pc + 3) lst (v.toList ++ rest) h1 r h' hn hrun p e R s m args below meth c C0 S0 mc ms hC hRm hmc hms hmR ⟨by omega, by omega⟩
          · rename_i x h1 hcall
            have m0 := zrun_mono _ _ _ _ _ _ _ _ _ _ hcall
            have hM := zMet_of hl hj hjm hlen m0 (ih d' j 0 (zent j as) [] h (.inr x) h1 (by omega) hcall)
            split at hrun
            · cases hrun
            · rename_i hin99
              have hni : ¬ zin j < 99 := fun hq => by rw [← Nat.blt_eq, hin99] at hq; cases hq
              split at hrun
              · rename_i hhh
                cases hrun
                refine ⟨d', .inr x, h', hmu, hM, fun hq => absurd hq hni, m0, ⟨by omega, by omega⟩, fun v' ev => (by cases ev), fun x' ex hx5 H locs cells slots ls q ce hR hS hc hsl hL hq hcv hcl => ?_⟩
                cases ex
                obtain ⟨hx, hb, hml, hr, hown, hts, hlocks, hin, hK, hSt, -, hxt⟩ := id hC
                have ht0 : c.exceptionTable.toList = [] := by
                  rw [hhh] at hxt
                  exact List.map_eq_nil_iff.mp hxt
                exact vx_out (by rw [ht0]; intro y hy; cases hy) hlocks hq hcv hcl (fun t ht _ => ⟨x, rfl, hx5, rfl, zEnd_of hR hS ht⟩) hS.2.2 (by omega) (by omega)
              · rename_i g1 g2 hhh
                dsimp only at hrun
                split at hrun
                · cases hrun
                · rename_i pc2 k hhan
                  split at hrun
                  · cases hrun
                  · rename_i lst2 hput
                    have m1 := zrun_mono _ _ _ _ _ _ _ _ _ _ hrun
                    have kk := ih d n pc2 lst2 [] h1 r h' hn hrun p e R s m args below meth c C0 S0 mc ms hC hRm hmc hms hmR ⟨by omega, by omega⟩
                    refine ⟨d', .inr x, h1, hmu, hM, fun hq => absurd hq hni, m0, ⟨by omega, by omega⟩, fun v' ev => (by cases ev), fun x' ex hx5 H locs cells slots ls q ce hR hS hc hsl hL hq hcv hcl => ?_⟩
                    cases ex
                    obtain ⟨hx, hb, hml, hr, hown, hts, hlocks, hin, hK, hSt, -, hxt⟩ := id hC
                    unfold zhan at hhan
                    split at hhan
                    · cases hhan
                    · rename_i hp2 hnd
                      rw [← hxt] at hnd
                      obtain ⟨pre, y, suf, t1, t2, t3, t4, t5, t6⟩ := zhnd_ok hC hx5 _ _ hnd
                      have hcast : (Cond.castable (zexn.getD x "") (zexn.getD x "")).before args s = true := va_Nw.use rfl (hSt.2.2.2.2.2.2.2.2.2 x hx5)
                      refine vx_catch hown pre y suf t1 t2 t3 t4 t5 hcast hq hcv hcl ?_
                      rw [t6]
                      obtain ⟨hkN, hLn⟩ := zput_u (a := q) hL hput
                      split at hhan
                      · rename_i kk1 hf2
                        cases hhan
                        exact lv_astore_n hx hb (zfetch_ok hn hf2) rfl hL.2 hkN rfl (fun ls2 h2 => kk H locs cells slots ls2 hR hS hc hsl (hLn ls2 h2))
                      · rename_i kk1 hf2
                        cases hhan
                        exact lv_astore hx hb (zfetch_ok hn hf2) hL.2 hkN rfl (fun ls2 h2 => kk H locs cells slots ls2 hR hS hc hsl (hLn ls2 h2))
                      · cases hhan
end
