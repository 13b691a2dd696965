/-! SOUNDNESS: every run of the toy machine that ends -/
theorem zstep_or {z : ZE} {n pc len : Nat} {i : Instr} {ls st : List Value} {h : Hp} {r : zRes} (hs : zstep z n pc i len ls st h = some r) : zsA z n pc i len ls st h = some r ∨ zsB z n pc i len ls st h = some r ∨ zsC n pc i len ls st h = some r := by
  unfold zstep at hs
  split at hs
  · rename_i e; left; rw [e]; exact hs
  · split at hs
    · rename_i e; right; left; rw [e]; exact hs
    · right; right; exact hs
/-- what a step makes of the counts -/
def zmono (h : Hp) : zRes → Prop
  | .inl (_, _, _, h') => zC h ≤ zC h' ∧ zS h ≤ zS h'
  | .inr (.inl (_, h')) => zC h ≤ zC h' ∧ zS h ≤ zS h'
  | .inr (.inr _) => True
theorem zmono_go {pc : Nat} {ls st : List Value} {h h' : Hp} {r : zRes} (hs : zgo pc ls st h' = some r) (h1 : zC h ≤ zC h') (h2 : zS h ≤ zS h') : zmono h r := by
  unfold zgo at hs; cases hs; exact ⟨h1, h2⟩
set_option maxHeartbeats 4000000 in
theorem zsA_inl {z : ZE} {n pc len : Nat} {i : Instr} {ls st : List Value} {h : Hp} {r : zRes} (hs : zsA z n pc i len ls st h = some r) : ∃ a b c, r = .inl (a, b, c, h) := by
  unfold zsA at hs
  simp only [zl, z1, z2, zq1, zq2, zst1, zld, zop, zstore, zj, zcnd, zgo] at hs
  repeat' split at hs
  all_goals first
    | (cases hs; exact ⟨_, _, _, rfl⟩)
    | cases hs
set_option maxHeartbeats 4000000 in
theorem zsB_inl {z : ZE} {n pc len : Nat} {i : Instr} {ls st : List Value} {h : Hp} {r : zRes} (hs : zsB z n pc i len ls st h = some r) : ∃ a b c h', r = .inl (a, b, c, h') ∧ zC h ≤ zC h' ∧ zS h ≤ zS h' := by
  unfold zsB at hs
  simp only [zl, z1, za1, zal, zop, zgo] at hs
  repeat' split at hs
  all_goals first
    | (cases hs; exact ⟨_, _, _, _, rfl, Nat.le_refl _, Nat.le_refl _⟩)
    | (cases hs; exact ⟨_, _, _, _, rfl, Nat.le_add_right _ _, Nat.le_add_right _ _⟩)
    | cases hs
set_option maxHeartbeats 4000000 in
theorem zsC_mono {n pc len : Nat} {i : Instr} {ls st : List Value} {h : Hp} {r : zRes} (hs : zsC n pc i len ls st h = some r) : zmono h r := by
  unfold zsC at hs
  simp only [zl, z2, zq2, za1, zop, zgo] at hs
  repeat' split at hs
  all_goals first
    | (cases hs; exact ⟨Nat.le_refl _, Nat.le_refl _⟩)
    | (cases hs; exact ⟨Nat.le_add_right _ _, Nat.le_add_right _ _⟩)
    | (cases hs; exact trivial)
    | cases hs
theorem zstep_mono {z : ZE} {n pc len : Nat} {i : Instr} {ls st : List Value} {h : Hp} {r : zRes} (hs : zstep z n pc i len ls st h = some r) : zmono h r := by
  rcases zstep_or hs with hs | hs | hs
  · obtain ⟨a, b, c, rfl⟩ := zsA_inl hs; exact ⟨Nat.le_refl _, Nat.le_refl _⟩
  · obtain ⟨a, b, c, h', rfl, h1, h2⟩ := zsB_inl hs; exact ⟨h1, h2⟩
  · exact zsC_mono hs
theorem zrun_mono : ∀ (f : Nat) (z : ZE) (d n pc : Nat) (ls st : List Value) (h : Hp) (r : zO) (h' : Hp), zrun f z d n pc ls st h = some (r, h') → zC h ≤ zC h' ∧ zS h ≤ zS h' := by
  intro f
  induction f with
  | zero => intro z d n pc ls st h r h' hr; cases hr
  | succ f ih =>
    intro z d n pc ls st h r h' hr
    unfold zrun at hr
    split at hr
    · cases hr
    · split at hr
      · cases hr
      · rename_i hs
        have m1 := zstep_mono hs
        have m2 := ih _ _ _ _ _ _ _ _ _ hr
        exact ⟨Nat.le_trans m1.1 m2.1, Nat.le_trans m1.2 m2.2⟩
      · rename_i q hs
        cases hr
        exact zstep_mono hs
      · split at hr
        · cases hr
        · unfold zbd at hr
          split at hr
          · cases hr
          · rename_i e
            have m1 := ih _ _ _ _ _ _ _ _ _ e
            have m2 := ih _ _ _ _ _ _ _ _ _ hr
            exact ⟨Nat.le_trans m1.1 m2.1, Nat.le_trans m1.2 m2.2⟩
          · rename_i e
            have m1 := ih _ _ _ _ _ _ _ _ _ e
            split at hr
            · cases hr
            · split at hr
              · cases hr; exact m1
              · dsimp only at hr
                split at hr
                · cases hr
                · split at hr
                  · cases hr
                  · have m2 := ih _ _ _ _ _ _ _ _ _ hr
                    exact ⟨Nat.le_trans m1.1 m2.1, Nat.le_trans m1.2 m2.2⟩
theorem zisL_cat (v : Value) : zisL v = decide (v.category = 2) := by cases v <;> rfl
theorem zexp_len : ∀ (as : List Value), (lg_sl as).length = (zexp as).length := by
  intro as
  induction as with
  | nil => rfl
  | cons v r ih =>
    have e : lg_sl (v :: r) = (if v.category = 2 then [Slot.val v, .second] else [Slot.val v]) ++ lg_sl r := by simp [lg_sl]
    rw [e, List.length_append, ih, show zexp (v :: r) = (match zisL v with
      | true => v :: zu :: zexp r
      | false => v :: zexp r) from rfl]
    rw [zisL_cat]
    by_cases h : v.category = 2
    · rw [if_pos h, decide_eq_true h]; simp; omega
    · rw [if_neg h, decide_eq_false h]; simp; omega
theorem zexp_args : ∀ (as : List Value) (i j : Nat) (v : Value), (zexp as)[j]? = some v → zset v = true → (i + j, v) ∈ lv_args i as := by
  intro as
  induction as with
  | nil => intro i j v h; simp [zexp] at h
  | cons a r ih =>
    intro i j v h hv
    unfold zexp at h
    unfold lv_args
    rw [zisL_cat] at h
    by_cases hc : a.category = 2
    · rw [decide_eq_true hc] at h
      rw [if_pos hc]
      cases j with
      | zero => simp at h; subst h; exact List.mem_cons_self
      | succ j =>
        cases j with
        | zero => simp at h; subst h; cases hv
        | succ j =>
          have := ih (i + 2) j v (by simpa using h) hv
          rw [show i + (j + 1 + 1) = i + 2 + j by omega]
          exact List.mem_cons_of_mem _ this
    · rw [decide_eq_false hc] at h
      rw [if_neg hc]
      cases j with
      | zero => simp at h; subst h; exact List.mem_cons_self
      | succ j =>
        have := ih (i + 1) j v (by simpa using h) hv
        rw [show i + (j + 1) = i + 1 + j by omega]
        exact List.mem_cons_of_mem _ this
theorem zent_ok {n : Nat} {as : List Value} (h : (zexp as).length ≤ zmax n) : zLs (zmax n) (zent n as) ((lg_sl as ++ List.replicate (zmax n - (lg_sl as).length) Slot.unset).toArray) := by
  have h0 := lv_entry as (n := zmax n) (by rw [zexp_len]; exact h)
  refine ⟨?_, h0.1, h0.2.1, fun q hq => ?_⟩
  · unfold zent zpad
    rw [List.length_append, List.length_replicate]; omega
  · obtain ⟨j, e1, e2, e3⟩ := (zpr_mem _ 0 q.1 q.2).mp (by simpa using hq)
    unfold zent zpad at e2
    have hj : j < (zexp as).length := by
      rcases Nat.lt_or_ge j (zexp as).length with hj | hj
      · exact hj
      · rw [List.getElem?_append_right hj, List.getElem?_replicate] at e2
        split at e2
        · have : zu = q.2 := by simpa using e2
          rw [← this] at e3; cases e3
        · cases e2
    rw [List.getElem?_append_left hj] at e2
    have := zexp_args as 0 j q.2 e2 e3
    have hqe : q = (0 + j, q.2) := by rw [← e1]
    rw [hqe]
    exact h0.2.2 _ this
/-- a local is forgotten -/
theorem zLs_forget {N k : Nat} {l : List Value} {ls : Array Slot} {v : Value} (h : zLs N (l.set k v) ls) : zLs N (l.set k zu) ls := by
  refine ⟨by have := h.1; simpa using this, h.2.1, h.2.2.1, fun q hq => ?_⟩
  obtain ⟨j, e1, e2, e3⟩ := (zpr_mem _ 0 q.1 q.2).mp (by simpa using hq)
  have hjk : k ≠ j := by
    intro e
    rw [List.getElem?_set, if_pos e] at e2
    split at e2
    · have : zu = q.2 := by simpa using e2
      rw [← this] at e3; cases e3
    · cases e2
  rw [List.getElem?_set, if_neg hjk] at e2
  have : (q.1, q.2) ∈ zpr 0 (l.set k v) := (zpr_mem _ 0 q.1 q.2).mpr ⟨j, e1, by rw [List.getElem?_set, if_neg hjk]; exact e2, e3⟩
  exact h.2.2.2 q (by simpa using this)
theorem zput_u {N k : Nat} {l l' : List Value} {ls : Array Slot} {a : Nat} (h : zLs N l ls) (hp : zput l k zu = some l') :
    k < N ∧ ∀ ls', lv_has ls' N ((k, .ref a) :: (zpr 0 l).filter (fun q => !(q.1 == k) && !(q.1 + 1 == k && q.2.category == 2))) → zLs N l' ls' := by
  have hx : ∃ l2, zput l k (.ref a) = some l2 ∧ l' = l.set k zu ∧ l2 = l.set k (.ref a) := by
    unfold zput at hp ⊢
    split at hp
    · cases hp
    · rename_i hb
      cases k with
      | zero => simp only [Option.some.injEq] at hp; exact ⟨_, rfl, hp.symm, rfl⟩
      | succ j =>
        dsimp only at hp ⊢
        split at hp
        · cases hp
        · rename_i hz
          simp only [Option.some.injEq] at hp
          exact ⟨_, rfl, hp.symm, rfl⟩
  obtain ⟨l2, h2, rfl, rfl⟩ := hx
  obtain ⟨g1, g2⟩ := zput_ok h h2
  exact ⟨g1, fun ls' hl => zLs_forget (g2 ls' hl)⟩
section
variable {D : va_G} {dT : Nat → ClassId} {B0 : Nat} {z : ZE} {p : Program} {l : Launch} {e : Env} {R : Room} {s : State} {m : MethodId} {args : Array Value} {below : List Frame} {meth : Method} {c : Code} {n : Nat}
theorem zcr_0 : ∀ o, o < 20 → ∀ q ∈ zcr.getD o [], q.1 ≠ 0 := by decide +kernel
theorem zcr_l : zcr.length = 20 := by decide +kernel
theorem zcl_0 {k y : Nat} (h : zcl n k = some y) : k ≠ 0 := by
  rcases Nat.lt_or_ge (zown n) 20 with ho | ho
  · exact zcr_0 _ ho (k, y) (zlk_mem h)
  · unfold zcl at h
    rw [show zcr.getD (zown n) [] = [] by rw [List.getD_eq_getElem?_getD, List.getElem?_eq_none (by rw [zcr_l]; exact ho)]; rfl] at h; cases h
/-- the handler that the toy machine takes is the machine's -/
theorem zhnd_ok (hC : zCx D dT B0 z p l R s m args meth c n) {pc x : Nat} (hx5 : x < 5) : ∀ (tb : List ExceptionTableEntry) (q : Nat), zhnd n (tb.map (fun y => (y.startPc, y.endPc, y.handlerPc, y.catchType))) pc x = some q →
    ∃ pre y suf, tb = pre ++ y :: suf ∧ (∀ w ∈ pre, covers w pc = false ∨ (w.catchType ≠ 0 ∧ ∃ nm : String, (Cond.classLink (zcn (zown n)) w.catchType nm).before args s = true ∧ va_Nc (zexn.getD x "") nm s)) ∧ covers y pc = true ∧ y.catchType ≠ 0 ∧ (Cond.classLink (zcn (zown n)) y.catchType (zexn.getD x "")).before args s = true ∧ y.handlerPc = q := by
  obtain ⟨hx, hb, hml, hr, hown, hts, hlocks, hin, hK, hSt, hl, hxt⟩ := id hC
  intro tb
  induction tb with
  | nil => intro q h; cases h
  | cons y r ih =>
    intro q h
    have hcov : covers y pc = (Nat.ble y.startPc pc && Nat.blt pc y.endPc) := by
      have e1 : decide (y.startPc ≤ pc) = Nat.ble y.startPc pc := by
        cases hq : Nat.ble y.startPc pc with
        | true => rw [Nat.ble_eq] at hq; exact decide_eq_true hq
        | false => exact decide_eq_false (fun hc => by rw [← Nat.ble_eq, hq] at hc; cases hc)
      have e2 : decide (pc < y.endPc) = Nat.blt pc y.endPc := by
        cases hq : Nat.blt pc y.endPc with
        | true => rw [Nat.blt_eq] at hq; exact decide_eq_true hq
        | false => exact decide_eq_false (fun hc => by rw [← Nat.blt_eq, hq] at hc; cases hc)
      show (decide (y.startPc ≤ pc) && decide (pc < y.endPc)) = _
      rw [e1, e2]
    rw [List.map_cons] at h
    unfold zhnd at h
    split at h
    · rename_i hc
      have hcv : covers y pc = true := by rw [hcov]; exact hc
      split at h
      · rename_i cy hcy
        split at h
        · rename_i hbq
          have ecy := Nat.eq_of_beq_eq_true hbq
          subst ecy
          have hw := hts _ (zcr_w _ _ _ hcy)
          have hnm : zcname (100 + x) = zexn.getD x "" := by
            unfold zcname
            rw [show Nat.blt (100 + x) 100 = false by cases hq : Nat.blt (100 + x) 100 with
              | false => rfl
              | true => rw [Nat.blt_eq] at hq; omega, show 100 + x - 100 = x by omega]
          rw [hnm] at hw
          exact ⟨[], y, r, rfl, fun _ hw0 => (by cases hw0), hcv, zcl_0 hcy, hw, Option.some.inj h⟩
        · rename_i hbq
          split at h
          · rename_i hrg
            simp only [Bool.and_eq_true, Nat.ble_eq, Nat.blt_eq] at hrg
            obtain ⟨pre, y', suf, g1, g2, g3, g4, g5, g6⟩ := ih q h
            refine ⟨y :: pre, y', suf, by rw [g1]; rfl, fun w hw => ?_, g3, g4, g5, g6⟩
            rcases List.mem_cons.mp hw with rfl | hw
            · right
              have hwl := hts _ (zcr_w _ _ _ hcy)
              have hnm : zcname cy = zexn.getD (cy - 100) "" := by
                unfold zcname
                rw [show Nat.blt cy 100 = false by cases hq : Nat.blt cy 100 with
                  | false => rfl
                  | true => rw [Nat.blt_eq] at hq; omega]
              rw [hnm] at hwl
              exact ⟨zcl_0 hcy, _, hwl, hSt.2.2.2.2.2.1 x (cy - 100) hx5 (by omega) (fun e => Nat.ne_of_beq_eq_false hbq (by omega))⟩
            · exact g2 w hw
          · cases h
      · cases h
    · rename_i hc
      obtain ⟨pre, y', suf, g1, g2, g3, g4, g5, g6⟩ := ih q h
      refine ⟨y :: pre, y', suf, by rw [g1]; rfl, fun w hw => ?_, g3, g4, g5, g6⟩
      rcases List.mem_cons.mp hw with rfl | hw
      · left; rw [hcov]; exact hc
      · exact g2 w hw
end
