/-! RULES OF ev -/
/-- runs of instructions that don't touch the heap -/
def zfa (z : ZE) (n : Nat) : Nat → Nat → List Value → List Value → Hp → Option zRes
  | 0, pc, ls, st, h => some (.inl (pc, ls, st, h))
  | k + 1, pc, ls, st, h => match zfetch n pc with
    | none => none
    | some (i, len) => match zsA z n pc i len ls st h with
      | some (.inl (pc', ls', st', h')) => zfa z n k pc' ls' st' h'
      | _ => none
theorem ev_A {z : ZE} {d n pc : Nat} {ls st : List Value} {h : Hp} {i : Instr} {len : Nat} {r : zRes} (hf : zfetch n pc = some (i, len)) (hs : zsA z n pc i len ls st h = some r) : ev z d n pc ls st h = evs z d n pc ls h (some r) := by
  rw [ev_step hf]
  unfold zstep
  rw [hs]
theorem ev_B {z : ZE} {d n pc : Nat} {ls st : List Value} {h : Hp} {i : Instr} {len : Nat} {r : zRes} (hf : zfetch n pc = some (i, len)) (ha : zsA z n pc i len ls st h = none) (hs : zsB z n pc i len ls st h = some r) : ev z d n pc ls st h = evs z d n pc ls h (some r) := by
  rw [ev_step hf]
  unfold zstep
  rw [ha, hs]
theorem ev_C {z : ZE} {d n pc : Nat} {ls st : List Value} {h : Hp} {i : Instr} {len : Nat} {r : zRes} (hf : zfetch n pc = some (i, len)) (ha : zsA z n pc i len ls st h = none) (hb : zsB z n pc i len ls st h = none) (hs : zsC n pc i len ls st h = some r) : ev z d n pc ls st h = evs z d n pc ls h (some r) := by
  rw [ev_step hf]
  unfold zstep
  rw [ha, hb]
  dsimp only
  rw [hs]
theorem ev_fa {z : ZE} {d n : Nat} : ∀ (k : Nat) {pc pc' : Nat} {ls st ls' st' : List Value} {h h' : Hp}, zfa z n k pc ls st h = some (.inl (pc', ls', st', h')) → ev z d n pc ls st h = ev z d n pc' ls' st' h' := by
  intro k
  induction k with
  | zero => intro pc pc' ls st ls' st' h h' hr; cases hr; rfl
  | succ k ih =>
    intro pc pc' ls st ls' st' h h' hr
    unfold zfa at hr
    split at hr
    · cases hr
    · rename_i i len hf
      split at hr
      · rename_i hs
        rw [ev_A hf hs]
        exact ih hr
      · cases hr
section
variable {z : ZE} {d n pc : Nat} {ls st r : List Value} {h : Hp}
theorem ev_Ag {i : Instr} {len pc' : Nat} {ls' st' : List Value} {h' : Hp} (hf : zfetch n pc = some (i, len)) (hs : zsA z n pc i len ls st h = some (.inl (pc', ls', st', h'))) : ev z d n pc ls st h = ev z d n pc' ls' st' h' := ev_A hf hs
theorem ev_Bg {i : Instr} {len pc' : Nat} {ls' st' : List Value} {h' : Hp} (hf : zfetch n pc = some (i, len)) (ha : zsA z n pc i len ls st h = none) (hs : zsB z n pc i len ls st h = some (.inl (pc', ls', st', h'))) : ev z d n pc ls st h = ev z d n pc' ls' st' h' := ev_B hf ha hs
theorem ev_Cg {i : Instr} {len pc' : Nat} {ls' st' : List Value} {h' : Hp} (hf : zfetch n pc = some (i, len)) (ha : zsA z n pc i len ls st h = none) (hb : zsB z n pc i len ls st h = none) (hs : zsC n pc i len ls st h = some (.inl (pc', ls', st', h'))) : ev z d n pc ls st h = ev z d n pc' ls' st' h' := ev_C hf ha hb hs
theorem ev_Ce {i : Instr} {len : Nat} {o : zO × Hp} (hf : zfetch n pc = some (i, len)) (ha : zsA z n pc i len ls st h = none) (hb : zsB z n pc i len ls st h = none) (hs : zsC n pc i len ls st h = some (.inr (.inl o))) : ev z d n pc ls st h = some o := ev_C hf ha hb hs
theorem e_br {i : Instr} {len : Nat} {P : Prop} [dP : Decidable P] {t t' : Nat} {s2 : List Value} (hf : zfetch n pc = some (i, len)) (hs : zsA z n pc i len ls st h = if P then zgo t ls s2 h else zgo t' ls s2 h) : ev z d n pc ls st h = if P then ev z d n t ls s2 h else ev z d n t' ls s2 h := by
  by_cases hp : P
  · rw [if_pos hp] at hs ⊢; exact ev_A hf hs
  · rw [if_neg hp] at hs ⊢; exact ev_A hf hs
theorem e_icmp_eq {off : Int} {t : Nat} {x y : Int32} (hf : zfetch n pc = some (.if_icmp .eq off, 3)) (ht : (pc : Int) + off = (t : Int)) : ev z d n pc ls (.int y :: .int x :: r) h = if x = y then ev z d n t ls r h else ev z d n (pc + 3) ls r h := by
  refine e_br hf ?_
  show zj pc off (fun t => zcnd .eq x y (zgo t ls r h) (zgo (pc + 3) ls r h)) = _
  unfold zj
  rw [ht]
  rfl
theorem e_if_eq {off : Int} {t : Nat} {x : Int32} (hf : zfetch n pc = some (.ifCond .eq off, 3)) (ht : (pc : Int) + off = (t : Int)) : ev z d n pc ls (.int x :: r) h = if x = 0 then ev z d n t ls r h else ev z d n (pc + 3) ls r h := by
  refine e_br hf ?_
  show zj pc off (fun t => zcnd .eq x 0 (zgo t ls r h) (zgo (pc + 3) ls r h)) = _
  unfold zj
  rw [ht]
  rfl
theorem e_icmp_ne {off : Int} {t : Nat} {x y : Int32} (hf : zfetch n pc = some (.if_icmp .ne off, 3)) (ht : (pc : Int) + off = (t : Int)) : ev z d n pc ls (.int y :: .int x :: r) h = if x = y then ev z d n (pc + 3) ls r h else ev z d n t ls r h := by
  refine e_br hf ?_
  show zj pc off (fun t => zcnd .ne x y (zgo t ls r h) (zgo (pc + 3) ls r h)) = _
  unfold zj
  rw [ht]
  rfl
theorem e_if_ne {off : Int} {t : Nat} {x : Int32} (hf : zfetch n pc = some (.ifCond .ne off, 3)) (ht : (pc : Int) + off = (t : Int)) : ev z d n pc ls (.int x :: r) h = if x = 0 then ev z d n (pc + 3) ls r h else ev z d n t ls r h := by
  refine e_br hf ?_
  show zj pc off (fun t => zcnd .ne x 0 (zgo t ls r h) (zgo (pc + 3) ls r h)) = _
  unfold zj
  rw [ht]
  rfl
theorem e_icmp_lt {off : Int} {t : Nat} {x y : Int32} (hf : zfetch n pc = some (.if_icmp .lt off, 3)) (ht : (pc : Int) + off = (t : Int)) : ev z d n pc ls (.int y :: .int x :: r) h = if x < y then ev z d n t ls r h else ev z d n (pc + 3) ls r h := by
  refine e_br hf ?_
  show zj pc off (fun t => zcnd .lt x y (zgo t ls r h) (zgo (pc + 3) ls r h)) = _
  unfold zj
  rw [ht]
  rfl
theorem e_if_lt {off : Int} {t : Nat} {x : Int32} (hf : zfetch n pc = some (.ifCond .lt off, 3)) (ht : (pc : Int) + off = (t : Int)) : ev z d n pc ls (.int x :: r) h = if x < 0 then ev z d n t ls r h else ev z d n (pc + 3) ls r h := by
  refine e_br hf ?_
  show zj pc off (fun t => zcnd .lt x 0 (zgo t ls r h) (zgo (pc + 3) ls r h)) = _
  unfold zj
  rw [ht]
  rfl
theorem e_icmp_ge {off : Int} {t : Nat} {x y : Int32} (hf : zfetch n pc = some (.if_icmp .ge off, 3)) (ht : (pc : Int) + off = (t : Int)) : ev z d n pc ls (.int y :: .int x :: r) h = if y ≤ x then ev z d n t ls r h else ev z d n (pc + 3) ls r h := by
  refine e_br hf ?_
  show zj pc off (fun t => zcnd .ge x y (zgo t ls r h) (zgo (pc + 3) ls r h)) = _
  unfold zj
  rw [ht]
  rfl
theorem e_if_ge {off : Int} {t : Nat} {x : Int32} (hf : zfetch n pc = some (.ifCond .ge off, 3)) (ht : (pc : Int) + off = (t : Int)) : ev z d n pc ls (.int x :: r) h = if 0 ≤ x then ev z d n t ls r h else ev z d n (pc + 3) ls r h := by
  refine e_br hf ?_
  show zj pc off (fun t => zcnd .ge x 0 (zgo t ls r h) (zgo (pc + 3) ls r h)) = _
  unfold zj
  rw [ht]
  rfl
theorem e_icmp_gt {off : Int} {t : Nat} {x y : Int32} (hf : zfetch n pc = some (.if_icmp .gt off, 3)) (ht : (pc : Int) + off = (t : Int)) : ev z d n pc ls (.int y :: .int x :: r) h = if y < x then ev z d n t ls r h else ev z d n (pc + 3) ls r h := by
  refine e_br hf ?_
  show zj pc off (fun t => zcnd .gt x y (zgo t ls r h) (zgo (pc + 3) ls r h)) = _
  unfold zj
  rw [ht]
  rfl
theorem e_if_gt {off : Int} {t : Nat} {x : Int32} (hf : zfetch n pc = some (.ifCond .gt off, 3)) (ht : (pc : Int) + off = (t : Int)) : ev z d n pc ls (.int x :: r) h = if 0 < x then ev z d n t ls r h else ev z d n (pc + 3) ls r h := by
  refine e_br hf ?_
  show zj pc off (fun t => zcnd .gt x 0 (zgo t ls r h) (zgo (pc + 3) ls r h)) = _
  unfold zj
  rw [ht]
  rfl
theorem e_icmp_le {off : Int} {t : Nat} {x y : Int32} (hf : zfetch n pc = some (.if_icmp .le off, 3)) (ht : (pc : Int) + off = (t : Int)) : ev z d n pc ls (.int y :: .int x :: r) h = if x ≤ y then ev z d n t ls r h else ev z d n (pc + 3) ls r h := by
  refine e_br hf ?_
  show zj pc off (fun t => zcnd .le x y (zgo t ls r h) (zgo (pc + 3) ls r h)) = _
  unfold zj
  rw [ht]
  rfl
theorem e_if_le {off : Int} {t : Nat} {x : Int32} (hf : zfetch n pc = some (.ifCond .le off, 3)) (ht : (pc : Int) + off = (t : Int)) : ev z d n pc ls (.int x :: r) h = if x ≤ 0 then ev z d n t ls r h else ev z d n (pc + 3) ls r h := by
  refine e_br hf ?_
  show zj pc off (fun t => zcnd .le x 0 (zgo t ls r h) (zgo (pc + 3) ls r h)) = _
  unfold zj
  rw [ht]
  rfl
theorem e_div {x y : Int32} (hf : zfetch n pc = some (.idiv, 1)) (hy : ¬ y = 0) : ev z d n pc ls (.int y :: .int x :: r) h = ev z d n (pc + 1) ls (.int (x / y) :: r) h := ev_Ag hf (show (if y = 0 then none else zgo (pc + 1) ls (.int (x / y) :: r) h) = _ from if_neg hy)
theorem e_rem {x y : Int32} (hf : zfetch n pc = some (.irem, 1)) (hy : ¬ y = 0) : ev z d n pc ls (.int y :: .int x :: r) h = ev z d n (pc + 1) ls (.int (x - x / y * y) :: r) h := ev_Ag hf (show (if y = 0 then none else zgo (pc + 1) ls (.int (x - x / y * y) :: r) h) = _ from if_neg hy)
theorem e_ldiv {x y : Int64} (hf : zfetch n pc = some (.ldiv, 1)) (hy : ¬ y = 0) : ev z d n pc ls (.long y :: .long x :: r) h = ev z d n (pc + 1) ls (.long (x / y) :: r) h := ev_Ag hf (show (if y = 0 then none else zgo (pc + 1) ls (.long (x / y) :: r) h) = _ from if_neg hy)
theorem e_getI {k c j a : Nat} (hf : zfetch n pc = some (.getfield k, 3)) (hq : zfr n k = some (c, j)) (ht : ∀ v w : Value, (match zfty c j with
    | 2 => v
    | _ => w) = w) (hk : zK h a = c + 1) : ev z d n pc ls (.ref a :: r) h = ev z d n (pc + 3) ls (.int (zI h a j) :: r) h := by
  refine ev_Bg hf rfl ?_
  show zop (zfr n k) _ = _
  rw [hq]
  show (if zK h a = c + 1 then zgo (pc + 3) ls (zval h c a j :: r) h else none) = _
  rw [if_pos hk]
  show some (Sum.inl (pc + 3, ls, zval h c a j :: r, h)) = _
  rw [show zval h c a j = .int (zI h a j) from ht _ _]
theorem e_getR {k c j a b : Nat} (hf : zfetch n pc = some (.getfield k, 3)) (hq : zfr n k = some (c, j)) (ht : zfty c j = 2) (hk : zK h a = c + 1) (hr : zR h a j = some b) : ev z d n pc ls (.ref a :: r) h = ev z d n (pc + 3) ls (.ref b :: r) h := by
  refine ev_Bg hf rfl ?_
  show zop (zfr n k) _ = _
  rw [hq]
  show (if zK h a = c + 1 then zgo (pc + 3) ls (zval h c a j :: r) h else none) = _
  rw [if_pos hk]
  show some (Sum.inl (pc + 3, ls, zval h c a j :: r, h)) = _
  rw [show zval h c a j = .ref b by unfold zval; rw [ht, hr]; rfl]
theorem e_getN {k c j a : Nat} (hf : zfetch n pc = some (.getfield k, 3)) (hq : zfr n k = some (c, j)) (ht : zfty c j = 2) (hk : zK h a = c + 1) (hr : zR h a j = none) : ev z d n pc ls (.ref a :: r) h = ev z d n (pc + 3) ls (.null :: r) h := by
  refine ev_Bg hf rfl ?_
  show zop (zfr n k) _ = _
  rw [hq]
  show (if zK h a = c + 1 then zgo (pc + 3) ls (zval h c a j :: r) h else none) = _
  rw [if_pos hk]
  show some (Sum.inl (pc + 3, ls, zval h c a j :: r, h)) = _
  rw [show zval h c a j = .null by unfold zval; rw [ht, hr]; rfl]
theorem e_putI {k c j a : Nat} {v : Int32} (hf : zfetch n pc = some (.putfield k, 3)) (hq : zfr n k = some (c, j)) (hfi : (zfin c j && !(Nat.beq (zin n) c) || Nat.beq c 11) = false) (ht : zfty c j = 0) (hk : zK h a = c + 1) : ev z d n pc ls (.int v :: .ref a :: r) h = ev z d n (pc + 3) ls r (zwI h a j v) := by
  refine ev_Bg hf rfl ?_
  show zop (zfr n k) _ = _
  rw [hq]
  unfold zop
  dsimp only
  rw [hfi, ht]
  exact if_pos hk
theorem e_putZ {k c j a : Nat} {v : Int32} (hf : zfetch n pc = some (.putfield k, 3)) (hq : zfr n k = some (c, j)) (hfi : (zfin c j && !(Nat.beq (zin n) c) || Nat.beq c 11) = false) (ht : zfty c j = 1) (hk : zK h a = c + 1) (hv : v = 0 ∨ v = 1) : ev z d n pc ls (.int v :: .ref a :: r) h = ev z d n (pc + 3) ls r (zwI h a j v) := by
  refine ev_Bg hf rfl ?_
  show zop (zfr n k) _ = _
  rw [hq]
  unfold zop
  dsimp only
  rw [hfi, ht]
  exact if_pos ⟨hk, hv⟩
theorem e_putR {k c j a b : Nat} (hf : zfetch n pc = some (.putfield k, 3)) (hq : zfr n k = some (c, j)) (hfi : (zfin c j && !(Nat.beq (zin n) c) || Nat.beq c 11) = false) (ht : zfty c j = 2) (hk : zK h a = c + 1) : ev z d n pc ls (.ref b :: .ref a :: r) h = ev z d n (pc + 3) ls r (zwR h a j (some b)) := by
  refine ev_Bg hf rfl ?_
  show zop (zfr n k) _ = _
  rw [hq]
  unfold zop
  dsimp only
  rw [hfi, ht]
  exact if_pos hk
theorem e_putN {k c j a : Nat} (hf : zfetch n pc = some (.putfield k, 3)) (hq : zfr n k = some (c, j)) (hfi : (zfin c j && !(Nat.beq (zin n) c) || Nat.beq c 11) = false) (ht : zfty c j = 2) (hk : zK h a = c + 1) : ev z d n pc ls (.null :: .ref a :: r) h = ev z d n (pc + 3) ls r (zwR h a j none) := by
  refine ev_Bg hf rfl ?_
  show zop (zfr n k) _ = _
  rw [hq]
  unfold zop
  dsimp only
  rw [hfi, ht]
  exact if_pos hk
/-- an index in its bounds -/
def ix (j : Int32) (N : Nat) (f : Nat → Option (zO × Hp)) : Option (zO × Hp) := if ¬ j < 0 ∧ j.toNatClampNeg < N then f j.toNatClampNeg else none
theorem ix_at {j : Int32} {N k : Nat} {f : Nat → Option (zO × Hp)} (hj : j = nI k) (hk : k < N) (hN : N < 2 ^ 31) : ix j N f = f k := by
  have hc : (nI k).toNatClampNeg = k := nI_clamp (by omega)
  unfold ix
  rw [hj, hc]
  exact if_pos ⟨nI_pos (by omega), hk⟩
theorem ix_cg {j : Int32} {N : Nat} {f g : Nat → Option (zO × Hp)} (h : ∀ k, f k = g k) : ix j N f = ix j N g := by rw [show f = g from funext h]
theorem e_alen {a : Nat} (hf : zfetch n pc = some (.arraylength, 1)) (hk : 20 ≤ zK h a ∧ zK h a ≤ 28) : ev z d n pc ls (.ref a :: r) h = ev z d n (pc + 1) ls (.int (nI (zN h a)) :: r) h := ev_Bg hf rfl (show (if 20 ≤ zK h a ∧ zK h a ≤ 28 then zgo (pc + 1) ls (.int (nI (zN h a)) :: r) h else none) = _ from if_pos hk)
theorem e_iald {a : Nat} {j : Int32} (hf : zfetch n pc = some (.iaload, 1)) (hk : zK h a = 20 ∨ zK h a = 28) (hj : ¬ j < 0 ∧ j.toNatClampNeg < zN h a) : ev z d n pc ls (.int j :: .ref a :: r) h = ev z d n (pc + 1) ls (.int (zI h a j.toNatClampNeg) :: r) h := ev_Bg hf rfl (show (if (zK h a = 20 ∨ zK h a = 28) ∧ ¬ j < 0 ∧ j.toNatClampNeg < zN h a then zgo (pc + 1) ls (.int (zI h a j.toNatClampNeg) :: r) h else none) = _ from if_pos ⟨hk, hj⟩)
theorem e_bald {a : Nat} {j : Int32} (hf : zfetch n pc = some (.baload, 1)) (hk : zK h a = 21 ∨ zK h a = 27) (hj : ¬ j < 0 ∧ j.toNatClampNeg < zN h a) : ev z d n pc ls (.int j :: .ref a :: r) h = ev z d n (pc + 1) ls (.int (zI h a j.toNatClampNeg) :: r) h := ev_Bg hf rfl (show (if (zK h a = 21 ∨ zK h a = 27) ∧ ¬ j < 0 ∧ j.toNatClampNeg < zN h a then zgo (pc + 1) ls (.int (zI h a j.toNatClampNeg) :: r) h else none) = _ from if_pos ⟨hk, hj⟩)
theorem e_lald {a : Nat} {j : Int32} (hf : zfetch n pc = some (.laload, 1)) (hk : zK h a = 26) (hj : ¬ j < 0 ∧ j.toNatClampNeg < zN h a) : ev z d n pc ls (.int j :: .ref a :: r) h = ev z d n (pc + 1) ls (.long (zJ h a j.toNatClampNeg) :: r) h := ev_Bg hf rfl (show (if zK h a = 26 ∧ ¬ j < 0 ∧ j.toNatClampNeg < zN h a then zgo (pc + 1) ls (.long (zJ h a j.toNatClampNeg) :: r) h else none) = _ from if_pos ⟨hk, hj⟩)
theorem e_aald {a b : Nat} {j : Int32} (hf : zfetch n pc = some (.aaload, 1)) (hk : 22 ≤ zK h a ∧ zK h a ≤ 25) (hj : ¬ j < 0 ∧ j.toNatClampNeg < zN h a) (hb : zR h a j.toNatClampNeg = some b) : ev z d n pc ls (.int j :: .ref a :: r) h = ev z d n (pc + 1) ls (.ref b :: r) h := ev_Bg hf rfl (show (if (22 ≤ zK h a ∧ zK h a ≤ 25) ∧ ¬ j < 0 ∧ j.toNatClampNeg < zN h a then zgo (pc + 1) ls (zrv (zR h a j.toNatClampNeg) :: r) h else none) = _ by rw [if_pos ⟨hk, hj⟩, hb]; rfl)
theorem e_iast {a : Nat} {j v : Int32} (hf : zfetch n pc = some (.iastore, 1)) (hk : zK h a = 20) (hj : ¬ j < 0 ∧ j.toNatClampNeg < zN h a) : ev z d n pc ls (.int v :: .int j :: .ref a :: r) h = ev z d n (pc + 1) ls r (zwI h a j.toNatClampNeg v) := ev_Bg hf rfl (show (if zK h a = 20 ∧ ¬ j < 0 ∧ j.toNatClampNeg < zN h a then zgo (pc + 1) ls r (zwI h a j.toNatClampNeg v) else none) = _ from if_pos ⟨hk, hj⟩)
theorem e_bast {a : Nat} {j v : Int32} (hf : zfetch n pc = some (.bastore, 1)) (hk : zK h a = 21) (hj : ¬ j < 0 ∧ j.toNatClampNeg < zN h a) (hv : v = 0 ∨ v = 1) : ev z d n pc ls (.int v :: .int j :: .ref a :: r) h = ev z d n (pc + 1) ls r (zwI h a j.toNatClampNeg v) := ev_Bg hf rfl (show (if zK h a = 21 ∧ (¬ j < 0 ∧ j.toNatClampNeg < zN h a) ∧ (v = 0 ∨ v = 1) then zgo (pc + 1) ls r (zwI h a j.toNatClampNeg v) else none) = _ from if_pos ⟨hk, hj, hv⟩)
theorem e_last {a : Nat} {j : Int32} {v : Int64} (hf : zfetch n pc = some (.lastore, 1)) (hk : zK h a = 26) (hj : ¬ j < 0 ∧ j.toNatClampNeg < zN h a) : ev z d n pc ls (.long v :: .int j :: .ref a :: r) h = ev z d n (pc + 1) ls r (zwJ h a j.toNatClampNeg v) := ev_Bg hf rfl (show (if zK h a = 26 ∧ ¬ j < 0 ∧ j.toNatClampNeg < zN h a then zgo (pc + 1) ls r (zwJ h a j.toNatClampNeg v) else none) = _ from if_pos ⟨hk, hj⟩)
theorem e_aast {a v : Nat} {j : Int32} (hf : zfetch n pc = some (.aastore, 1)) (hk : zkidR (zK h a) = some (zK h v)) (hj : ¬ j < 0 ∧ j.toNatClampNeg < zN h a) : ev z d n pc ls (.ref v :: .int j :: .ref a :: r) h = ev z d n (pc + 1) ls r (zwR h a j.toNatClampNeg (some v)) := ev_Bg hf rfl (show (if zkidR (zK h a) = some (zK h v) ∧ ¬ j < 0 ∧ j.toNatClampNeg < zN h a then zgo (pc + 1) ls r (zwR h a j.toNatClampNeg (some v)) else none) = _ from if_pos ⟨hk, hj⟩)
theorem e_newa_int {j : Int32} (hf : zfetch n pc = some (.newarray .int, 2)) (hj : ¬ j < 0 ∧ j.toNatClampNeg ≤ 100000) : ev z d n pc ls (.int j :: r) h = ev z d n (pc + 2) ls (.ref (zT h) :: r) (znw h 20 j.toNatClampNeg) := ev_Bg hf rfl (show (if ¬ j < 0 ∧ j.toNatClampNeg ≤ 100000 then zgo (pc + 2) ls (.ref (zT h) :: r) (znw h 20 j.toNatClampNeg) else none) = _ from if_pos hj)
theorem e_newa_boolean {j : Int32} (hf : zfetch n pc = some (.newarray .boolean, 2)) (hj : ¬ j < 0 ∧ j.toNatClampNeg ≤ 100000) : ev z d n pc ls (.int j :: r) h = ev z d n (pc + 2) ls (.ref (zT h) :: r) (znw h 21 j.toNatClampNeg) := ev_Bg hf rfl (show (if ¬ j < 0 ∧ j.toNatClampNeg ≤ 100000 then zgo (pc + 2) ls (.ref (zT h) :: r) (znw h 21 j.toNatClampNeg) else none) = _ from if_pos hj)
theorem e_newa_long {j : Int32} (hf : zfetch n pc = some (.newarray .long, 2)) (hj : ¬ j < 0 ∧ j.toNatClampNeg ≤ 100000) : ev z d n pc ls (.int j :: r) h = ev z d n (pc + 2) ls (.ref (zT h) :: r) (znw h 26 j.toNatClampNeg) := ev_Bg hf rfl (show (if ¬ j < 0 ∧ j.toNatClampNeg ≤ 100000 then zgo (pc + 2) ls (.ref (zT h) :: r) (znw h 26 j.toNatClampNeg) else none) = _ from if_pos hj)
def zak : Nat → Nat
  | 0 => 22
  | 1 => 23
  | 6 => 24
  | _ => 25
theorem e_anew {k ci : Nat} {j : Int32} (hf : zfetch n pc = some (.anewarray k, 3)) (hc : zcl n k = some ci) (hci : ci = 0 ∨ ci = 1 ∨ ci = 6 ∨ ci = 7) (hj : ¬ j < 0 ∧ j.toNatClampNeg ≤ 100000) : ev z d n pc ls (.int j :: r) h = ev z d n (pc + 3) ls (.ref (zT h) :: r) (znw h (zak ci) j.toNatClampNeg) := by
  refine ev_Bg hf rfl ?_
  show (if ¬ j < 0 ∧ j.toNatClampNeg ≤ 100000 then (match zcl n k with
    | some 0 => zgo (pc + 3) ls (.ref (zT h) :: r) (znw h 22 j.toNatClampNeg)
    | some 1 => zgo (pc + 3) ls (.ref (zT h) :: r) (znw h 23 j.toNatClampNeg)
    | some 6 => zgo (pc + 3) ls (.ref (zT h) :: r) (znw h 24 j.toNatClampNeg)
    | some 7 => zgo (pc + 3) ls (.ref (zT h) :: r) (znw h 25 j.toNatClampNeg)
    | _ => none) else none) = _
  rw [if_pos hj, hc]
  rcases hci with rfl | rfl | rfl | rfl <;> rfl
theorem e_new {k ci : Nat} (hf : zfetch n pc = some (.new k, 3)) (hc : zcl n k = some ci) (hci : Nat.blt ci 11 = true) : ev z d n pc ls st h = ev z d n (pc + 3) ls (.ref (zT h) :: st) (znw h (ci + 1) (znf ci)) := by
  refine ev_Cg hf rfl rfl ?_
  show zop (zcl n k) _ = _
  rw [hc]
  unfold zop
  dsimp only
  rw [hci]
  rfl
theorem e_throw {k ci : Nat} (hf : zfetch n pc = some (.new k, 3)) (hc : zcl n k = some ci) (hci : Nat.blt ci 11 = false) (ht : (Nat.ble 100 ci && zthr n pc (ci - 100)) = true) : ev z d n pc ls [] h = some (.inr (ci - 100), znw h 0 6) := by
  refine ev_Ce hf rfl rfl ?_
  show zop (zcl n k) _ = _
  rw [hc]
  unfold zop
  dsimp only
  rw [hci, ht]
  rfl
theorem e_obj {k a : Nat} (hf : zfetch n pc = some (.invokespecial k, 3)) (hm : zmr n k = some 1000) (hr : r.length ≤ 4) : ev z d n pc ls (.ref a :: r) h = ev z d n (pc + 3) ls r h := by
  refine ev_Cg hf rfl rfl ?_
  show zop (zmr n k) _ = _
  rw [hm]
  exact if_pos hr
theorem e_copy {k a b : Nat} {sp dp c : Int32} (hf : zfetch n pc = some (.invokestatic k, 3)) (hm : zmr n k = some 1001) (ha : zK h a = 20) (hb : zK h b = 20) (hab : a ≠ b) (h1 : ¬ sp < 0 ∧ ¬ dp < 0 ∧ ¬ c < 0) (h2 : sp.toNatClampNeg + c.toNatClampNeg ≤ zN h a) (h3 : dp.toNatClampNeg + c.toNatClampNeg ≤ zN h b) (hr : r.length ≤ 4) : ev z d n pc ls (.int c :: .int dp :: .ref b :: .int sp :: .ref a :: r) h = ev z d n (pc + 3) ls r (zcpy h a sp.toNatClampNeg b dp.toNatClampNeg c.toNatClampNeg) := by
  refine ev_Cg hf rfl rfl ?_
  show zop (zmr n k) _ = _
  rw [hm]
  exact if_pos ⟨⟨ha, hb, hab⟩, h1, h2, h3, hr⟩
theorem e_ireti {x : Int32} (hf : zfetch n pc = some (.ireturn, 1)) (hr : zret n = some .int) : ev z d n pc ls [.int x] h = some (.inl (some (.int x)), h) := by
  refine ev_Ce hf rfl rfl ?_
  show zop (zret n) _ = _
  rw [hr]
  exact if_pos rfl
theorem e_iretz {x : Int32} (hf : zfetch n pc = some (.ireturn, 1)) (hr : zret n = some .boolean) (hx : x = 0 ∨ x = 1) : ev z d n pc ls [.int x] h = some (.inl (some (.int x)), h) := by
  refine ev_Ce hf rfl rfl ?_
  show zop (zret n) _ = _
  rw [hr]
  exact if_pos (zbool_nf hx).1
theorem e_iretn {x : Int32} {ty : FieldType} (hf : zfetch n pc = some (.ireturn, 1)) (hr : zret n = some ty) (hx : narrow ty (.int x) = .int x) : ev z d n pc ls [.int x] h = some (.inl (some (.int x)), h) := by
  refine ev_Ce hf rfl rfl ?_
  show zop (zret n) _ = _
  rw [hr]
  exact if_pos hx
theorem e_lret {x : Int64} (hf : zfetch n pc = some (.lreturn, 1)) (hr : zret n = some .long) : ev z d n pc ls [.long x] h = some (.inl (some (.long x)), h) := by
  refine ev_Ce hf rfl rfl ?_
  show (match zret n with
      | some .long => (some (.inr (.inl (.inl (some (Value.long x)), h))) : Option zRes)
      | _ => none) = _
  rw [hr]
theorem e_aret {a : Nat} {nm : String} (hf : zfetch n pc = some (.areturn, 1)) (hr : zret n = some (.object nm)) : ev z d n pc ls [.ref a] h = some (.inl (some (.ref a)), h) := by
  refine ev_Ce hf rfl rfl ?_
  show (match zret n with
      | some (.object _) => (some (.inr (.inl (.inl (some (Value.ref a)), h))) : Option zRes)
      | _ => none) = _
  rw [hr]
theorem e_vret (hf : zfetch n pc = some (.return_, 1)) (hr : zret n = none) : ev z d n pc ls [] h = some (.inl none, h) := by
  refine ev_Ce hf rfl rfl ?_
  show (match zret n with
      | none => (some (.inr (.inl (.inl none, h))) : Option zRes)
      | _ => none) = _
  rw [hr]
/-- calls -/
theorem ev_call {i : Instr} {len m d' : Nat} {as rest : List Value} (hf : zfetch n pc = some (i, len)) (ha : zsA z n pc i len ls st h = none) (hb : zsB z n pc i len ls st h = none) (hs : zsC n pc i len ls st h = some (.inr (.inr (m, as, rest)))) (hd : zdep d n m as = some d') {v : Option Value} {h1 : Hp} (hc : ev z d' m 0 (zent m as) [] h = some (.inl v, h1)) : ev z d n pc ls st h = ev z d n (pc + 3) ls (v.toList ++ rest) h1 := by
  rw [ev_C hf ha hb hs]
  unfold evs
  dsimp only
  rw [hd]
  dsimp only
  rw [hc]
  rfl
theorem ev_callX {i : Instr} {len m d' : Nat} {as rest : List Value} (hf : zfetch n pc = some (i, len)) (ha : zsA z n pc i len ls st h = none) (hb : zsB z n pc i len ls st h = none) (hs : zsC n pc i len ls st h = some (.inr (.inr (m, as, rest)))) (hd : zdep d n m as = some d') (hi : Nat.blt (zin m) 99 = false) {x : Nat} {h1 : Hp} (hc : ev z d' m 0 (zent m as) [] h = some (.inr x, h1)) : ev z d n pc ls st h = evx z d n pc ls x h1 := by
  rw [ev_C hf ha hb hs]
  unfold evs
  dsimp only
  rw [hd]
  dsimp only
  rw [hc]
  unfold zbd
  dsimp only
  rw [hi]
theorem zsC_v {k m a : Nat} {rest : List Value} (hm : zmr n k = some m) (hg : (Nat.blt m 351 && !zstc m && Nat.beq (zin m) 99 && Nat.ble (zpar m) st.length) = true) (hd : st.drop (zpar m) = .ref a :: rest) (hk : zK h a = zown m + 1) (hr : rest.length ≤ 4) : zsC n pc (.invokevirtual k) 3 ls st h = some (.inr (.inr (m, .ref a :: (st.take (zpar m)).reverse, rest))) := by
  show zop (zmr n k) _ = _
  rw [hm]
  unfold zop
  dsimp only
  rw [hg]
  dsimp only
  rw [hd]
  exact if_pos ⟨hk, hr⟩
theorem zsC_i {k m a : Nat} {rest : List Value} (hm : zmr n k = some m) (h0 : Nat.beq m 1000 = false) (hg : (Nat.blt m 351 && !zstc m && Nat.beq (zin m) (zown m) && Nat.ble (zpar m) st.length) = true) (hd : st.drop (zpar m) = .ref a :: rest) (hk : zK h a = zown m + 1) (hr : rest.length ≤ 4) : zsC n pc (.invokespecial k) 3 ls st h = some (.inr (.inr (m, .ref a :: (st.take (zpar m)).reverse, rest))) := by
  show zop (zmr n k) _ = _
  rw [hm]
  unfold zop
  dsimp only
  rw [h0]
  dsimp only
  rw [hg]
  dsimp only
  rw [hd]
  exact if_pos ⟨hk, hr⟩
end
