/-! THE LAW'S BRANCHES: runs over a table of some instructions -/
abbrev Tbt : Type := List (Nat × Instr × Nat)
def zfw (t : Tbt) (z : ZE) (n : Nat) : Nat → Nat → List Value → List Value → Hp → Option zRes
  | 0, pc, ls, st, h => some (.inl (pc, ls, st, h))
  | k + 1, pc, ls, st, h => match zlk pc t with
    | none => none
    | some (i, len) => match zsA z n pc i len ls st h with
      | some (.inl (pc', ls', st', h')) => zfw t z n k pc' ls' st' h'
      | _ => none
def TbL (t : Tbt) : Prop := ∀ pc x, zlk pc t = some x → zfetch 351 pc = some x
theorem TbL_of {t : Tbt} (h : ∀ q ∈ t, zfetch 351 q.1 = some q.2) : TbL t := fun pc x e => h (pc, x) (zlk_mem e)
theorem ev_fw {t : Tbt} (F : TbL t) {z : ZE} {d : Nat} : ∀ (k : Nat) {pc pc' : Nat} {ls st ls' st' : List Value} {h h' : Hp}, zfw t z 351 k pc ls st h = some (.inl (pc', ls', st', h')) → ev z d 351 pc ls st h = ev z d 351 pc' ls' st' h' := by
  intro k
  induction k with
  | zero => intro pc pc' ls st ls' st' h h' hr; cases hr; rfl
  | succ k ih =>
    intro pc pc' ls st ls' st' h h' hr
    unfold zfw at hr
    split at hr
    · cases hr
    · rename_i i len hf
      split at hr
      · rename_i hs
        rw [ev_A (F _ _ hf) hs]
        exact ih hr
      · cases hr
section
variable {t : Tbt} {z : ZE} {d : Nat} {h : Hp} {X R L b o j p cn k : Nat} {xs : Nat → Int32} {ls st : List Value} {x i bv : Int32} {w6 : Value}
theorem e_arg (F : TbL t) (q : zfw t z 351 4 p ls st h = some (.inl (p + 5, ls, .int (nI (6 * j) + nI cn) :: .ref b :: st, h))) (f : zlk (p + 5) t = some (.iaload, 1)) (s : SX b L X R o xs h) (hc : 6 * j + cn < L) (hL : L ≤ 384) : ev z d 351 p ls st h = ev z d 351 (p + 6) ls (.int (xs (6 * j + cn)) :: st) h := by
  refine (ev_fw F 4 q).trans ?_
  have e := e_iald (z := z) (d := d) (ls := ls) (r := st) (F _ _ f) (a := b) (j := nI (6 * j) + nI cn) (Or.inr s.2.1.1) (by rw [nI_add, s.2.1.2.1]; exact nI_lit ⟨hc, by omega⟩)
  rw [nI_add] at e ⊢
  rw [nI_clamp (by omega), s.2.1.2.2 _ hc] at e
  exact e
def zbz (x : Int32) : Int32 := if x = 0 then nI 0 else nI 1
theorem e_bz (F : TbL t) (f0 : zlk p t = some (.ifCond .eq 7, 3)) (q1 : zfw t z 351 2 (p + 3) ls st h = some (.inl (p + 8, ls, .int (nI 1) :: st, h))) (q0 : zfw t z 351 1 (p + 7) ls st h = some (.inl (p + 8, ls, .int (nI 0) :: st, h))) : ev z d 351 p ls (.int x :: st) h = ev z d 351 (p + 8) ls (.int (zbz x) :: st) h := by
  refine (e_if_eq (F _ _ f0) (t := p + 7) (by omega)).trans ?_
  unfold zbz
  by_cases c : x = 0
  · rw [if_pos c, if_pos c]
    exact ev_fw F 1 q0
  · rw [if_neg c, if_neg c]
    exact ev_fw F 2 q1
abbrev lsW (b X R o : Nat) (i : Int32) (v5 v6 : Value) : List Value := [.ref b, .ref X, .ref R, .ref o, .int i, v5, v6]
theorem bq_head (F : TbL t) (hR : RSk h R) (h0 : zI h R 0 = nI k)
    (q1 : zfw t z 351 2 p (lsW b X R o i (.int (nI k)) w6) [.int bv] h = some (.inl (p + 3, lsW b X R o i (.int (nI k)) (.int bv), [.ref R], h)))
    (f2 : zlk (p + 3) t = some (.invokevirtual 148, 3))
    (q3 : zfw t z 351 1 (p + 6) (lsW b X R o i (.int (nI k)) (.int bv)) [.int (nI k)] h = some (.inl (p + 8, lsW b X R o i (.int (nI k)) (.int bv), [.int (nI k), .int (nI k)], h)))
    (f4 : zlk (p + 8) t = some (.if_icmp .eq 5, 3))
    (q5 : zfw t z 351 1 (p + 13) (lsW b X R o i (.int (nI k)) (.int bv)) [] h = some (.inl (p + 15, lsW b X R o i (.int (nI k)) (.int bv), [.int (nI k)], h))) :
    ev z d 351 p (lsW b X R o i (.int (nI k)) w6) [.int bv] h = ev z d 351 (p + 15) (lsW b X R o i (.int (nI k)) (.int bv)) [.int (nI k)] h := by
  refine (ev_fw F 2 q1).trans ?_
  refine (e_K (m := 173) (rest := []) (ent := [.ref R]) (F _ _ f2) rfl rfl (zsC_v rfl rfl rfl (RSk_K hR) (Nat.le_of_ble_eq_true rfl)) rfl rfl (S_M_thrown_0 hR)).trans ?_
  rw [h0]
  refine (ev_fw F 1 q3).trans ?_
  refine (e_icmp_eq (F _ _ f4) (t := p + 13) (by omega)).trans ?_
  rw [if_pos rfl]
  exact ev_fw F 1 q5
theorem tailW (F : TbL t) (hR : RSk h R) (h0 : zI h R 0 = nI k) (hk : k = 0 → zJ h o 0 = bv.toInt64) (k3 : k ≤ 3) (ko : zK h o = 26) (no : zN h o = 1)
    (q1 : zfw t z 351 2 p (lsW b X R o i (.int (nI k)) w6) [.int bv] h = some (.inl (p + 3, lsW b X R o i (.int (nI k)) (.int bv), [.ref R], h)))
    (f2 : zlk (p + 3) t = some (.invokevirtual 148, 3))
    (q3 : zfw t z 351 1 (p + 6) (lsW b X R o i (.int (nI k)) (.int bv)) [.int (nI k)] h = some (.inl (p + 8, lsW b X R o i (.int (nI k)) (.int bv), [.int (nI k), .int (nI k)], h)))
    (f4 : zlk (p + 8) t = some (.if_icmp .eq 5, 3))
    (q5 : zfw t z 351 1 (p + 13) (lsW b X R o i (.int (nI k)) (.int bv)) [] h = some (.inl (p + 15, lsW b X R o i (.int (nI k)) (.int bv), [.int (nI k)], h)))
    (f6 : zlk (p + 15) t = some (.ifCond .ne 15, 3))
    (q7 : zfw t z 351 2 (p + 18) (lsW b X R o i (.int (nI k)) (.int bv)) [] h = some (.inl (p + 20, lsW b X R o i (.int (nI k)) (.int bv), [.int (nI 0), .ref o], h)))
    (f8 : zlk (p + 20) t = some (.laload, 1))
    (q9 : zfw t z 351 3 (p + 21) (lsW b X R o i (.int (nI k)) (.int bv)) [.long bv.toInt64] h = some (.inl (p + 25, lsW b X R o i (.int (nI k)) (.int bv), [.int (lg_cmp bv.toInt64 bv.toInt64)], h)))
    (f10 : zlk (p + 25) t = some (.ifCond .eq 5, 3))
    (q11 : zfw t z 351 1 (p + 30) (lsW b X R o i (.int (nI k)) (.int bv)) [] h = some (.inl (2944, lsW b X R o i (.int (nI k)) (.int bv), [], h))) :
    ev z d 351 p (lsW b X R o i (.int (nI k)) w6) [.int bv] h = ev z d 351 2944 (lsW b X R o i (.int (nI k)) (.int bv)) [] h := by
  refine (bq_head F hR h0 q1 f2 q3 f4 q5).trans ?_
  refine (e_if_ne (F _ _ f6) (t := p + 30) (by omega)).trans ?_
  by_cases c : k = 0
  · rw [if_pos (by rw [c]; rfl)]
    refine (ev_fw F 2 q7).trans ?_
    refine (e_laloadK (k := 0) (N := 1) (F _ _ f8) ko no ⟨by decide, by decide⟩).trans ?_
    rw [hk c]
    refine (ev_fw F 3 q9).trans ?_
    refine (e_if_eq (F _ _ f10) (t := p + 30) (by omega)).trans ?_
    rw [if_pos ((lg_cmp_eq _ _).mpr rfl)]
    exact ev_fw F 1 q11
  · rw [if_neg (nI_ne0 (by omega) (by omega))]
    exact ev_fw F 1 q11
theorem tailB (F : TbL t) (hR : RSk h R) (h0 : zI h R 0 = nI k) (hk : k = 0 → zJ h o 0 = bv.toInt64) (hb : k = 0 → bv = 0 ∨ bv = 1) (k3 : k ≤ 3) (ko : zK h o = 26) (no : zN h o = 1)
    (q1 : zfw t z 351 2 p (lsW b X R o i (.int (nI k)) w6) [.int bv] h = some (.inl (p + 3, lsW b X R o i (.int (nI k)) (.int bv), [.ref R], h)))
    (f2 : zlk (p + 3) t = some (.invokevirtual 148, 3))
    (q3 : zfw t z 351 1 (p + 6) (lsW b X R o i (.int (nI k)) (.int bv)) [.int (nI k)] h = some (.inl (p + 8, lsW b X R o i (.int (nI k)) (.int bv), [.int (nI k), .int (nI k)], h)))
    (f4 : zlk (p + 8) t = some (.if_icmp .eq 5, 3))
    (q5 : zfw t z 351 1 (p + 13) (lsW b X R o i (.int (nI k)) (.int bv)) [] h = some (.inl (p + 15, lsW b X R o i (.int (nI k)) (.int bv), [.int (nI k)], h)))
    (f6 : zlk (p + 15) t = some (.ifCond .ne 22, 3))
    (q7 : zfw t z 351 2 (p + 18) (lsW b X R o i (.int (nI k)) (.int bv)) [] h = some (.inl (p + 20, lsW b X R o i (.int (nI k)) (.int bv), [.int (nI 0), .ref o], h)))
    (f8 : zlk (p + 20) t = some (.laload, 1))
    (q9 : zfw t z 351 1 (p + 21) (lsW b X R o i (.int (nI k)) (.int bv)) [.long bv.toInt64] h = some (.inl (p + 23, lsW b X R o i (.int (nI k)) (.int bv), [.int bv, .long bv.toInt64], h)))
    (f10 : zlk (p + 23) t = some (.ifCond .eq 7, 3))
    (q11 : zfw t z 351 3 (p + 26) (lsW b X R o i (.int (nI k)) (.int bv)) [.long bv.toInt64] h = some (.inl (p + 32, lsW b X R o i (.int (nI k)) (.int bv), [.int (lg_cmp bv.toInt64 1)], h)))
    (q12 : zfw t z 351 2 (p + 30) (lsW b X R o i (.int (nI k)) (.int bv)) [.long bv.toInt64] h = some (.inl (p + 32, lsW b X R o i (.int (nI k)) (.int bv), [.int (lg_cmp bv.toInt64 0)], h)))
    (f13 : zlk (p + 32) t = some (.ifCond .eq 5, 3))
    (q14 : zfw t z 351 1 (p + 37) (lsW b X R o i (.int (nI k)) (.int bv)) [] h = some (.inl (2944, lsW b X R o i (.int (nI k)) (.int bv), [], h))) :
    ev z d 351 p (lsW b X R o i (.int (nI k)) w6) [.int bv] h = ev z d 351 2944 (lsW b X R o i (.int (nI k)) (.int bv)) [] h := by
  refine (bq_head F hR h0 q1 f2 q3 f4 q5).trans ?_
  refine (e_if_ne (F _ _ f6) (t := p + 37) (by omega)).trans ?_
  by_cases c : k = 0
  · rw [if_pos (by rw [c]; rfl)]
    refine (ev_fw F 2 q7).trans ?_
    refine (e_laloadK (k := 0) (N := 1) (F _ _ f8) ko no ⟨by decide, by decide⟩).trans ?_
    rw [hk c]
    refine (ev_fw F 1 q9).trans ?_
    refine (e_if_eq (F _ _ f10) (t := p + 30) (by omega)).trans ?_
    rcases hb c with e | e
    · rw [if_pos e]
      refine (ev_fw F 2 q12).trans ?_
      refine (e_if_eq (F _ _ f13) (t := p + 37) (by omega)).trans ?_
      rw [if_pos ((lg_cmp_eq _ _).mpr (by rw [e]; first | rfl | decide))]
      exact ev_fw F 1 q14
    · rw [if_neg (by rw [e]; decide)]
      refine (ev_fw F 3 q11).trans ?_
      refine (e_if_eq (F _ _ f13) (t := p + 37) (by omega)).trans ?_
      rw [if_pos ((lg_cmp_eq _ _).mpr (by rw [e]; first | rfl | decide))]
      exact ev_fw F 1 q14
  · rw [if_neg (nI_ne0 (by omega) (by omega))]
    exact ev_fw F 1 q14
end
/-- a branch of the switch -/
def Br (z : ZE) (b L X R o : Nat) (xs : Nat → Int32) (p : Nat) : Prop := ∀ (j : Nat) (h : Hp) (w5 w6 : Value), 6 * j + 6 ≤ L → IV z b L X R o xs j h → ∃ (w5' w6' : Value) (h' : Hp), ev z 8 351 p (lsW b X R o (nI (6 * j)) w5 w6) [] h = ev z 8 351 2944 (lsW b X R o (nI (6 * j)) w5' w6') [] h' ∧ IV z b L X R o xs (j + 1) h'
