/-! CONSTRUCTORS: running them over the list -/
abbrev zRV : Type := Nat × Int32
def rv (B : Nat) : zRV → Value
  | (0, v) => .int v
  | (1, _) => zu
  | (2, _) => .null
  | (k + 3, _) => .ref (B + k)
def crl {α : Type} (len k : Nat) (x : Option α) : Option α := match Nat.beq len k with
  | true => x
  | false => none
/-- instructions beside the heap -/
def crA (pc : Nat) (i : Instr) (len : Nat) (ls st : List zRV) : Option (Nat × List zRV × List zRV) := match i with
  | .aload_n k => crl len 1 (match ls[k.val]? with
    | some (a + 3, v) => some (pc + 1, ls, (a + 3, v) :: st)
    | _ => none)
  | .iload_n k => crl len 1 (match ls[k.val]? with
    | some (0, v) => some (pc + 1, ls, (0, v) :: st)
    | _ => none)
  | .istore_n k => crl len 1 (match st with
    | (0, v) :: r => (match Nat.blt k.val ls.length with
      | true => some (pc + 1, ls.set k.val (0, v), r)
      | false => none)
    | _ => none)
  | .iinc k c => crl len 3 (match ls[k]? with
    | some (0, v) => (match Nat.blt k ls.length with
      | true => some (pc + 3, ls.set k (0, v + Int32.ofInt c), st)
      | false => none)
    | _ => none)
  | .iconst k => crl len 1 (some (pc + 1, ls, (0, Int32.ofInt k) :: st))
  | .bipush k => crl len 2 (some (pc + 2, ls, (0, (Int8.ofInt k).toInt32) :: st))
  | .sipush k => crl len 3 (some (pc + 3, ls, (0, (Int16.ofInt k).toInt32) :: st))
  | .aconst_null => crl len 1 (some (pc + 1, ls, (2, 0) :: st))
  | .dup => crl len 1 (match st with
    | (a + 3, v) :: r => some (pc + 1, ls, (a + 3, v) :: (a + 3, v) :: r)
    | _ => none)
  | .iadd => crl len 1 (match st with
    | (0, y) :: (0, x) :: r => some (pc + 1, ls, (0, x + y) :: r)
    | _ => none)
  | .if_icmp .ge off => crl len 3 (match st with
    | (0, y) :: (0, x) :: r => (match (pc : Int) + off with
      | .ofNat t => (match decide (y ≤ x) with
        | true => some (t, ls, r)
        | false => some (pc + 3, ls, r))
      | .negSucc _ => none)
    | _ => none)
  | .goto off => crl len 3 (match (pc : Int) + off with
    | .ofNat t => some (t, ls, st)
    | .negSucc _ => none)
  | _ => none
section
variable {z : ZE} {d n pc len B c : Nat} {h : Hp} {ls st : List zRV} {i : Instr} {l : List zOp}
theorem crl_s {α : Type} {k : Nat} {x : Option α} {y : α} (e : crl len k x = some y) : len = k ∧ x = some y := by
  unfold crl at e
  split at e
  · rename_i q
    exact ⟨Nat.eq_of_beq_eq_true q, e⟩
  · cases e
theorem rv_L : ∀ (l : List zRV) (j : Nat), zisL ((l.map (rv B)).getD j zu) = false
  | [], _ => rfl
  | (0, _) :: _, 0 => rfl
  | (1, _) :: _, 0 => rfl
  | (2, _) :: _, 0 => rfl
  | (_ + 3, _) :: _, 0 => rfl
  | _ :: l, j + 1 => rv_L l j
theorem rv_put {k : Nat} {v : zRV} (hb : Nat.blt k ls.length = true) : zput (ls.map (rv B)) k (rv B v) = some ((ls.set k v).map (rv B)) := by
  unfold zput
  rw [List.length_map, hb]
  dsimp only
  cases k with
  | zero => dsimp only; rw [List.map_set]
  | succ j =>
    dsimp only
    rw [rv_L, List.map_set]
theorem rv_store {k : Nat} {v : zRV} {f : List Value → Option zRes} (hb : Nat.blt k ls.length = true) : zstore (ls.map (rv B)) k (rv B v) f = f ((ls.set k v).map (rv B)) := by
  unfold zstore
  rw [rv_put hb]
theorem crA_ok {pc' : Nat} {ls' st' : List zRV} (e : crA pc i len ls st = some (pc', ls', st')) : zsA z n pc i len (ls.map (rv B)) (st.map (rv B)) h = some (.inl (pc', ls'.map (rv B), st'.map (rv B), h)) := by
  unfold crA at e
  split at e
  · rename_i k
    obtain ⟨rfl, e⟩ := crl_s e
    split at e
    · rename_i a v hq
      cases e
      show zld (ls.map (rv B)) k.val zrf _ = _
      unfold zld
      rw [List.getElem?_map, hq]
      rfl
    · cases e
  · rename_i k
    obtain ⟨rfl, e⟩ := crl_s e
    split at e
    · rename_i v hq
      cases e
      show zld (ls.map (rv B)) k.val zisI _ = _
      unfold zld
      rw [List.getElem?_map, hq]
      rfl
    · cases e
  · rename_i k
    obtain ⟨rfl, e⟩ := crl_s e
    split at e
    · split at e
      · rename_i hb
        cases e
        show zstore (ls.map (rv B)) k.val (rv B (0, _)) _ = _
        rw [rv_store hb]
        rfl
      · cases e
    · cases e
  · rename_i k c
    obtain ⟨rfl, e⟩ := crl_s e
    split at e
    · rename_i v hq
      split at e
      · rename_i hb
        cases e
        show (match (ls.map (rv B))[k]? with
          | some (.int x) => zstore (ls.map (rv B)) k (.int (x + Int32.ofInt c)) _
          | _ => none) = _
        rw [List.getElem?_map, hq]
        show zstore (ls.map (rv B)) k (rv B (0, v + Int32.ofInt c)) _ = _
        rw [rv_store hb]
        rfl
      · cases e
    · cases e
  · obtain ⟨rfl, e⟩ := crl_s e
    cases e; rfl
  · obtain ⟨rfl, e⟩ := crl_s e
    cases e; rfl
  · obtain ⟨rfl, e⟩ := crl_s e
    cases e; rfl
  · obtain ⟨rfl, e⟩ := crl_s e
    cases e; rfl
  · obtain ⟨rfl, e⟩ := crl_s e
    split at e
    · cases e; rfl
    · cases e
  · obtain ⟨rfl, e⟩ := crl_s e
    split at e
    · cases e; rfl
    · cases e
  · rename_i off
    obtain ⟨rfl, e⟩ := crl_s e
    split at e
    · split at e
      · rename_i t ht
        show zj pc off _ = _
        unfold zj
        rw [ht]
        show (if _ ≤ _ then zgo t _ _ h else zgo (pc + 3) _ _ h) = _
        split at e
        · rename_i q
          cases e
          rw [if_pos (of_decide_eq_true q)]
          rfl
        · rename_i q
          cases e
          rw [if_neg (of_decide_eq_false q)]
          rfl
      · cases e
    · cases e
  · rename_i off
    obtain ⟨rfl, e⟩ := crl_s e
    split at e
    · rename_i t ht
      cases e
      show zj pc off _ = _
      unfold zj
      rw [ht]
      rfl
    · cases e
  · cases e
end
/-- instructions of the heap -/
def crB (n : Nat) (i : Instr) (len : Nat) (st : List zRV) (c : Nat) (l : List zOp) : Option (List zRV × Nat × List zOp) := match i with
  | .new k => crl len 3 (match zcl n k with
    | some q => (match Nat.blt q 11 with
      | true => some ((c + 3, 0) :: st, c + 1, (0, q + 1, znf q, 0, c) :: l)
      | false => none)
    | none => none)
  | .newarray .int => crl len 2 (match st with
    | (0, j) :: r => (match decide (¬ j < 0 ∧ j.toNatClampNeg ≤ 100000) with
      | true => some ((c + 3, 0) :: r, c + 1, (0, 20, j.toNatClampNeg, 0, c) :: l)
      | false => none)
    | _ => none)
  | .newarray .boolean => crl len 2 (match st with
    | (0, j) :: r => (match decide (¬ j < 0 ∧ j.toNatClampNeg ≤ 100000) with
      | true => some ((c + 3, 0) :: r, c + 1, (0, 21, j.toNatClampNeg, 0, c) :: l)
      | false => none)
    | _ => none)
  | .anewarray k => crl len 3 (match st with
    | (0, j) :: r => (match decide (¬ j < 0 ∧ j.toNatClampNeg ≤ 100000) with
      | true => (match zcl n k with
        | some q => (match Nat.beq q 0 || (Nat.beq q 1 || (Nat.beq q 6 || Nat.beq q 7)) with
          | true => some ((c + 3, 0) :: r, c + 1, (0, zak q, j.toNatClampNeg, 0, c) :: l)
          | false => none)
        | none => none)
      | false => none)
    | _ => none)
  | .putfield k => crl len 3 (match zfr n k with
    | some q => (match zfin q.1 q.2 && !(Nat.beq (zin n) q.1) || Nat.beq q.1 11 with
      | true => none
      | false => (match st with
        | (b + 3, _) :: (a + 3, _) :: r => (match Nat.beq (zfty q.1 q.2) 2 && Nat.beq (opK l a).1 (q.1 + 1) with
          | true => some (r, c, (2, a, q.2, 0, b) :: l)
          | false => none)
        | (2, _) :: (a + 3, _) :: r => (match Nat.beq (zfty q.1 q.2) 2 && Nat.beq (opK l a).1 (q.1 + 1) with
          | true => some (r, c, (3, a, q.2, 0, 0) :: l)
          | false => none)
        | (0, v) :: (a + 3, _) :: r => (match Nat.beq (opK l a).1 (q.1 + 1) && (Nat.beq (zfty q.1 q.2) 0 || (Nat.beq (zfty q.1 q.2) 1 && decide (v = 0 ∨ v = 1))) with
          | true => some (r, c, (1, a, q.2, v, 0) :: l)
          | false => none)
        | _ => none))
    | none => none)
  | .getfield k => crl len 3 (match zfr n k with
    | some q => (match st with
      | (a + 3, _) :: r => (match Nat.beq (zfty q.1 q.2) 2 && Nat.beq (opK l a).1 (q.1 + 1) with
        | true => (match opR l a q.2 with
          | some b => some ((b + 3, 0) :: r, c, l)
          | none => none)
        | false => none)
      | _ => none)
    | none => none)
  | .iastore => crl len 1 (match st with
    | (0, v) :: (0, j) :: (a + 3, _) :: r => (match Nat.beq (opK l a).1 20 && decide (¬ j < 0 ∧ j.toNatClampNeg < (opK l a).2) with
      | true => some (r, c, (1, a, j.toNatClampNeg, v, 0) :: l)
      | false => none)
    | _ => none)
  | .aastore => crl len 1 (match st with
    | (b + 3, _) :: (0, j) :: (a + 3, _) :: r => (match zkidR (opK l a).1 with
      | some kk => (match (Nat.beq kk (opK l b).1 && Nat.blt 0 kk) && decide (¬ j < 0 ∧ j.toNatClampNeg < (opK l a).2) with
        | true => some (r, c, (2, a, j.toNatClampNeg, 0, b) :: l)
        | false => none)
      | none => none)
    | _ => none)
  | _ => none
section
variable {z : ZE} {d n pc len B c : Nat} {h : Hp} {ls st : List zRV} {i : Instr} {l : List zOp}
theorem op_k (hB : zT h = B) (w : opW l c) {a k : Nat} (e : Nat.beq (opK l a).1 (k + 1) = true) : a < c ∧ zK (opH B h l) (B + a) = k + 1 ∧ zN (opH B h l) (B + a) = (opK l a).2 := by
  have e := Nat.eq_of_beq_eq_true e
  have lt := op_lt l c a w (by omega)
  obtain ⟨k1, k2⟩ := op_K hB l c a w lt
  exact ⟨lt, by omega, k2⟩
theorem crB_aa (hB : zT h = B) (w : opW l c) {a b kk : Nat} {j : Int32} (hk : zkidR (opK l a).1 = some kk) (hb : ((Nat.beq kk (opK l b).1 && Nat.blt 0 kk) && decide (¬ j < 0 ∧ j.toNatClampNeg < (opK l a).2)) = true) : zkidR (zK (opH B h l) (B + a)) = some (zK (opH B h l) (B + b)) ∧ ¬ j < 0 ∧ j.toNatClampNeg < zN (opH B h l) (B + a) := by
  rw [Bool.and_eq_true, Bool.and_eq_true] at hb
  obtain ⟨⟨hb1, hb2⟩, hb3⟩ := hb
  have hb1 := Nat.eq_of_beq_eq_true hb1
  have hb2 : 0 < kk := Nat.le_of_ble_eq_true hb2
  have ka : (opK l a).1 ≠ 0 := by
    intro q0
    rw [q0] at hk
    cases hk
  have la := op_lt l c a w ka
  have lb := op_lt l c b w (by omega)
  obtain ⟨a1, a2⟩ := op_K hB l c a w la
  obtain ⟨b1, b2⟩ := op_K hB l c b w lb
  exact ⟨by rw [a1, b1, hk, hb1], by rw [a2]; exact of_decide_eq_true hb3⟩
theorem crB_ok {st' : List zRV} {c' : Nat} {l' : List zOp} {lv : List Value} (hB : zT h = B) (w : opW l c) (hf : zfetch n pc = some (i, len)) (e : crB n i len st c l = some (st', c', l')) : ev z d n pc lv (st.map (rv B)) (opH B h l) = ev z d n (pc + len) lv (st'.map (rv B)) (opH B h l') ∧ opW l' c' := by
  have t := op_T hB l c w
  unfold crB at e
  split at e
  · rename_i k
    obtain ⟨rfl, e⟩ := crl_s e
    split at e
    · rename_i q hq
      split at e
      · rename_i hb
        cases e
        refine ⟨(e_new hf hq hb).trans ?_, opW_n w⟩
        rw [t]; rfl
      · cases e
    · cases e
  · obtain ⟨rfl, e⟩ := crl_s e
    split at e
    · split at e
      · rename_i hb
        cases e
        refine ⟨(e_newa_int hf (of_decide_eq_true hb)).trans ?_, opW_n w⟩
        rw [t]; rfl
      · cases e
    · cases e
  · obtain ⟨rfl, e⟩ := crl_s e
    split at e
    · split at e
      · rename_i hb
        cases e
        refine ⟨(e_newa_boolean hf (of_decide_eq_true hb)).trans ?_, opW_n w⟩
        rw [t]; rfl
      · cases e
    · cases e
  · obtain ⟨rfl, e⟩ := crl_s e
    split at e
    · split at e
      · rename_i hb
        split at e
        · rename_i q hq
          split at e
          · rename_i hc
            cases e
            have hc2 : q = 0 ∨ q = 1 ∨ q = 6 ∨ q = 7 := by
              rw [Bool.or_eq_true, Bool.or_eq_true, Bool.or_eq_true] at hc
              rcases hc with x | x | x | x
              · exact Or.inl (Nat.eq_of_beq_eq_true x)
              · exact Or.inr (Or.inl (Nat.eq_of_beq_eq_true x))
              · exact Or.inr (Or.inr (Or.inl (Nat.eq_of_beq_eq_true x)))
              · exact Or.inr (Or.inr (Or.inr (Nat.eq_of_beq_eq_true x)))
            refine ⟨(e_anew hf hq hc2 (of_decide_eq_true hb)).trans ?_, opW_n w⟩
            rw [t]; rfl
          · cases e
        · cases e
      · cases e
    · cases e
  · obtain ⟨rfl, e⟩ := crl_s e
    split at e
    · rename_i q hq
      split at e
      · cases e
      · rename_i hfi
        split at e
        · split at e
          · rename_i hb
            rw [Bool.and_eq_true] at hb
            obtain ⟨k1, k2, k3⟩ := op_k hB w hb.2
            cases e
            exact ⟨e_putR hf hq hfi (Nat.eq_of_beq_eq_true hb.1) k2, w⟩
          · cases e
        · split at e
          · rename_i hb
            rw [Bool.and_eq_true] at hb
            obtain ⟨k1, k2, k3⟩ := op_k hB w hb.2
            cases e
            exact ⟨e_putN hf hq hfi (Nat.eq_of_beq_eq_true hb.1) k2, w⟩
          · cases e
        · split at e
          · rename_i hb
            rw [Bool.and_eq_true, Bool.or_eq_true, Bool.and_eq_true] at hb
            obtain ⟨k1, k2, k3⟩ := op_k hB w hb.1
            cases e
            rcases hb.2 with x | x
            · exact ⟨e_putI hf hq hfi (Nat.eq_of_beq_eq_true x) k2, w⟩
            · exact ⟨e_putZ hf hq hfi (Nat.eq_of_beq_eq_true x.1) k2 (of_decide_eq_true x.2), w⟩
          · cases e
        · cases e
    · cases e
  · obtain ⟨rfl, e⟩ := crl_s e
    split at e
    · rename_i q hq
      split at e
      · split at e
        · rename_i hb
          rw [Bool.and_eq_true] at hb
          obtain ⟨k1, k2, k3⟩ := op_k hB w hb.2
          split at e
          · rename_i b hr
            cases e
            refine ⟨e_getR hf hq (Nat.eq_of_beq_eq_true hb.1) k2 ?_, w⟩
            rw [op_R hB _ _ _ _ w k1, hr]; rfl
          · cases e
        · cases e
      · cases e
    · cases e
  · obtain ⟨rfl, e⟩ := crl_s e
    split at e
    · split at e
      · rename_i hb
        rw [Bool.and_eq_true] at hb
        obtain ⟨k1, k2, k3⟩ := op_k hB w hb.1
        cases e
        exact ⟨e_iast hf k2 (by rw [k3]; exact of_decide_eq_true hb.2), w⟩
      · cases e
    · cases e
  · obtain ⟨rfl, e⟩ := crl_s e
    split at e
    · split at e
      · rename_i kk hk
        split at e
        · rename_i hb
          obtain ⟨x1, x2⟩ := crB_aa (h := h) hB w hk hb
          cases e
          exact ⟨e_aast hf x1 x2, w⟩
        · cases e
      · cases e
    · cases e
  · cases e
end
