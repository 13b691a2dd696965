/-! CONSTRUCTORS: the heap as a list of what was done to it, newest first -/
/-- 0 a new cell (kind, length, -, its number), 1 an int is written (cell, place, value), 2 a reference (cell, place, -, cell), 3 null -/
abbrev zOp : Type := Nat × Nat × Nat × Int32 × Nat
def op1 (B : Nat) (q : zOp) (h : Hp) : Hp := match q with
  | (0, k, n, _, _) => znw h k n
  | (1, a, j, v, _) => zwI h (B + a) j v
  | (2, a, j, _, r) => zwR h (B + a) j (some (B + r))
  | (_ + 3, a, j, _, _) => zwR h (B + a) j none
def opH (B : Nat) (h : Hp) : List zOp → Hp
  | [] => h
  | q :: l => op1 B q (opH B h l)
def opW : List zOp → Nat → Prop
  | [], c => c = 0
  | (0, _, _, _, ix) :: l, c => c = ix + 1 ∧ opW l ix
  | (_ + 1, _) :: l, c => opW l c
def opK : List zOp → Nat → Nat × Nat
  | [], _ => (0, 0)
  | (0, k, n, _, ix) :: l, a => match Nat.beq ix a with
    | true => (k, n)
    | false => opK l a
  | (_ + 1, _) :: l, a => opK l a
def opI : List zOp → Nat → Nat → Int32
  | [], _, _ => 0
  | (0, _, _, _, ix) :: l, a, j => match Nat.beq ix a with
    | true => 0
    | false => opI l a j
  | (1, b, i, v, _) :: l, a, j => match Nat.beq b a && Nat.beq i j with
    | true => v
    | false => opI l a j
  | (_ + 2, _) :: l, a, j => opI l a j
def opR : List zOp → Nat → Nat → Option Nat
  | [], _, _ => none
  | (0, _, _, _, ix) :: l, a, j => match Nat.beq ix a with
    | true => none
    | false => opR l a j
  | (1, _) :: l, a, j => opR l a j
  | (2, b, i, _, r) :: l, a, j => match Nat.beq b a && Nat.beq i j with
    | true => some r
    | false => opR l a j
  | (_ + 3, b, i, _, _) :: l, a, j => match Nat.beq b a && Nat.beq i j with
    | true => none
    | false => opR l a j
def opS : List zOp → Nat
  | [] => 0
  | (0, _, n, _, _) :: l => opS l + n
  | (_ + 1, _) :: l => opS l
section
variable {B : Nat} {h : Hp}
theorem opW_n {l : List zOp} {c k n : Nat} {v : Int32} (w : opW l c) : opW ((0, k, n, v, c) :: l) (c + 1) := And.intro rfl w
theorem beq_f {a b : Nat} (e : Nat.beq a b = false) : a ≠ b := fun q => by rw [q, Nat.beq_refl] at e; cases e
theorem op_T (hB : zT h = B) : ∀ (l : List zOp) (c : Nat), opW l c → zT (opH B h l) = B + c
  | [], c, w => by
    have w : c = 0 := w
    rw [w]; exact hB
  | (0, k, n, v, ix) :: l, c, w => by
    obtain ⟨rfl, w⟩ : c = ix + 1 ∧ opW l ix := w
    show zT (opH B h l) + 1 = _
    rw [op_T hB l ix w]; rfl
  | (1, a, j, v, r) :: l, c, w => op_T hB l c w
  | (2, a, j, v, r) :: l, c, w => op_T hB l c w
  | (_ + 3, a, j, v, r) :: l, c, w => op_T hB l c w
theorem op_lt : ∀ (l : List zOp) (c a : Nat), opW l c → (opK l a).1 ≠ 0 → a < c
  | [], c, a, w, e => absurd rfl e
  | (0, k, n, v, ix) :: l, c, a, w, e => by
    obtain ⟨rfl, w⟩ : c = ix + 1 ∧ opW l ix := w
    unfold opK at e
    split at e
    · rename_i q
      have := Nat.eq_of_beq_eq_true q
      omega
    · have := op_lt l ix a w e
      omega
  | (t + 1, q) :: l, c, a, w, e => op_lt l c a w e
theorem op_K (hB : zT h = B) : ∀ (l : List zOp) (c a : Nat), opW l c → a < c → zK (opH B h l) (B + a) = (opK l a).1 ∧ zN (opH B h l) (B + a) = (opK l a).2
  | [], c, a, w, e => by
    have w : c = 0 := w
    omega
  | (0, k, n, v, ix) :: l, c, a, w, e => by
    obtain ⟨rfl, w⟩ : c = ix + 1 ∧ opW l ix := w
    have t := op_T hB l ix w
    unfold opK
    split
    · rename_i q
      have q := Nat.eq_of_beq_eq_true q
      subst q
      exact ⟨if_pos t.symm, if_pos t.symm⟩
    · rename_i q
      have q := beq_f q
      have n : B + a ≠ zT (opH B h l) := by rw [t]; omega
      have i := op_K hB l ix a w (by omega)
      exact ⟨(if_neg n).trans i.1, (if_neg n).trans i.2⟩
  | (1, b, j, v, r) :: l, c, a, w, e => op_K hB l c a w e
  | (2, b, j, v, r) :: l, c, a, w, e => op_K hB l c a w e
  | (_ + 3, b, j, v, r) :: l, c, a, w, e => op_K hB l c a w e
theorem beq_2 {a b i j : Nat} (e : (Nat.beq b a && Nat.beq i j) = true) : a = b ∧ j = i := by
  rw [Bool.and_eq_true] at e
  exact ⟨(Nat.eq_of_beq_eq_true e.1).symm, (Nat.eq_of_beq_eq_true e.2).symm⟩
theorem beq_2f {a b i j : Nat} (e : (Nat.beq b a && Nat.beq i j) = false) : ¬ (B + a = B + b ∧ j = i) := by
  intro q
  have q1 : a = b := by omega
  rw [q1, q.2, Nat.beq_refl, Nat.beq_refl] at e
  cases e
theorem op_I (hB : zT h = B) : ∀ (l : List zOp) (c a j : Nat), opW l c → a < c → zI (opH B h l) (B + a) j = opI l a j
  | [], c, a, j, w, e => by
    have w : c = 0 := w
    omega
  | (0, k, n, v, ix) :: l, c, a, j, w, e => by
    obtain ⟨rfl, w⟩ : c = ix + 1 ∧ opW l ix := w
    have t := op_T hB l ix w
    unfold opI
    split
    · rename_i q
      have q := Nat.eq_of_beq_eq_true q
      subst q
      exact if_pos t.symm
    · rename_i q
      have q := beq_f q
      exact (if_neg (by rw [t]; omega)).trans (op_I hB l ix a j w (by omega))
  | (1, b, i, v, r) :: l, c, a, j, w, e => by
    unfold opI
    split
    · rename_i q
      obtain ⟨rfl, rfl⟩ := beq_2 q
      exact if_pos ⟨rfl, rfl⟩
    · rename_i q
      exact (if_neg (beq_2f q)).trans (op_I hB l c a j w e)
  | (2, b, i, v, r) :: l, c, a, j, w, e => op_I hB l c a j w e
  | (_ + 3, b, i, v, r) :: l, c, a, j, w, e => op_I hB l c a j w e
theorem op_R (hB : zT h = B) : ∀ (l : List zOp) (c a j : Nat), opW l c → a < c → zR (opH B h l) (B + a) j = (opR l a j).map (fun r => B + r)
  | [], c, a, j, w, e => by
    have w : c = 0 := w
    omega
  | (0, k, n, v, ix) :: l, c, a, j, w, e => by
    obtain ⟨rfl, w⟩ : c = ix + 1 ∧ opW l ix := w
    have t := op_T hB l ix w
    unfold opR
    split
    · rename_i q
      have q := Nat.eq_of_beq_eq_true q
      subst q
      exact if_pos t.symm
    · rename_i q
      have q := beq_f q
      exact (if_neg (by rw [t]; omega)).trans (op_R hB l ix a j w (by omega))
  | (1, b, i, v, r) :: l, c, a, j, w, e => op_R hB l c a j w e
  | (2, b, i, v, r) :: l, c, a, j, w, e => by
    unfold opR
    split
    · rename_i q
      obtain ⟨rfl, rfl⟩ := beq_2 q
      exact if_pos ⟨rfl, rfl⟩
    · rename_i q
      exact (if_neg (beq_2f q)).trans (op_R hB l c a j w e)
  | (_ + 3, b, i, v, r) :: l, c, a, j, w, e => by
    unfold opR
    split
    · rename_i q
      obtain ⟨rfl, rfl⟩ := beq_2 q
      exact if_pos ⟨rfl, rfl⟩
    · rename_i q
      exact (if_neg (beq_2f q)).trans (op_R hB l c a j w e)
theorem op_b (hB : zT h = B) : ∀ (l : List zOp) (c x : Nat), opW l c → x < B → zK (opH B h l) x = zK h x ∧ zN (opH B h l) x = zN h x ∧ (∀ j, zI (opH B h l) x j = zI h x j) ∧ ∀ j, zR (opH B h l) x j = zR h x j
  | [], c, x, w, e => ⟨rfl, rfl, fun _ => rfl, fun _ => rfl⟩
  | (0, k, n, v, ix) :: l, c, x, w, e => by
    obtain ⟨rfl, w⟩ : c = ix + 1 ∧ opW l ix := w
    have t := op_T hB l ix w
    have n : x ≠ zT (opH B h l) := by rw [t]; omega
    obtain ⟨i1, i2, i3, i4⟩ := op_b hB l ix x w e
    exact ⟨(if_neg n).trans i1, (if_neg n).trans i2, fun j => (if_neg n).trans (i3 j), fun j => (if_neg n).trans (i4 j)⟩
  | (1, b, i, v, r) :: l, c, x, w, e => by
    obtain ⟨i1, i2, i3, i4⟩ := op_b hB l c x w e
    exact ⟨i1, i2, fun j => (if_neg (fun q => by omega)).trans (i3 j), i4⟩
  | (2, b, i, v, r) :: l, c, x, w, e => by
    obtain ⟨i1, i2, i3, i4⟩ := op_b hB l c x w e
    exact ⟨i1, i2, i3, fun j => (if_neg (fun q => by omega)).trans (i4 j)⟩
  | (_ + 3, b, i, v, r) :: l, c, x, w, e => by
    obtain ⟨i1, i2, i3, i4⟩ := op_b hB l c x w e
    exact ⟨i1, i2, i3, fun j => (if_neg (fun q => by omega)).trans (i4 j)⟩
theorem op_Tp (t : Tp h) : ∀ l : List zOp, Tp (opH B h l)
  | [] => t
  | (0, k, n, v, ix) :: l => (op_Tp t l).nw
  | (1, b, i, v, r) :: l => op_Tp t l
  | (2, b, i, v, r) :: l => op_Tp t l
  | (_ + 3, b, i, v, r) :: l => op_Tp t l
theorem op_C : ∀ (l : List zOp) (c : Nat), opW l c → zC (opH B h l) = zC h + c ∧ zS (opH B h l) = zS h + opS l
  | [], c, w => by
    have w : c = 0 := w
    rw [w]; exact ⟨rfl, rfl⟩
  | (0, k, n, v, ix) :: l, c, w => by
    obtain ⟨rfl, w⟩ : c = ix + 1 ∧ opW l ix := w
    obtain ⟨i1, i2⟩ := op_C l ix w
    refine ⟨?_, ?_⟩
    · show zC (opH B h l) + 1 = _
      rw [i1]; rfl
    · show zS (opH B h l) + n = zS h + (opS l + n)
      rw [i2, Nat.add_assoc]
  | (1, b, i, v, r) :: l, c, w => op_C l c w
  | (2, b, i, v, r) :: l, c, w => op_C l c w
  | (_ + 3, b, i, v, r) :: l, c, w => op_C l c w
end
