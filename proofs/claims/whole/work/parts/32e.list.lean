/-! THE CLASS'S CONSTRUCTOR: lists in which a whole port is one operation (4, -, -, -, its first cell) -/
def qH (B : Nat) (h : Hp) : List zOp → Hp
  | [] => h
  | (_ + 4, _, _, _, ix) :: l => opH (B + ix) (qH B h l) portL
  | q :: l => op1 B q (qH B h l)
def qW : List zOp → Nat → Prop
  | [], c => c = 0
  | (0, _, _, _, ix) :: l, c => c = ix + 1 ∧ qW l ix
  | (1, _) :: l, c => qW l c
  | (2, _) :: l, c => qW l c
  | (3, _) :: l, c => qW l c
  | (_ + 4, _, _, _, ix) :: l, c => c = ix + 28 ∧ qW l ix
def qK : List zOp → Nat → Nat × Nat
  | [], _ => (0, 0)
  | (0, k, n, _, ix) :: l, a => match Nat.beq ix a with
    | true => (k, n)
    | false => qK l a
  | (1, _) :: l, a => qK l a
  | (2, _) :: l, a => qK l a
  | (3, _) :: l, a => qK l a
  | (_ + 4, _, _, _, ix) :: l, a => match Nat.ble ix a && Nat.blt a (ix + 28) with
    | true => opK portL (a - ix)
    | false => qK l a
def qI : List zOp → Nat → Nat → Int32
  | [], _, _ => 0
  | (0, _, _, _, ix) :: l, a, j => match Nat.beq ix a with
    | true => 0
    | false => qI l a j
  | (1, b, i, v, _) :: l, a, j => match Nat.beq b a && Nat.beq i j with
    | true => v
    | false => qI l a j
  | (2, _) :: l, a, j => qI l a j
  | (3, _) :: l, a, j => qI l a j
  | (_ + 4, _, _, _, ix) :: l, a, j => match Nat.ble ix a && Nat.blt a (ix + 28) with
    | true => opI portL (a - ix) j
    | false => qI l a j
def qR : List zOp → Nat → Nat → Option Nat
  | [], _, _ => none
  | (0, _, _, _, ix) :: l, a, j => match Nat.beq ix a with
    | true => none
    | false => qR l a j
  | (1, _) :: l, a, j => qR l a j
  | (2, b, i, _, r) :: l, a, j => match Nat.beq b a && Nat.beq i j with
    | true => some r
    | false => qR l a j
  | (3, b, i, _, _) :: l, a, j => match Nat.beq b a && Nat.beq i j with
    | true => none
    | false => qR l a j
  | (_ + 4, _, _, _, ix) :: l, a, j => match Nat.ble ix a && Nat.blt a (ix + 28) with
    | true => (opR portL (a - ix) j).map (fun r => ix + r)
    | false => qR l a j
def qS : List zOp → Nat
  | [] => 0
  | (0, _, n, _, _) :: l => qS l + n
  | (1, _) :: l => qS l
  | (2, _) :: l => qS l
  | (3, _) :: l => qS l
  | (_ + 4, _) :: l => qS l + opS portL
section
variable {B : Nat} {h : Hp}
theorem qW_n {l : List zOp} {c k n : Nat} {v : Int32} (w : qW l c) : qW ((0, k, n, v, c) :: l) (c + 1) := And.intro rfl w
theorem qW_p {l : List zOp} {c k n : Nat} {v : Int32} (w : qW l c) : qW ((4, k, n, v, c) :: l) (c + 28) := And.intro rfl w
theorem bl_t {ix a c : Nat} (e : (Nat.ble ix a && Nat.blt a c) = true) : ix ≤ a ∧ a < c := by
  rw [Bool.and_eq_true] at e
  exact ⟨Nat.le_of_ble_eq_true e.1, Nat.le_of_ble_eq_true e.2⟩
theorem bl_f {ix a : Nat} (e : (Nat.ble ix a && Nat.blt a (ix + 28)) = false) (lt : a < ix + 28) : a < ix := by
  by_cases c : ix ≤ a
  · have e1 : Nat.ble ix a = true := Nat.ble_eq_true_of_le c
    have e2 : Nat.blt a (ix + 28) = true := Nat.ble_eq_true_of_le lt
    rw [e1, e2] at e
    cases e
  · omega
theorem q_T (hB : zT h = B) : ∀ (l : List zOp) (c : Nat), qW l c → zT (qH B h l) = B + c
  | [], c, w => by
    have w : c = 0 := w
    rw [w]; exact hB
  | (0, k, n, v, ix) :: l, c, w => by
    obtain ⟨rfl, w⟩ : c = ix + 1 ∧ qW l ix := w
    show zT (qH B h l) + 1 = _
    rw [q_T hB l ix w]; rfl
  | (1, a, j, v, r) :: l, c, w => q_T hB l c w
  | (2, a, j, v, r) :: l, c, w => q_T hB l c w
  | (3, a, j, v, r) :: l, c, w => q_T hB l c w
  | (_ + 4, a, j, v, ix) :: l, c, w => by
    obtain ⟨rfl, w⟩ : c = ix + 28 ∧ qW l ix := w
    exact (op_T (q_T hB l ix w) portL 28 port_w).trans (Nat.add_assoc _ _ _)
theorem q_lt : ∀ (l : List zOp) (c a : Nat), qW l c → (qK l a).1 ≠ 0 → a < c
  | [], c, a, w, e => absurd rfl e
  | (0, k, n, v, ix) :: l, c, a, w, e => by
    obtain ⟨rfl, w⟩ : c = ix + 1 ∧ qW l ix := w
    unfold qK at e
    split at e
    · rename_i q
      have := Nat.eq_of_beq_eq_true q
      omega
    · have := q_lt l ix a w e
      omega
  | (1, q) :: l, c, a, w, e => q_lt l c a w e
  | (2, q) :: l, c, a, w, e => q_lt l c a w e
  | (3, q) :: l, c, a, w, e => q_lt l c a w e
  | (_ + 4, a0, j, v, ix) :: l, c, a, w, e => by
    obtain ⟨rfl, w⟩ : c = ix + 28 ∧ qW l ix := w
    unfold qK at e
    split at e
    · rename_i q
      exact (bl_t q).2
    · have := q_lt l ix a w e
      omega
theorem q_K (hB : zT h = B) : ∀ (l : List zOp) (c a : Nat), qW l c → a < c → zK (qH B h l) (B + a) = (qK l a).1 ∧ zN (qH B h l) (B + a) = (qK l a).2
  | [], c, a, w, e => by
    have w : c = 0 := w
    omega
  | (0, k, n, v, ix) :: l, c, a, w, e => by
    obtain ⟨rfl, w⟩ : c = ix + 1 ∧ qW l ix := w
    have t := q_T hB l ix w
    unfold qK
    split
    · rename_i q
      have q := Nat.eq_of_beq_eq_true q
      subst q
      exact ⟨if_pos t.symm, if_pos t.symm⟩
    · rename_i q
      have q := beq_f q
      have n : B + a ≠ zT (qH B h l) := by rw [t]; omega
      have i := q_K hB l ix a w (by omega)
      exact ⟨(if_neg n).trans i.1, (if_neg n).trans i.2⟩
  | (1, b, j, v, r) :: l, c, a, w, e => q_K hB l c a w e
  | (2, b, j, v, r) :: l, c, a, w, e => q_K hB l c a w e
  | (3, b, j, v, r) :: l, c, a, w, e => q_K hB l c a w e
  | (_ + 4, b, j, v, ix) :: l, c, a, w, e => by
    obtain ⟨rfl, w⟩ : c = ix + 28 ∧ qW l ix := w
    have t := q_T hB l ix w
    unfold qK
    split
    · rename_i q
      have q := bl_t q
      have i := op_K t portL 28 (a - ix) port_w (by omega)
      rw [show B + ix + (a - ix) = B + a by omega] at i
      exact i
    · rename_i q
      have q := bl_f q e
      have i := q_K hB l ix a w q
      obtain ⟨j1, j2, -⟩ := op_b t portL 28 (B + a) port_w (by omega)
      exact ⟨j1.trans i.1, j2.trans i.2⟩
theorem q_I (hB : zT h = B) : ∀ (l : List zOp) (c a j : Nat), qW l c → a < c → zI (qH B h l) (B + a) j = qI l a j
  | [], c, a, j, w, e => by
    have w : c = 0 := w
    omega
  | (0, k, n, v, ix) :: l, c, a, j, w, e => by
    obtain ⟨rfl, w⟩ : c = ix + 1 ∧ qW l ix := w
    have t := q_T hB l ix w
    unfold qI
    split
    · rename_i q
      have q := Nat.eq_of_beq_eq_true q
      subst q
      exact if_pos t.symm
    · rename_i q
      have q := beq_f q
      exact (if_neg (by rw [t]; omega)).trans (q_I hB l ix a j w (by omega))
  | (1, b, i, v, r) :: l, c, a, j, w, e => by
    unfold qI
    split
    · rename_i q
      obtain ⟨rfl, rfl⟩ := beq_2 q
      exact if_pos ⟨rfl, rfl⟩
    · rename_i q
      exact (if_neg (beq_2f q)).trans (q_I hB l c a j w e)
  | (2, b, i, v, r) :: l, c, a, j, w, e => q_I hB l c a j w e
  | (3, b, i, v, r) :: l, c, a, j, w, e => q_I hB l c a j w e
  | (_ + 4, b, i, v, ix) :: l, c, a, j, w, e => by
    obtain ⟨rfl, w⟩ : c = ix + 28 ∧ qW l ix := w
    have t := q_T hB l ix w
    unfold qI
    split
    · rename_i q
      have q := bl_t q
      have i := op_I t portL 28 (a - ix) j port_w (by omega)
      rw [show B + ix + (a - ix) = B + a by omega] at i
      exact i
    · rename_i q
      have q := bl_f q e
      exact ((op_b t portL 28 (B + a) port_w (by omega)).2.2.1 j).trans (q_I hB l ix a j w q)
theorem q_R (hB : zT h = B) : ∀ (l : List zOp) (c a j : Nat), qW l c → a < c → zR (qH B h l) (B + a) j = (qR l a j).map (fun r => B + r)
  | [], c, a, j, w, e => by
    have w : c = 0 := w
    omega
  | (0, k, n, v, ix) :: l, c, a, j, w, e => by
    obtain ⟨rfl, w⟩ : c = ix + 1 ∧ qW l ix := w
    have t := q_T hB l ix w
    unfold qR
    split
    · rename_i q
      have q := Nat.eq_of_beq_eq_true q
      subst q
      exact if_pos t.symm
    · rename_i q
      have q := beq_f q
      exact (if_neg (by rw [t]; omega)).trans (q_R hB l ix a j w (by omega))
  | (1, b, i, v, r) :: l, c, a, j, w, e => q_R hB l c a j w e
  | (2, b, i, v, r) :: l, c, a, j, w, e => by
    unfold qR
    split
    · rename_i q
      obtain ⟨rfl, rfl⟩ := beq_2 q
      exact if_pos ⟨rfl, rfl⟩
    · rename_i q
      exact (if_neg (beq_2f q)).trans (q_R hB l c a j w e)
  | (3, b, i, v, r) :: l, c, a, j, w, e => by
    unfold qR
    split
    · rename_i q
      obtain ⟨rfl, rfl⟩ := beq_2 q
      exact if_pos ⟨rfl, rfl⟩
    · rename_i q
      exact (if_neg (beq_2f q)).trans (q_R hB l c a j w e)
  | (_ + 4, b, i, v, ix) :: l, c, a, j, w, e => by
    obtain ⟨rfl, w⟩ : c = ix + 28 ∧ qW l ix := w
    have t := q_T hB l ix w
    unfold qR
    split
    · rename_i q
      have q := bl_t q
      have i := op_R t portL 28 (a - ix) j port_w (by omega)
      rw [show B + ix + (a - ix) = B + a by omega] at i
      refine i.trans ?_
      cases opR portL (a - ix) j with
      | none => rfl
      | some r => exact congrArg some (Nat.add_assoc _ _ _)
    · rename_i q
      have q := bl_f q e
      exact ((op_b t portL 28 (B + a) port_w (by omega)).2.2.2 j).trans (q_R hB l ix a j w q)
theorem q_b (hB : zT h = B) : ∀ (l : List zOp) (c x : Nat), qW l c → x < B → zK (qH B h l) x = zK h x ∧ zN (qH B h l) x = zN h x ∧ (∀ j, zI (qH B h l) x j = zI h x j) ∧ ∀ j, zR (qH B h l) x j = zR h x j
  | [], c, x, w, e => ⟨rfl, rfl, fun _ => rfl, fun _ => rfl⟩
  | (0, k, n, v, ix) :: l, c, x, w, e => by
    obtain ⟨rfl, w⟩ : c = ix + 1 ∧ qW l ix := w
    have t := q_T hB l ix w
    have n : x ≠ zT (qH B h l) := by rw [t]; omega
    obtain ⟨i1, i2, i3, i4⟩ := q_b hB l ix x w e
    exact ⟨(if_neg n).trans i1, (if_neg n).trans i2, fun j => (if_neg n).trans (i3 j), fun j => (if_neg n).trans (i4 j)⟩
  | (1, b, i, v, r) :: l, c, x, w, e => by
    obtain ⟨i1, i2, i3, i4⟩ := q_b hB l c x w e
    exact ⟨i1, i2, fun j => (if_neg (fun q => by omega)).trans (i3 j), i4⟩
  | (2, b, i, v, r) :: l, c, x, w, e => by
    obtain ⟨i1, i2, i3, i4⟩ := q_b hB l c x w e
    exact ⟨i1, i2, i3, fun j => (if_neg (fun q => by omega)).trans (i4 j)⟩
  | (3, b, i, v, r) :: l, c, x, w, e => by
    obtain ⟨i1, i2, i3, i4⟩ := q_b hB l c x w e
    exact ⟨i1, i2, i3, fun j => (if_neg (fun q => by omega)).trans (i4 j)⟩
  | (_ + 4, b, i, v, ix) :: l, c, x, w, e => by
    obtain ⟨rfl, w⟩ : c = ix + 28 ∧ qW l ix := w
    have t := q_T hB l ix w
    obtain ⟨i1, i2, i3, i4⟩ := q_b hB l ix x w e
    obtain ⟨j1, j2, j3, j4⟩ := op_b t portL 28 x port_w (by omega)
    exact ⟨j1.trans i1, j2.trans i2, fun j => (j3 j).trans (i3 j), fun j => (j4 j).trans (i4 j)⟩
theorem q_Tp (t : Tp h) : ∀ l : List zOp, Tp (qH B h l)
  | [] => t
  | (0, k, n, v, ix) :: l => (q_Tp t l).nw
  | (1, b, i, v, r) :: l => q_Tp t l
  | (2, b, i, v, r) :: l => q_Tp t l
  | (3, b, i, v, r) :: l => q_Tp t l
  | (_ + 4, b, i, v, r) :: l => op_Tp (q_Tp t l) portL
theorem q_C : ∀ (l : List zOp) (c : Nat), qW l c → zC (qH B h l) = zC h + c ∧ zS (qH B h l) = zS h + qS l
  | [], c, w => by
    have w : c = 0 := w
    rw [w]; exact ⟨rfl, rfl⟩
  | (0, k, n, v, ix) :: l, c, w => by
    obtain ⟨rfl, w⟩ : c = ix + 1 ∧ qW l ix := w
    obtain ⟨i1, i2⟩ := q_C l ix w
    refine ⟨?_, ?_⟩
    · show zC (qH B h l) + 1 = _
      rw [i1]; rfl
    · show zS (qH B h l) + n = zS h + (qS l + n)
      rw [i2, Nat.add_assoc]
  | (1, b, i, v, r) :: l, c, w => q_C l c w
  | (2, b, i, v, r) :: l, c, w => q_C l c w
  | (3, b, i, v, r) :: l, c, w => q_C l c w
  | (_ + 4, b, i, v, ix) :: l, c, w => by
    obtain ⟨rfl, w⟩ : c = ix + 28 ∧ qW l ix := w
    obtain ⟨i1, i2⟩ := q_C l ix w
    obtain ⟨j1, j2⟩ := op_C (B := B + ix) (h := qH B h l) portL 28 port_w
    refine ⟨?_, ?_⟩
    · refine j1.trans ?_
      rw [i1, Nat.add_assoc]
    · refine j2.trans ?_
      rw [i2, Nat.add_assoc]
      rfl
end
