/-! THE START: the constructors run, and what is found -/
def okK (c : Nat) (l : List zOp) (i : Nat) (t : List (Nat × Nat)) : Bool := t.all (fun q => Nat.blt (i + q.1) c && Nat.beq (qK l (i + q.1)).1 q.2)
def okNn (c : Nat) (l : List zOp) (i : Nat) (t : List (Nat × Nat)) : Bool := t.all (fun q => Nat.blt (i + q.1) c && Nat.beq (qK l (i + q.1)).2 q.2)
def okR (c : Nat) (l : List zOp) (i : Nat) (t : List (Nat × Nat × Nat)) : Bool := t.all (fun q => Nat.blt (i + q.1) c && (match qR l (i + q.1) q.2.1 with
  | some r => Nat.beq r (i + q.2.2)
  | none => false))
def okI (c : Nat) (l : List zOp) (i : Nat) (t : List (Nat × Nat × Int32)) : Bool := t.all (fun q => Nat.blt (i + q.1) c && decide (qI l (i + q.1) q.2.1 = q.2.2))
def qB : List zOp → Nat → Nat → Bool
  | [], _, _ => true
  | (0, _) :: l, a, N => qB l a N
  | (1, b, j, _, _) :: l, a, N => (!(Nat.beq b a) || Nat.blt j N) && qB l a N
  | (2, _) :: l, a, N => qB l a N
  | (3, _) :: l, a, N => qB l a N
  | (_ + 4, _, _, _, ix) :: l, a, N => (Nat.blt a ix || Nat.ble (ix + 28) a) && qB l a N
section
variable {B : Nat} {h : Hp} {c : Nat} {l : List zOp} {i : Nat}
theorem gK (hB : zT h = B) (w : qW l c) {t : List (Nat × Nat)} (F : okK c l i t = true) : ∀ q ∈ t, zK (qH B h l) (B + i + q.1) = q.2 := by
  intro q hq
  have e := List.all_eq_true.mp F q hq
  rw [Bool.and_eq_true] at e
  rw [Nat.add_assoc, (q_K hB l c _ w (Nat.le_of_ble_eq_true e.1)).1]
  exact Nat.eq_of_beq_eq_true e.2
theorem gN (hB : zT h = B) (w : qW l c) {t : List (Nat × Nat)} (F : okNn c l i t = true) : ∀ q ∈ t, zN (qH B h l) (B + i + q.1) = q.2 := by
  intro q hq
  have e := List.all_eq_true.mp F q hq
  rw [Bool.and_eq_true] at e
  rw [Nat.add_assoc, (q_K hB l c _ w (Nat.le_of_ble_eq_true e.1)).2]
  exact Nat.eq_of_beq_eq_true e.2
theorem gR (hB : zT h = B) (w : qW l c) {t : List (Nat × Nat × Nat)} (F : okR c l i t = true) : ∀ q ∈ t, zR (qH B h l) (B + i + q.1) q.2.1 = some (B + i + q.2.2) := by
  intro q hq
  have e := List.all_eq_true.mp F q hq
  rw [Bool.and_eq_true] at e
  obtain ⟨e1, e2⟩ := e
  rw [Nat.add_assoc, q_R hB l c _ _ w (Nat.le_of_ble_eq_true e1)]
  split at e2
  · rename_i r hr
    rw [hr, Nat.eq_of_beq_eq_true e2, Nat.add_assoc]
    rfl
  · cases e2
theorem gI (hB : zT h = B) (w : qW l c) {t : List (Nat × Nat × Int32)} (F : okI c l i t = true) : ∀ q ∈ t, zI (qH B h l) (B + i + q.1) q.2.1 = q.2.2 := by
  intro q hq
  have e := List.all_eq_true.mp F q hq
  rw [Bool.and_eq_true] at e
  rw [Nat.add_assoc, q_I hB l c _ _ w (Nat.le_of_ble_eq_true e.1)]
  exact of_decide_eq_true e.2
theorem qB_0 : ∀ (l : List zOp) (a N j : Nat), qB l a N = true → N ≤ j → qI l a j = 0
  | [], a, N, j, e, hj => rfl
  | (0, k, n, v, ix) :: l, a, N, j, e, hj => by
    unfold qI
    split
    · rfl
    · exact qB_0 l a N j e hj
  | (1, b, i, v, r) :: l, a, N, j, e, hj => by
    unfold qB at e
    rw [Bool.and_eq_true, Bool.or_eq_true] at e
    obtain ⟨e1, e2⟩ := e
    unfold qI
    split
    · rename_i q
      rw [Bool.and_eq_true] at q
      rcases e1 with e1 | e1
      · rw [q.1] at e1; cases e1
      · have := Nat.le_of_ble_eq_true e1
        have := Nat.eq_of_beq_eq_true q.2
        omega
    · exact qB_0 l a N j e2 hj
  | (2, q) :: l, a, N, j, e, hj => qB_0 l a N j e hj
  | (3, q) :: l, a, N, j, e, hj => qB_0 l a N j e hj
  | (_ + 4, b, i, v, ix) :: l, a, N, j, e, hj => by
    unfold qB at e
    rw [Bool.and_eq_true, Bool.or_eq_true] at e
    obtain ⟨e1, e2⟩ := e
    unfold qI
    split
    · rename_i q
      have q := bl_t q
      rcases e1 with e1 | e1
      · have := Nat.le_of_ble_eq_true e1
        omega
      · have := Nat.le_of_ble_eq_true e1
        omega
    · exact qB_0 l a N j e2 hj
end
def ptK : List (Nat × Nat) := [(0, 8), (1, 24), (2, 23), (3, 22), (4, 20), (5, 5), (6, 20), (7, 20), (8, 7), (9, 7), (10, 7), (11, 7), (12, 7), (13, 7), (14, 2), (15, 2), (16, 2), (17, 2), (18, 2), (19, 2), (20, 1), (21, 1), (22, 1), (23, 1), (24, 1), (25, 1), (26, 1), (27, 1)]
def ptNn : List (Nat × Nat) := [(1, 6), (2, 6), (3, 8), (4, 4), (6, 240), (7, 9)]
def ptR : List (Nat × Nat × Nat) := [(0, 0, 1), (0, 2, 2), (0, 4, 3), (0, 6, 4), (0, 13, 5), (0, 14, 7), (5, 0, 6), (1, 0, 8), (1, 1, 9), (1, 2, 10), (1, 3, 11), (1, 4, 12), (1, 5, 13), (2, 0, 14), (2, 1, 15), (2, 2, 16), (2, 3, 17), (2, 4, 18), (2, 5, 19), (3, 0, 20), (3, 1, 21), (3, 2, 22), (3, 3, 23), (3, 4, 24), (3, 5, 25), (3, 6, 26), (3, 7, 27)]
def liK : List (Nat × Nat) := [(0, 10), (1, 20), (2, 9), (88, 25), (95, 20), (96, 20), (444, 26)]
def liN : List (Nat × Nat) := [(1, 400), (88, 12), (95, 8), (96, 8), (444, 1)]
def liR : List (Nat × Nat × Nat) := [(0, 0, 1), (0, 2, 2), (0, 3, 4), (0, 4, 32), (0, 5, 60), (0, 7, 88), (0, 10, 89), (0, 11, 92), (0, 12, 95), (0, 13, 96), (88, 0, 97), (88, 1, 125), (88, 2, 153), (88, 3, 181), (88, 4, 209), (88, 5, 237), (88, 6, 265), (88, 7, 293), (88, 8, 321), (88, 9, 349), (88, 10, 377), (88, 11, 405)]
def liI : List (Nat × Nat × Int32) := [(0, 1, (0 : Int32)), (2, 6, (-1 : Int32)), (0, 6, (0 : Int32)), (0, 8, (0 : Int32)), (0, 9, (0 : Int32))]
def jaK : List (Nat × Nat) := [(0, 3), (1, 20), (2, 20)]
def jaN : List (Nat × Nat) := [(1, 40), (2, 61)]
def jaR_ : List (Nat × Nat × Nat) := [(0, 0, 1), (0, 2, 2)]
def mkK : List (Nat × Nat) := [(0, 6), (1, 20), (2, 20)]
def mkN : List (Nat × Nat) := [(1, 8), (2, 576)]
def mkR : List (Nat × Nat × Nat) := [(0, 0, 1), (0, 1, 2)]
def piI : List (Nat × Nat × Int32) := [(0, 1, (0 : Int32)), (0, 3, (0 : Int32)), (0, 5, (0 : Int32)), (0, 7, (1 : Int32)), (0, 8, (0 : Int32)), (0, 9, (0 : Int32)), (0, 10, (1 : Int32)), (0, 11, (0 : Int32)), (4, 0, (2 : Int32)), (4, 1, (2 : Int32)), (4, 2, (2 : Int32)), (4, 3, (2 : Int32)), (5, 1, (0 : Int32)), (5, 2, (0 : Int32))]
def rfK : List (Nat × Nat) := [(0, 11), (1, 20), (2, 20), (3, 20), (4, 20), (5, 20), (6, 20), (7, 21), (8, 20), (9, 20), (10, 20)]
def rfN : List (Nat × Nat) := [(1, 781), (2, 781), (3, 381), (4, 4572), (5, 400), (6, 7), (7, 126), (8, 126), (9, 576), (10, 8)]
def rfR : List (Nat × Nat × Nat) := [(0, 1, 1), (0, 2, 2), (0, 4, 3), (0, 5, 4), (0, 7, 5), (0, 14, 6), (0, 20, 7), (0, 21, 8), (0, 22, 9), (0, 23, 10)]
def rfI : List (Nat × Nat × Int32) := [(0, 3, (0 : Int32)), (0, 6, (0 : Int32)), (0, 8, (0 : Int32)), (0, 12, (-1 : Int32)), (0, 19, (0 : Int32)), (1, 1, (-1 : Int32)), (1, 7, (1 : Int32)), (1, 10, (1 : Int32)), (1, 11, (2 : Int32)), (1, 12, (2 : Int32)), (1, 13, (2 : Int32)), (1, 14, (2 : Int32)), (1, 0, (0 : Int32)), (1, 3, (0 : Int32)), (1, 4, (0 : Int32)), (1, 5, (0 : Int32)), (1, 6, (0 : Int32)), (1, 8, (0 : Int32)), (1, 9, (0 : Int32))]
def okP (l : List zOp) (i : Nat) : Bool := okK 445 l i ptK && (okNn 445 l i ptNn && okR 445 l i ptR)
def stX (l : List zOp) : Bool := okK 445 l 0 liK && (okNn 445 l 0 liN && (okR 445 l 0 liR && okI 445 l 0 liI))
def stJ (l : List zOp) : Bool := okK 445 l 89 jaK && (okNn 445 l 89 jaN && okR 445 l 89 jaR_)
def stM (l : List zOp) : Bool := okK 445 l 92 mkK && (okNn 445 l 92 mkN && okR 445 l 92 mkR)
def stQ (l : List zOp) : Bool := okI 445 l 4 piI && (qR l 4 12).isNone
def stR (l : List zOp) : Bool := okK 445 l 433 rfK && (okNn 445 l 433 rfN && (okR 445 l 433 rfR && (okI 445 l 433 rfI && qB l 434 781)))
def stP (l : List zOp) : Bool := okP l 4 && (okP l 32 && (okP l 60 && (List.range 12).all (fun k => okP l (97 + 28 * k))))
def stFf (l : List zOp) : Bool := stX l && (stJ l && (stM l && (stQ l && (stR l && (stP l && Nat.ble (qS l) 50000)))))
def chkS : Bool := match qrun 600 100 0 [(3, 0), (1, 0)] [] 1 [(0, 10, 14, 0, 0)] with
  | none => false
  | some q => Nat.beq q.1 433 && (match qrun 600 172 0 [(436, 0), (1, 0)] [] 434 ((0, 11, 24, 0, 433) :: q.2) with
    | none => false
    | some r => Nat.beq r.1 444 && stFf ((0, 26, 1, 0, 444) :: r.2))
theorem chkS_t : chkS = true := by decide +kernel
theorem st_ex : ∃ l1 l2, qrun 600 100 0 [(3, 0), (1, 0)] [] 1 [(0, 10, 14, 0, 0)] = some (433, l1) ∧ qrun 600 172 0 [(436, 0), (1, 0)] [] 434 ((0, 11, 24, 0, 433) :: l1) = some (444, l2) ∧ stFf ((0, 26, 1, 0, 444) :: l2) = true := by
  have e := chkS_t
  unfold chkS at e
  generalize qrun 600 100 0 [(3, 0), (1, 0)] [] 1 [(0, 10, 14, 0, 0)] = A at e ⊢
  cases A with
  | none => cases e
  | some q =>
    obtain ⟨c1, l1⟩ := q
    dsimp only at e
    rw [Bool.and_eq_true] at e
    obtain ⟨e1, e⟩ := e
    obtain rfl := Nat.eq_of_beq_eq_true e1
    refine ⟨l1, ?_⟩
    generalize qrun 600 172 0 [(436, 0), (1, 0)] [] 434 ((0, 11, 24, 0, 433) :: l1) = D at e ⊢
    cases D with
    | none => cases e
    | some r =>
      obtain ⟨c2, l2⟩ := r
      dsimp only at e
      rw [Bool.and_eq_true] at e
      obtain ⟨e2, e⟩ := e
      obtain rfl := Nat.eq_of_beq_eq_true e2
      exact ⟨l2, rfl, rfl, e⟩
