/-! HEAPS THAT AGREE where the two pictures look: a new cell, another reference of the reader -/
def Ag (D E : Nat → Prop) (h h' : Hp) : Prop := (∀ x, D x → zK h' x = zK h x ∧ zN h' x = zN h x ∧ zI h' x = zI h x) ∧ ∀ x, E x → zR h' x = zR h x
/-- no cell from the top on -/
def Tp (h : Hp) : Prop := ∀ x, zT h ≤ x → zK h x = 0
section
variable {z : ZE} {d : Nat} {h h' : Hp} {X R p L N En : Nat} {S S1 : PSt} {P f : Row} {K : Option Img} {A : List PSt} {tl : Nat} {T : Row} {ft : Int32} {ls : List LN} {Lo : Option Nat} {D E : Nat → Prop} {np ni nd : Nat}
theorem Tp.lt (t : Tp h) {x k : Nat} (hk : zK h x = k) (h0 : k ≠ 0) : x < zT h := by
  rcases Nat.lt_or_ge x (zT h) with q | q
  · exact q
  · exact absurd ((hk.symm.trans (t x q))) h0
theorem Tp.fr {B : Nat → Prop} (t : Tp h) (f : Fr B h h') : Tp h' := fun x hx => by
  rw [f.1.1]
  exact t x (by rw [f.1.2.2.2.1] at hx; exact hx)
theorem Tp.nw {k n : Nat} (t : Tp h) : Tp (znw h k n) := fun x hx => by
  have hx' : zT h + 1 ≤ x := hx
  exact (if_neg (by omega)).trans (t x (by omega))
theorem Tp.xl (t : Tp h) (s : XSk h X) : X + 433 ≤ zT h := by
  have := t.lt (PSk_O4 (XSk_P7 s 11 (by decide)) 7 (by decide)) (by decide)
  omega
theorem Tp.rl (t : Tp h) (s : RSk h R) : R + 11 ≤ zT h := by
  have := t.lt (show zK h (R + 10) = 20 from s.2.2.2.2.2.2.2.2.2.2.2.2.2.2.2.2.2.2.2.2.2.2.2.2.2.2.2.2.2.1) (by decide)
  omega
theorem Tp.ll (t : Tp h) (s : LSk h L N) : L + 6 ≤ zT h := by
  have := t.lt (show zK h (L + 5) = 20 from s.2.2.2.2.2.2.2.2.2.2.2.2.2.2.1) (by decide)
  omega
theorem Ag.nw {k n : Nat} : Ag (fun x => x < zT h) (fun x => x < zT h) h (znw h k n) := ⟨fun x hx => ⟨if_neg (by omega), if_neg (by omega), funext fun y => if_neg (by omega)⟩, fun x hx => funext fun y => if_neg (by omega)⟩
theorem Ag.wR {a j : Nat} {v : Option Nat} : Ag (fun _ => True) (fun x => x ≠ a) h (zwR h a j v) := ⟨fun x _ => ⟨rfl, rfl, rfl⟩, fun x hx => funext fun y => if_neg (fun q => hx q.1)⟩
theorem Ag.k (a : Ag D E h h') {x : Nat} (hx : D x) : zK h' x = zK h x := (a.1 x hx).1
theorem Ag.n (a : Ag D E h h') {x : Nat} (hx : D x) : zN h' x = zN h x := (a.1 x hx).2.1
theorem Ag.i (a : Ag D E h h') {x : Nat} (hx : D x) : zI h' x = zI h x := (a.1 x hx).2.2
theorem Ag.r (a : Ag D E h h') {x : Nat} (hx : E x) {y : Nat} : zR h' x y = zR h x y := congrFun (a.2 x hx) y
theorem PSk.ag (a : Ag D E h h') (hD : ∀ j, j < 28 → D (p + j)) (hE : ∀ j, j < 28 → E (p + j)) (s : PSk h p) : PSk h' p := by
  have k : ∀ j, j < 28 → zK h' (p + j) = zK h (p + j) := fun j hj => a.k (hD j hj)
  have n : ∀ j, j < 28 → zN h' (p + j) = zN h (p + j) := fun j hj => a.n (hD j hj)
  have r : ∀ j, j < 28 → ∀ y, zR h' (p + j) y = zR h (p + j) y := fun j hj y => a.r (hE j hj)
  have k0 : zK h' p = zK h p := k 0 (by decide)
  have r0 : ∀ y, zR h' p y = zR h p y := r 0 (by decide)
  exact ⟨k0.trans (PSk_K s), (r0 _).trans (PSk_R0 s), (r0 _).trans (PSk_R2 s), (r0 _).trans (PSk_R4 s), (r0 _).trans (PSk_R6 s), (r0 _).trans (PSk_R13 s), (r0 _).trans (PSk_R14 s), (k 1 (by decide)).trans (PSk_q0 s), (n 1 (by decide)).trans (PSk_n0 s), (k 2 (by decide)).trans (PSk_q2 s), (n 2 (by decide)).trans (PSk_n2 s), (k 3 (by decide)).trans (PSk_q4 s), (n 3 (by decide)).trans (PSk_n4 s), (k 4 (by decide)).trans (PSk_i4 s), (n 4 (by decide)).trans (PSk_in4 s), (k 5 (by decide)).trans (PSk_B s), (r 5 (by decide) _).trans (PSk_BR s), (k 6 (by decide)).trans (PSk_i6 s), (n 6 (by decide)).trans (PSk_in6 s), (k 7 (by decide)).trans (PSk_i7 s), (n 7 (by decide)).trans (PSk_in7 s), fun j hj => (r 1 (by decide) _).trans (PSk_e0 s j hj), fun j hj => (r 2 (by decide) _).trans (PSk_e2 s j hj), fun j hj => (r 3 (by decide) _).trans (PSk_e4 s j hj), fun j hj => by rw [Nat.add_assoc, k (8 + j) (by omega), ← Nat.add_assoc]; exact PSk_O0 s j hj, fun j hj => by rw [Nat.add_assoc, k (14 + j) (by omega), ← Nat.add_assoc]; exact PSk_O2 s j hj, fun j hj => by rw [Nat.add_assoc, k (20 + j) (by omega), ← Nat.add_assoc]; exact PSk_O4 s j hj⟩
theorem PRp.ag (a : Ag D E h h') (hD : ∀ j, j < 28 → D (p + j)) (H : PRp h p P np ni nd) : PRp h' p P np ni nd := by
  have i : ∀ x, p ≤ x → x < p + 28 → zI h' x = zI h x := fun x h1 h2 => by
    have := a.i (hD (x - p) (by omega))
    rw [show p + (x - p) = x by omega] at this
    exact this
  obtain ⟨h0, a3, b1, c7, e4, ep, ei, ed⟩ := H
  have l := h0
  unfold PRp
  rw [i p (by omega) (by omega), i (p + 4) (by omega) (by omega)]
  exact ⟨h0, a3, b1, c7, e4, fun k c hk hc => by rw [i _ (by omega) (by omega)]; exact ep k c hk hc, fun k c hk hc => by rw [i _ (by omega) (by omega)]; exact ei k c hk hc, fun k c hk hc => by rw [i _ (by omega) (by omega)]; exact ed k c hk hc⟩
theorem BKp.ag (a : Ag D E h h') (h5 : D (p + 5)) (h6 : D (p + 5 + 1)) (B : BKp h p P) : BKp h' p P := by
  obtain ⟨n, x, b1, b2, b3, b4, b5, b6⟩ := B
  refine ⟨n, x, b1, b2, b3, ?_, ?_, fun a' c h1 h2 => ?_⟩
  · rw [a.i h5]; exact b4
  · rw [a.i h5]; exact b5
  · rw [a.i h6]; exact b6 a' c h1 h2
theorem LSk.ag (a : Ag D E h h') (hD : ∀ j, j < 6 → D (L + j)) (hE : ∀ j, j < 6 → E (L + j)) (s : LSk h L N) : LSk h' L N := by
  unfold LSk
  have k : ∀ j, j < 6 → zK h' (L + j) = zK h (L + j) := fun j hj => a.k (hD j hj)
  have n : ∀ j, j < 6 → zN h' (L + j) = zN h (L + j) := fun j hj => a.n (hD j hj)
  have k0 : zK h' L = zK h L := k 0 (by decide)
  have r0 : ∀ y, zR h' L y = zR h L y := fun y => a.r (hE 0 (by decide))
  rw [k0, r0, r0, r0, r0, r0, k 1 (by decide), k 2 (by decide), k 3 (by decide), k 4 (by decide), k 5 (by decide), n 1 (by decide), n 2 (by decide), n 3 (by decide), n 4 (by decide), n 5 (by decide)]
  exact s
theorem LawAt.ag (a : Ag D E h h') (hD : ∀ j, j < 6 → D (L + j)) (hE : ∀ j, j < 6 → E (L + j)) (H : LawAt h L En ls) : LawAt h' L En ls := by
  obtain ⟨⟨⟨s, l1, l5⟩, c5, cl⟩, H2⟩ := H
  have i0 : zI h' L = zI h L := a.i (hD 0 (by decide))
  refine ⟨⟨⟨s.ag a hD hE, by rw [i0]; exact l1, fun j hj => by rw [a.i (hD 5 (by decide))]; exact l5 j hj⟩, by rw [i0]; exact c5, fun j hj => ?_⟩, H2⟩
  rw [a.i (hD 1 (by decide)), a.i (hD 2 (by decide)), a.i (hD 3 (by decide))]
  exact cl j hj
theorem PL.ag (a : Ag D E h h') (hD : ∀ j, j < 28 → D (p + j)) (hE : ∀ j, j < 28 → E (p + j)) (hL : ∀ L j, Lo = some L → j < 6 → D (L + j) ∧ E (L + j)) (H : PL h p P np ni nd Lo ls) : PL h' p P np ni nd Lo ls := by
  obtain ⟨⟨s, r, b⟩, q, w, y⟩ := H
  refine ⟨⟨s.ag a hD hE, r.ag a hD, b.ag a (hD 5 (by decide)) (hD 6 (by decide))⟩, (a.r (hE 0 (by decide))).trans q, ?_, y⟩
  cases Lo with
  | none => exact w
  | some L =>
    obtain ⟨En, W, w1⟩ := w
    exact ⟨En, W.ag a (fun j hj => (hL L j rfl hj).1) (fun j hj => (hL L j rfl hj).2), w1⟩
theorem WSk.ag {w : Nat} {tx : List Nat} (a : Ag D E h h') (hD : ∀ x, zK h x = 12 ∨ zK h x = 27 → D x ∧ E x) (W : WSk h w tx) : WSk h' w tx := by
  obtain ⟨w1, v, w2, w3, w4, w5, w6, w7, w8⟩ := W
  have dw := hD w (Or.inl w1)
  have dv := hD v (Or.inr w4)
  refine ⟨(a.k dw.1).trans w1, v, (a.r dw.2).trans w2, ?_, (a.k dv.1).trans w4, ?_, ?_, w7, fun j hj => ?_⟩
  · rw [a.i dw.1]; exact w3
  · rw [a.n dv.1]; exact w5
  · rw [a.n dv.1]; exact w6
  · rw [a.i dv.1]; exact w8 j hj
theorem XSk.ag (a : Ag D E h h') (hD : ∀ j, j < 433 → D (X + j)) (hE : ∀ j, j < 433 → j ≠ 2 → E (X + j)) (s : XSk h X) : XSk h' X := by
  have k : ∀ j, j < 433 → zK h' (X + j) = zK h (X + j) := fun j hj => a.k (hD j hj)
  have n : ∀ j, j < 433 → zN h' (X + j) = zN h (X + j) := fun j hj => a.n (hD j hj)
  have k0 : zK h' X = zK h X := k 0 (by decide)
  have r0 : ∀ y, zR h' X y = zR h X y := fun y => a.r (hE 0 (by decide) (by decide))
  have pp : ∀ {p : Nat}, X + 4 ≤ p → p + 28 ≤ X + 433 → PSk h p → PSk h' p := fun {p} h1 h2 q => by
    have e : ∀ j, p + j = X + (p - X + j) := fun j => by omega
    exact q.ag a (fun j hj => by rw [e]; exact hD _ (by omega)) (fun j hj => by rw [e]; exact hE _ (by omega) (by omega))
  obtain ⟨s1, s2, s3, s4, s5, s6, s7, s8, s9, s10, s11, s12, s13, s14, s15, s16, s17, s18, s19, s20, s21, s22, s23, s24, s25, s26, s27⟩ := s
  refine ⟨k0.trans s1, (r0 _).trans s2, (r0 _).trans s3, (r0 _).trans s4, (r0 _).trans s5, (r0 _).trans s6, (r0 _).trans s7, (r0 _).trans s8, (r0 _).trans s9, (r0 _).trans s10, (r0 _).trans s11, (k 1 (by decide)).trans s12, (n 1 (by decide)).trans s13, (k 2 (by decide)).trans s14, pp (by omega) (by omega) s15, pp (by omega) (by omega) s16, pp (by omega) (by omega) s17, (k 88 (by decide)).trans s18, (n 88 (by decide)).trans s19, fun j hj => (a.r (hE 88 (by decide) (by decide))).trans (s20 j hj), fun j hj => pp (by omega) (by omega) (s21 j hj), ?_, ?_, (k 95 (by decide)).trans s24, (n 95 (by decide)).trans s25, (k 96 (by decide)).trans s26, (n 96 (by decide)).trans s27⟩
  · obtain ⟨j1, j2, j3, j4, j5, j6, j7⟩ := s22
    exact ⟨(k 89 (by decide)).trans j1, (a.r (hE 89 (by decide) (by decide))).trans j2, (a.r (hE 89 (by decide) (by decide))).trans j3, (k 90 (by decide)).trans j4, (n 90 (by decide)).trans j5, (k 91 (by decide)).trans j6, (n 91 (by decide)).trans j7⟩
  · obtain ⟨j1, j2, j3, j4, j5, j6, j7⟩ := s23
    exact ⟨(k 92 (by decide)).trans j1, (a.r (hE 92 (by decide) (by decide))).trans j2, (a.r (hE 92 (by decide) (by decide))).trans j3, (k 93 (by decide)).trans j4, (n 93 (by decide)).trans j5, (k 94 (by decide)).trans j6, (n 94 (by decide)).trans j7⟩
theorem CI.ag (a : Ag D E h h') (hD : ∀ j, j < 433 → D (X + j)) (hE : ∀ j, j < 433 → j ≠ 2 → E (X + j)) (hW : ∀ x, zK h x = 12 ∨ zK h x = 27 → D x ∧ E x) (hL : ∀ L N j, LSk h L N → X + 433 ≤ L → j < 6 → D (L + j) ∧ E (L + j)) (H : CI z h X S ls Lo K A tl T ft) : CI z h' X S ls Lo K A tl T ft := by
  obtain ⟨⟨x1, x2, x3⟩, p1, ⟨t1, t2, t3⟩, f1, k1, a1⟩ := H
  have i0 : zI h' X = zI h X := a.i (hD 0 (by decide))
  have pl : ∀ {p : Nat} {P : Row} {np ni nd : Nat} {Lo' : Option Nat} {ls' : List LN}, X + 4 ≤ p → p + 28 ≤ X + 433 → (∀ L, Lo' = some L → X + 433 ≤ L) → PL h p P np ni nd Lo' ls' → PL h' p P np ni nd Lo' ls' := fun {p} {P} {np} {ni} {nd} {Lo'} {ls'} h1 h2 h3 G => by
    have e : ∀ j, p + j = X + (p - X + j) := fun j => by omega
    refine G.ag a (fun j hj => by rw [e]; exact hD _ (by omega)) (fun j hj => by rw [e]; exact hE _ (by omega) (by omega)) (fun L j eL hj => ?_)
    have w := G.2.2.1
    subst eL
    obtain ⟨En, W, -⟩ := w
    exact hL L En j W.1.1.1 (h3 L rfl) hj
  refine ⟨⟨x1.ag a hD hE, fun q hq => (x2 q hq).ag a hW, x3⟩, pl (by omega) (by omega) x3.1 p1, ⟨by rw [i0]; exact t1, t2, fun k hk => by rw [a.i (hD 1 (by decide))]; exact t3 k hk⟩, by rw [a.i (hD 2 (by decide))]; exact f1, ?_, ?_⟩
  · cases K with
    | none => show zI h' X 6 = nI 0; rw [i0]; exact k1
    | some q => exact ⟨by rw [i0]; exact k1.1, pl (by omega) (by omega) (fun L e => x3.2 q L rfl e) k1.2⟩
  · obtain ⟨nx, h1, h2, h3, h4, h5⟩ := a1
    refine ⟨nx, h1, by rw [i0]; exact h2, by rw [i0]; exact h3, h4, fun b S' e => ?_⟩
    have hm : (nx + 11 - b) % 12 < 12 := Nat.mod_lt _ (by decide)
    exact pl (by omega) (by omega) x3.1 (h5 b S' e)
/-- a new cell -/
theorem CI.nw {k n : Nat} (t : Tp h) (H : CI z h X S ls Lo K A tl T ft) : CI z (znw h k n) X S ls Lo K A tl T ft := by
  have x := t.xl H.1.1
  exact H.ag Ag.nw (fun j hj => by omega) (fun j hj _ => by omega) (fun x hx => by
    have : x < zT h := by
      rcases hx with q | q
      · exact t.lt q (by decide)
      · exact t.lt q (by decide)
    exact ⟨this, this⟩) (fun L N j s _ hj => by have := t.ll s; exact ⟨by omega, by omega⟩)
/-- the reader is given other bytes -/
theorem CI.rd {v : Option Nat} (H : CI z h X S ls Lo K A tl T ft) : CI z (zwR h (X + 2) 0 v) X S ls Lo K A tl T ft := by
  have k2 : zK h (X + 2) = 9 := XSk_Kr H.1.1
  refine H.ag Ag.wR (fun j hj => trivial) (fun j hj h2 => by omega) (fun x hx => ⟨trivial, fun e => ?_⟩) (fun L N j s hl hj => ⟨trivial, by omega⟩)
  rw [e, k2] at hx
  omega
theorem RI.ag (a : Ag D E h h') (hD : ∀ j, j < 11 → D (R + j)) (hE : E R) (H : RI h R S K A tl T ft) : RI h' R S K A tl T ft := by
  obtain ⟨⟨r1, r2, r3⟩, ⟨t1, t2, t3⟩, f1, k1, a1, a2, a3⟩ := H
  have k : ∀ j, j < 11 → zK h' (R + j) = zK h (R + j) := fun j hj => a.k (hD j hj)
  have n : ∀ j, j < 11 → zN h' (R + j) = zN h (R + j) := fun j hj => a.n (hD j hj)
  have i : ∀ j, j < 11 → zI h' (R + j) = zI h (R + j) := fun j hj => a.i (hD j hj)
  have k0 : zK h' R = zK h R := k 0 (by decide)
  have i0 : zI h' R = zI h R := i 0 (by decide)
  have r0 : ∀ y, zR h' R y = zR h R y := fun y => a.r hE
  have sk : RSk h' R := by
    unfold RSk
    rw [k0, r0, r0, r0, r0, r0, r0, r0, r0, r0, r0, k 1 (by decide), k 2 (by decide), k 3 (by decide), k 4 (by decide), k 5 (by decide), k 6 (by decide), k 7 (by decide), k 8 (by decide), k 9 (by decide), k 10 (by decide), n 1 (by decide), n 2 (by decide), n 3 (by decide), n 4 (by decide), n 5 (by decide), n 6 (by decide), n 7 (by decide), n 8 (by decide), n 9 (by decide), n 10 (by decide)]
    exact r1
  refine ⟨⟨sk, (i 1 (by decide)).trans r2, by rw [i0]; exact r3⟩, ⟨by rw [i0]; exact t1, t2, fun k hk => by rw [i 5 (by decide)]; exact t3 k hk⟩, by rw [i0]; exact f1, ?_, by rw [i0]; exact a1, a2, fun b S' e j hj => by rw [i 4 (by decide)]; exact a3 b S' e j hj⟩
  cases K with
  | none => show zI h' R 3 = nI 0; rw [i0]; exact k1
  | some q => exact ⟨by rw [i0]; exact k1.1, fun j hj => by rw [i 2 (by decide)]; exact k1.2 j hj⟩
theorem RI.nw {k n : Nat} (t : Tp h) (H : RI h R S K A tl T ft) : RI (znw h k n) R S K A tl T ft := by
  have x := t.rl H.1.1
  exact H.ag Ag.nw (fun j hj => by omega) (by omega)
end
