/-! FRAMES: what a run leaves as it was -/
def Fr (A : Nat → Prop) (h h' : Hp) : Prop := (zK h' = zK h ∧ zN h' = zN h ∧ zJ h' = zJ h ∧ zT h' = zT h ∧ zC h' = zC h ∧ zS h' = zS h) ∧ (∀ x, ¬ A x → zI h' x = zI h x) ∧ ∀ x y, ¬ (A x ∧ y = 12) → zR h' x y = zR h x y
section
variable {A B : Nat → Prop} {h h' g : Hp}
theorem Fr.rf : Fr A h h := ⟨⟨rfl, rfl, rfl, rfl, rfl, rfl⟩, fun _ _ => rfl, fun _ _ _ => rfl⟩
theorem Fr.tr (a : Fr A h g) (b : Fr A g h') : Fr A h h' := by
  obtain ⟨⟨a1, a2, a3, a4, a5, a6⟩, a7, a8⟩ := a
  obtain ⟨⟨b1, b2, b3, b4, b5, b6⟩, b7, b8⟩ := b
  exact ⟨⟨b1.trans a1, b2.trans a2, b3.trans a3, b4.trans a4, b5.trans a5, b6.trans a6⟩, fun x hx => (b7 x hx).trans (a7 x hx), fun x y hx => (b8 x y hx).trans (a8 x y hx)⟩
theorem Fr.mo (a : Fr A h h') (s : ∀ x, A x → B x) : Fr B h h' := ⟨a.1, fun x hx => a.2.1 x (fun q => hx (s x q)), fun x y hx => a.2.2 x y (fun q => hx ⟨s x q.1, q.2⟩)⟩
theorem Fr.w {a j : Nat} {v : Int32} (ha : A a) : Fr A h (zwI h a j v) := ⟨⟨rfl, rfl, rfl, rfl, rfl, rfl⟩, fun x hx => funext fun y => zI_wb (fun e => hx (by rw [e]; exact ha)), fun _ _ _ => rfl⟩
theorem Fr.a {a j : Nat} {v : Int32} (f : Fr A h g) (ha : A a) : Fr A h (zwI g a j v) := f.tr (Fr.w ha)
theorem Fr.wR {a : Nat} {v : Option Nat} (ha : A a) : Fr A h (zwR h a 12 v) := ⟨⟨rfl, rfl, rfl, rfl, rfl, rfl⟩, fun _ _ => rfl, fun x y hx => if_neg (fun q => hx ⟨by rw [q.1]; exact ha, q.2⟩)⟩
theorem Fr.cpy {a sp b dp n : Nat} (hb : A b) : Fr A h (zcpy h a sp b dp n) := ⟨⟨rfl, rfl, rfl, rfl, rfl, rfl⟩, fun x hx => funext fun y => if_neg (fun q => hx (by rw [q.1]; exact hb)), fun _ _ _ => rfl⟩
theorem Fr.k (f : Fr A h h') : zK h' = zK h := f.1.1
theorem Fr.n (f : Fr A h h') : zN h' = zN h := f.1.2.1
theorem Fr.r (f : Fr A h h') {x y : Nat} (hy : y ≠ 12) : zR h' x y = zR h x y := f.2.2 x y (fun q => hy q.2)
theorem Fr.rx (f : Fr A h h') {x y : Nat} (hx : ¬ A x) : zR h' x y = zR h x y := f.2.2 x y (fun q => hx q.1)
theorem Fr.i (f : Fr A h h') {x : Nat} (hx : ¬ A x) : zI h' x = zI h x := f.2.1 x hx
theorem PSk_fr {p : Nat} (f : Fr A h h') (s : PSk h p) : PSk h' p := by
  unfold PSk
  rw [f.k, f.n, f.r (x := p) (y := 0) (by decide), f.r (x := p) (y := 2) (by decide), f.r (x := p) (y := 4) (by decide), f.r (x := p) (y := 6) (by decide), f.r (x := p) (y := 13) (by decide), f.r (x := p) (y := 14) (by decide), f.r (x := p + 5) (y := 0) (by decide)]
  exact ⟨PSk_K s, PSk_R0 s, PSk_R2 s, PSk_R4 s, PSk_R6 s, PSk_R13 s, PSk_R14 s, PSk_q0 s, PSk_n0 s, PSk_q2 s, PSk_n2 s, PSk_q4 s, PSk_n4 s, PSk_i4 s, PSk_in4 s, PSk_B s, PSk_BR s, PSk_i6 s, PSk_in6 s, PSk_i7 s, PSk_in7 s, fun k hk => (f.r (by omega)).trans (PSk_e0 s k hk), fun k hk => (f.r (by omega)).trans (PSk_e2 s k hk), fun k hk => (f.r (by omega)).trans (PSk_e4 s k hk), PSk_O0 s, PSk_O2 s, PSk_O4 s⟩
theorem RSk_fr {R : Nat} (f : Fr A h h') (s : RSk h R) : RSk h' R := by
  unfold RSk
  rw [f.k, f.n, f.r (x := R) (y := 1) (by decide), f.r (x := R) (y := 2) (by decide), f.r (x := R) (y := 4) (by decide), f.r (x := R) (y := 5) (by decide), f.r (x := R) (y := 7) (by decide), f.r (x := R) (y := 14) (by decide), f.r (x := R) (y := 20) (by decide), f.r (x := R) (y := 21) (by decide), f.r (x := R) (y := 22) (by decide), f.r (x := R) (y := 23) (by decide)]
  exact s
theorem LSk_fr {L N : Nat} (f : Fr A h h') (s : LSk h L N) : LSk h' L N := by
  unfold LSk
  rw [f.k, f.n, f.r (x := L) (y := 2) (by decide), f.r (x := L) (y := 3) (by decide), f.r (x := L) (y := 4) (by decide), f.r (x := L) (y := 6) (by decide), f.r (x := L) (y := 0) (by decide)]
  exact s
theorem RdSk_fr {r b N : Nat} (f : Fr A h h') (s : RdSk h r b N) : RdSk h' r b N := by
  unfold RdSk
  rw [f.k, f.n, f.r (x := r) (y := 0) (by decide)]
  exact s
theorem JSk_fr {J : Nat} (f : Fr A h h') (s : JSk h J) : JSk h' J := by
  unfold JSk
  rw [f.k, f.n, f.r (x := J) (y := 0) (by decide), f.r (x := J) (y := 2) (by decide)]
  exact s
theorem MSk_fr {K : Nat} (f : Fr A h h') (s : MSk h K) : MSk h' K := by
  unfold MSk
  rw [f.k, f.n, f.r (x := K) (y := 0) (by decide), f.r (x := K) (y := 1) (by decide)]
  exact s
theorem XSk_fr {X : Nat} (f : Fr A h h') (hX : ¬ A X) (s : XSk h X) : XSk h' X := by
  unfold XSk
  rw [f.k, f.n, f.rx (x := X) (y := 0) hX, f.rx (x := X) (y := 2) hX, f.rx (x := X) (y := 3) hX, f.rx (x := X) (y := 4) hX, f.rx (x := X) (y := 5) hX, f.rx (x := X) (y := 7) hX, f.rx (x := X) (y := 10) hX, f.rx (x := X) (y := 11) hX, f.rx (x := X) (y := 12) hX, f.rx (x := X) (y := 13) hX]
  exact ⟨XSk_K s, XSk_R0 s, XSk_R2 s, XSk_R3 s, XSk_R4 s, XSk_R5 s, XSk_R7 s, XSk_R10 s, XSk_R11 s, XSk_R12 s, XSk_R13 s, XSk_a0k s, XSk_a0n s, XSk_Kr s, PSk_fr f (XSk_P3 s), PSk_fr f (XSk_P4 s), PSk_fr f (XSk_P5 s), XSk_k7 s, XSk_n7 s, fun k hk => (f.r (by omega)).trans (XSk_e7 s k hk), fun k hk => PSk_fr f (XSk_P7 s k hk), JSk_fr f (XSk_J s), MSk_fr f (XSk_M s), XSk_a12k s, XSk_a12n s, XSk_a13k s, XSk_a13n s⟩
theorem WSk_fr {w : Nat} {tx : List Nat} (f : Fr A h h') (hA : ∀ x, A x → zK h x ≠ 12 ∧ zK h x ≠ 27) (W : WSk h w tx) : WSk h' w tx := by
  obtain ⟨k, q, hr, h1, hv, hn, hl, hm, ht⟩ := W
  have hw : ¬ A w := fun e => (hA w e).1 k
  have hq : ¬ A q := fun e => (hA q e).2 hv
  refine ⟨by rw [f.k]; exact k, q, by rw [f.rx hw]; exact hr, by rw [f.i hw]; exact h1, by rw [f.k]; exact hv, by rw [f.n]; exact hn, by rw [f.n]; exact hl, hm, fun j hj => ⟨(ht j hj).1, by rw [f.i hq]; exact (ht j hj).2⟩⟩
theorem WA_fr {z : ZE} (f : Fr A h h') (hA : ∀ x, A x → zK h x ≠ 12 ∧ zK h x ≠ 27) (W : WA z h) : WA z h' := fun q hq => WSk_fr f hA (W q hq)
end
theorem zI_wn {h : Hp} {a j x y : Nat} {v : Int32} (e : ¬ (x = a ∧ y = j)) : zI (zwI h a j v) x y = zI h x y := if_neg e
/-- a port's addresses -/
def Pz (p : Nat) : Nat → Prop := fun x => p ≤ x ∧ x < p + 28
theorem Pz_k {h : Hp} {p x : Nat} (s : PSk h p) (hx : Pz p x) : zK h x ≠ 12 ∧ zK h x ≠ 27 := by
  obtain ⟨h1, h2⟩ := hx
  obtain ⟨j, rfl⟩ : ∃ j, x = p + j := ⟨x - p, by omega⟩
  have hj : j < 28 := by omega
  by_cases a : j < 8
  · match j, a with
    | 0, _ => rw [Nat.add_zero, PSk_K s]; decide
    | 1, _ => rw [PSk_q0 s]; decide
    | 2, _ => rw [PSk_q2 s]; decide
    | 3, _ => rw [PSk_q4 s]; decide
    | 4, _ => rw [PSk_i4 s]; decide
    | 5, _ => rw [PSk_B s]; decide
    | 6, _ => rw [PSk_i6 s]; decide
    | 7, _ => rw [PSk_i7 s]; decide
  · by_cases b : j < 14
    · have := PSk_O0 s (j - 8) (by omega)
      rw [show p + 8 + (j - 8) = p + j by omega] at this
      rw [this]; decide
    · by_cases c : j < 20
      · have := PSk_O2 s (j - 14) (by omega)
        rw [show p + 14 + (j - 14) = p + j by omega] at this
        rw [this]; decide
      · have := PSk_O4 s (j - 20) (by omega)
        rw [show p + 20 + (j - 20) = p + j by omega] at this
        rw [this]; decide
/-! A port's picture under writes -/
section
variable {h h' : Hp} {p : Nat} {P Q : Row} {np ni nd : Nat}
theorem PRp.fr {A : Nat → Prop} (H : PRp h p P np ni nd) (f : Fr A h h') (hA : ∀ x, A x → x < p ∨ p + 28 ≤ x ∨ (p + 5 ≤ x ∧ x ≤ p + 7)) : PRp h' p P np ni nd := by
  have i : ∀ x, p ≤ x → x < p + 28 → ¬ (p + 5 ≤ x ∧ x ≤ p + 7) → zI h' x = zI h x := fun x a b c => f.i (fun q => by have := hA x q; omega)
  obtain ⟨h0, a3, b1, c7, e4, ep, ei, ed⟩ := H
  have l := h0
  unfold PRp
  rw [i p (by omega) (by omega) (by omega), i (p + 4) (by omega) (by omega) (by omega)]
  exact ⟨h0, a3, b1, c7, e4, fun k c hk hc => by rw [i _ (by omega) (by omega) (by omega)]; exact ep k c hk hc, fun k c hk hc => by rw [i _ (by omega) (by omega) (by omega)]; exact ei k c hk hc, fun k c hk hc => by rw [i _ (by omega) (by omega) (by omega)]; exact ed k c hk hc⟩
theorem PRp.cg (H : PRp h p P np ni nd) (e : ∀ k, k < 141 → Q k = P k) : PRp h p Q np ni nd := by
  obtain ⟨h0, a3, b1, c7, e4, ep, ei, ed⟩ := H
  have l := h0
  unfold PRp
  rw [e 3 (by decide), e 4 (by decide), e 5 (by decide), e 7 (by decide), e 8 (by decide), e 6 (by decide), e 10 (by decide), e 0 (by decide)]
  exact ⟨h0, a3, b1, c7, fun k hk => by rw [e _ (by omega)]; exact e4 k hk, fun k c hk hc => by rw [e _ (by omega)]; exact ep k c hk hc, fun k c hk hc => by rw [e _ (by omega)]; exact ei k c hk hc, fun k c hk hc => by rw [e _ (by omega)]; exact ed k c hk hc⟩
theorem PRp.wD (H : PRp h p P np ni nd) {i c : Nat} {v : Int32} (hi : i < 8) (hc : c < 12) : PRp (zwI h (p + 20 + i) c v) p (up P (45 + 12 * i + c) v) np ni nd := by
  obtain ⟨h0, ⟨a3, a4, a5⟩, ⟨b1, b2, b3⟩, ⟨c7, c8, c9, c10, c11⟩, e4, ep, ei, ed⟩ := H
  have l := h0
  refine ⟨h0, ⟨(up_n (by omega)).trans a3, (up_n (by omega)).trans a4, (up_n (by omega)).trans a5⟩, ⟨(zI_wb (by omega)).trans b1, (zI_wb (by omega)).trans b2, (zI_wb (by omega)).trans b3⟩, ⟨?_, ?_, ?_, ?_, ?_⟩, fun k hk => ?_, fun k c' hk hc' => ?_, fun k c' hk hc' => ?_, fun k c' hk hc' => ?_⟩
  · rw [zI_wb (by omega), up_n (by omega)]; exact c7
  · rw [zI_wb (by omega), up_n (by omega)]; exact c8
  · rw [zI_wb (by omega), up_n (by omega)]; exact c9
  · rw [zI_wb (by omega), up_n (by omega)]; exact c10
  · rw [zI_wb (by omega), up_n (by omega)]; exact c11
  · rw [zI_wb (by omega), up_n (by omega)]; exact e4 k hk
  · rw [zI_wb (by omega), up_n (by omega)]; exact ep k c' hk hc'
  · rw [zI_wb (by omega), up_n (by omega)]; exact ei k c' hk hc'
  · by_cases e : k = i ∧ c' = c
    · obtain ⟨rfl, rfl⟩ := e; rw [zI_wa, up_a]
    · rw [zI_wn (by omega), up_n (by omega)]; exact ed k c' hk hc'
theorem PRp.wP (H : PRp h p P np ni nd) {i c : Nat} {v : Int32} (hi : i < 6) (hc : c < 2) : PRp (zwI h (p + 8 + i) c v) p (up P (15 + 2 * i + c) v) np ni nd := by
  obtain ⟨h0, ⟨a3, a4, a5⟩, ⟨b1, b2, b3⟩, ⟨c7, c8, c9, c10, c11⟩, e4, ep, ei, ed⟩ := H
  have l := h0
  refine ⟨h0, ⟨(up_n (by omega)).trans a3, (up_n (by omega)).trans a4, (up_n (by omega)).trans a5⟩, ⟨(zI_wb (by omega)).trans b1, (zI_wb (by omega)).trans b2, (zI_wb (by omega)).trans b3⟩, ⟨?_, ?_, ?_, ?_, ?_⟩, fun k hk => ?_, fun k c' hk hc' => ?_, fun k c' hk hc' => ?_, fun k c' hk hc' => ?_⟩
  · rw [zI_wb (by omega), up_n (by omega)]; exact c7
  · rw [zI_wb (by omega), up_n (by omega)]; exact c8
  · rw [zI_wb (by omega), up_n (by omega)]; exact c9
  · rw [zI_wb (by omega), up_n (by omega)]; exact c10
  · rw [zI_wb (by omega), up_n (by omega)]; exact c11
  · rw [zI_wb (by omega), up_n (by omega)]; exact e4 k hk
  · by_cases e : k = i ∧ c' = c
    · obtain ⟨rfl, rfl⟩ := e; rw [zI_wa, up_a]
    · rw [zI_wn (by omega), up_n (by omega)]; exact ep k c' hk hc'
  · rw [zI_wb (by omega), up_n (by omega)]; exact ei k c' hk hc'
  · rw [zI_wb (by omega), up_n (by omega)]; exact ed k c' hk hc'
theorem PRp.wK (H : PRp h p P np ni nd) {i c : Nat} {v : Int32} (hi : i < 6) (hc : c < 3) : PRp (zwI h (p + 14 + i) c v) p (up P (27 + 3 * i + c) v) np ni nd := by
  obtain ⟨h0, ⟨a3, a4, a5⟩, ⟨b1, b2, b3⟩, ⟨c7, c8, c9, c10, c11⟩, e4, ep, ei, ed⟩ := H
  have l := h0
  refine ⟨h0, ⟨(up_n (by omega)).trans a3, (up_n (by omega)).trans a4, (up_n (by omega)).trans a5⟩, ⟨(zI_wb (by omega)).trans b1, (zI_wb (by omega)).trans b2, (zI_wb (by omega)).trans b3⟩, ⟨?_, ?_, ?_, ?_, ?_⟩, fun k hk => ?_, fun k c' hk hc' => ?_, fun k c' hk hc' => ?_, fun k c' hk hc' => ?_⟩
  · rw [zI_wb (by omega), up_n (by omega)]; exact c7
  · rw [zI_wb (by omega), up_n (by omega)]; exact c8
  · rw [zI_wb (by omega), up_n (by omega)]; exact c9
  · rw [zI_wb (by omega), up_n (by omega)]; exact c10
  · rw [zI_wb (by omega), up_n (by omega)]; exact c11
  · rw [zI_wb (by omega), up_n (by omega)]; exact e4 k hk
  · rw [zI_wb (by omega), up_n (by omega)]; exact ep k c' hk hc'
  · by_cases e : k = i ∧ c' = c
    · obtain ⟨rfl, rfl⟩ := e; rw [zI_wa, up_a]
    · rw [zI_wn (by omega), up_n (by omega)]; exact ei k c' hk hc'
  · rw [zI_wb (by omega), up_n (by omega)]; exact ed k c' hk hc'
theorem PRp.w4 (H : PRp h p P np ni nd) {i : Nat} {v : Int32} (hi : i < 4) : PRp (zwI h (p + 4) i v) p (up P (11 + i) v) np ni nd := by
  obtain ⟨h0, ⟨a3, a4, a5⟩, ⟨b1, b2, b3⟩, ⟨c7, c8, c9, c10, c11⟩, e4, ep, ei, ed⟩ := H
  have l := h0
  refine ⟨h0, ⟨(up_n (by omega)).trans a3, (up_n (by omega)).trans a4, (up_n (by omega)).trans a5⟩, ⟨(zI_wb (by omega)).trans b1, (zI_wb (by omega)).trans b2, (zI_wb (by omega)).trans b3⟩, ⟨?_, ?_, ?_, ?_, ?_⟩, fun k hk => ?_, fun k c' hk hc' => ?_, fun k c' hk hc' => ?_, fun k c' hk hc' => ?_⟩
  · rw [zI_wb (by omega), up_n (by omega)]; exact c7
  · rw [zI_wb (by omega), up_n (by omega)]; exact c8
  · rw [zI_wb (by omega), up_n (by omega)]; exact c9
  · rw [zI_wb (by omega), up_n (by omega)]; exact c10
  · rw [zI_wb (by omega), up_n (by omega)]; exact c11
  · by_cases e : k = i
    · subst e; rw [zI_wa, up_a]
    · rw [zI_wn (by omega), up_n (by omega)]; exact e4 k hk
  · rw [zI_wb (by omega), up_n (by omega)]; exact ep k c' hk hc'
  · rw [zI_wb (by omega), up_n (by omega)]; exact ei k c' hk hc'
  · rw [zI_wb (by omega), up_n (by omega)]; exact ed k c' hk hc'
/-- its own numbers: salt, spray, time, seed, texts -/
theorem PRp.wS (H : PRp h p P np ni nd) {y k : Nat} {v : Int32} (hy : (y = 7 ∧ k = 7) ∨ (y = 8 ∧ k = 8) ∨ (y = 9 ∧ k = 6) ∨ (y = 10 ∧ k = 10) ∨ (y = 11 ∧ k = 0)) : PRp (zwI h p y v) p (up P k v) np ni nd := by
  obtain ⟨h0, ⟨a3, a4, a5⟩, ⟨b1, b2, b3⟩, ⟨c7, c8, c9, c10, c11⟩, e4, ep, ei, ed⟩ := H
  have l := h0
  have q : ∀ y' k', ((y' = 7 ∧ k' = 7) ∨ (y' = 8 ∧ k' = 8) ∨ (y' = 9 ∧ k' = 6) ∨ (y' = 10 ∧ k' = 10) ∨ (y' = 11 ∧ k' = 0)) → zI h p y' = P k' → zI (zwI h p y v) p y' = up P k v k' := by
    intro y' k' hy' e
    by_cases c : y' = y
    · obtain rfl : k' = k := by omega
      rw [c, zI_wa, up_a]
    · rw [zI_wn (by omega), up_n (by omega)]; exact e
  refine ⟨h0, ⟨(up_n (by omega)).trans a3, (up_n (by omega)).trans a4, (up_n (by omega)).trans a5⟩, ⟨(zI_wn (by omega)).trans b1, (zI_wn (by omega)).trans b2, (zI_wn (by omega)).trans b3⟩, ⟨q 7 7 (by decide) c7, q 8 8 (by decide) c8, q 9 6 (by decide) c9, q 10 10 (by decide) c10, q 11 0 (by decide) c11⟩, fun k hk => ?_, fun k c' hk hc' => ?_, fun k c' hk hc' => ?_, fun k c' hk hc' => ?_⟩
  · rw [zI_wb (by omega), up_n (by omega)]; exact e4 k hk
  · rw [zI_wb (by omega), up_n (by omega)]; exact ep k c' hk hc'
  · rw [zI_wb (by omega), up_n (by omega)]; exact ei k c' hk hc'
  · rw [zI_wb (by omega), up_n (by omega)]; exact ed k c' hk hc'
/-- one more party, ink, deed -/
theorem PRp.n1 (H : PRp h p P np ni nd) (hn : np < 6) (e : ∀ c, c < 2 → zI h (p + 8 + np) c = P (15 + 2 * np + c)) : PRp (zwI h p 1 (nI (np + 1))) p (up P 3 (nI (np + 1))) (np + 1) ni nd := by
  obtain ⟨h0, ⟨a3, a4, a5⟩, ⟨b1, b2, b3⟩, ⟨c7, c8, c9, c10, c11⟩, e4, ep, ei, ed⟩ := H
  have l := h0
  refine ⟨by omega, ⟨up_a, (up_n (by omega)).trans a4, (up_n (by omega)).trans a5⟩, ⟨zI_wa, (zI_wn (by omega)).trans b2, (zI_wn (by omega)).trans b3⟩, ⟨?_, ?_, ?_, ?_, ?_⟩, fun k hk => ?_, fun k c' hk hc' => ?_, fun k c' hk hc' => ?_, fun k c' hk hc' => ?_⟩
  · rw [zI_wn (by omega), up_n (by omega)]; exact c7
  · rw [zI_wn (by omega), up_n (by omega)]; exact c8
  · rw [zI_wn (by omega), up_n (by omega)]; exact c9
  · rw [zI_wn (by omega), up_n (by omega)]; exact c10
  · rw [zI_wn (by omega), up_n (by omega)]; exact c11
  · rw [zI_wb (by omega), up_n (by omega)]; exact e4 k hk
  · rw [zI_wb (by omega), up_n (by omega)]
    by_cases q : k = np
    · subst q; exact e c' hc'
    · exact ep k c' (by omega) hc'
  · rw [zI_wb (by omega), up_n (by omega)]; exact ei k c' hk hc'
  · rw [zI_wb (by omega), up_n (by omega)]; exact ed k c' hk hc'
theorem PRp.n3 (H : PRp h p P np ni nd) (hn : ni < 6) (e : ∀ c, c < 3 → zI h (p + 14 + ni) c = P (27 + 3 * ni + c)) : PRp (zwI h p 3 (nI (ni + 1))) p (up P 4 (nI (ni + 1))) np (ni + 1) nd := by
  obtain ⟨h0, ⟨a3, a4, a5⟩, ⟨b1, b2, b3⟩, ⟨c7, c8, c9, c10, c11⟩, e4, ep, ei, ed⟩ := H
  have l := h0
  refine ⟨by omega, ⟨(up_n (by omega)).trans a3, up_a, (up_n (by omega)).trans a5⟩, ⟨(zI_wn (by omega)).trans b1, zI_wa, (zI_wn (by omega)).trans b3⟩, ⟨?_, ?_, ?_, ?_, ?_⟩, fun k hk => ?_, fun k c' hk hc' => ?_, fun k c' hk hc' => ?_, fun k c' hk hc' => ?_⟩
  · rw [zI_wn (by omega), up_n (by omega)]; exact c7
  · rw [zI_wn (by omega), up_n (by omega)]; exact c8
  · rw [zI_wn (by omega), up_n (by omega)]; exact c9
  · rw [zI_wn (by omega), up_n (by omega)]; exact c10
  · rw [zI_wn (by omega), up_n (by omega)]; exact c11
  · rw [zI_wb (by omega), up_n (by omega)]; exact e4 k hk
  · rw [zI_wb (by omega), up_n (by omega)]; exact ep k c' hk hc'
  · rw [zI_wb (by omega), up_n (by omega)]
    by_cases q : k = ni
    · subst q; exact e c' hc'
    · exact ei k c' (by omega) hc'
  · rw [zI_wb (by omega), up_n (by omega)]; exact ed k c' hk hc'
theorem PRp.n5 (H : PRp h p P np ni nd) (hn : nd < 8) (e : ∀ c, c < 12 → zI h (p + 20 + nd) c = P (45 + 12 * nd + c)) : PRp (zwI h p 5 (nI (nd + 1))) p (up P 5 (nI (nd + 1))) np ni (nd + 1) := by
  obtain ⟨h0, ⟨a3, a4, a5⟩, ⟨b1, b2, b3⟩, ⟨c7, c8, c9, c10, c11⟩, e4, ep, ei, ed⟩ := H
  have l := h0
  refine ⟨by omega, ⟨(up_n (by omega)).trans a3, (up_n (by omega)).trans a4, up_a⟩, ⟨(zI_wn (by omega)).trans b1, (zI_wn (by omega)).trans b2, zI_wa⟩, ⟨?_, ?_, ?_, ?_, ?_⟩, fun k hk => ?_, fun k c' hk hc' => ?_, fun k c' hk hc' => ?_, fun k c' hk hc' => ?_⟩
  · rw [zI_wn (by omega), up_n (by omega)]; exact c7
  · rw [zI_wn (by omega), up_n (by omega)]; exact c8
  · rw [zI_wn (by omega), up_n (by omega)]; exact c9
  · rw [zI_wn (by omega), up_n (by omega)]; exact c10
  · rw [zI_wn (by omega), up_n (by omega)]; exact c11
  · rw [zI_wb (by omega), up_n (by omega)]; exact e4 k hk
  · rw [zI_wb (by omega), up_n (by omega)]; exact ep k c' hk hc'
  · rw [zI_wb (by omega), up_n (by omega)]; exact ei k c' hk hc'
  · rw [zI_wb (by omega), up_n (by omega)]
    by_cases q : k = nd
    · subst q; exact e c' hc'
    · exact ed k c' (by omega) hc'
end
