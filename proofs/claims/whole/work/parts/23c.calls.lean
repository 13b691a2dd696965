/-! CALLS: what moves, what comes out -/
def Mv (A : Nat → Prop) (c s : Nat) (h h' : Hp) : Prop := (∀ x, x < zT h → zK h' x = zK h x ∧ zN h' x = zN h x ∧ zJ h' x = zJ h x) ∧ (∀ x, x < zT h → ¬ A x → zI h' x = zI h x ∧ zR h' x = zR h x) ∧ zT h ≤ zT h' ∧ (Tp h → Tp h') ∧ zC h' ≤ zC h + c ∧ zS h' ≤ zS h + s
theorem Mv.fr {A : Nat → Prop} {h h' : Hp} (f : Fr A h h') : Mv A 0 0 h h' := by
  refine ⟨fun x _ => ⟨by rw [f.k], by rw [f.n], by rw [f.1.2.2.1]⟩, fun x _ hx => ⟨f.i hx, funext fun y => f.rx hx⟩, ?_, fun t => t.fr f, ?_, ?_⟩
  · rw [f.1.2.2.2.1]; exact Nat.le_refl _
  · rw [f.1.2.2.2.2.1]; exact Nat.le_refl _
  · rw [f.1.2.2.2.2.2]; exact Nat.le_refl _
theorem Mv.nw {A : Nat → Prop} {h : Hp} {k n : Nat} : Mv A 1 n h (znw h k n) :=
  ⟨fun x hx => ⟨if_neg (by omega), if_neg (by omega), funext fun y => if_neg (by omega)⟩, fun x hx _ => ⟨funext fun y => if_neg (by omega), funext fun y => if_neg (by omega)⟩, Nat.le_succ _, fun t => t.nw, Nat.le_refl _, Nat.le_refl _⟩
theorem Mv.tr {A : Nat → Prop} {h g h' : Hp} {c s c' s' : Nat} (a : Mv A c s h g) (b : Mv A c' s' g h') : Mv A (c + c') (s + s') h h' := by
  obtain ⟨a1, a2, a3, a4, a5, a6⟩ := a
  obtain ⟨b1, b2, b3, b4, b5, b6⟩ := b
  refine ⟨fun x hx => ?_, fun x hx hA => ?_, by omega, fun t => b4 (a4 t), by omega, by omega⟩
  · obtain ⟨x1, x2, x3⟩ := a1 x hx
    obtain ⟨y1, y2, y3⟩ := b1 x (by omega)
    exact ⟨y1.trans x1, y2.trans x2, y3.trans x3⟩
  · obtain ⟨x1, x2⟩ := a2 x hx hA
    obtain ⟨y1, y2⟩ := b2 x (by omega) hA
    exact ⟨y1.trans x1, y2.trans x2⟩
theorem Mv.mo {A B : Nat → Prop} {h h' : Hp} {c s c' s' : Nat} (a : Mv A c s h h') (hA : ∀ x, A x → B x) (hc : c ≤ c') (hs : s ≤ s') : Mv B c' s' h h' := by
  obtain ⟨a1, a2, a3, a4, a5, a6⟩ := a
  exact ⟨a1, fun x hx hB => a2 x hx (fun q => hB (hA x q)), a3, a4, by omega, by omega⟩
def Xz (X : Nat) (Lo : Option Nat) : Nat → Prop := fun x => (X ≤ x ∧ x < X + 433) ∨ L4 Lo x
/-- the class's scratch -/
def Dz (X : Nat) (Lo : Option Nat) : Nat → Prop := fun x => (X + 32 ≤ x ∧ x < X + 60) ∨ (X + 89 ≤ x ∧ x < X + 97) ∨ x = X + 11 ∨ L4 Lo x
/-- what a call answers: a number, or the k-th of its exceptions -/
def oc (es : List Nat) (k : Nat) (v : Int32) : zO := match k with
  | 0 => .inl (some (.int v))
  | k + 1 => .inr (es.getD k 9)
abbrev Stt : Type := (PSt × List LN × Option Nat) × Option Img × List PSt × Nat × Row × Int32
def CV (z : ZE) (h : Hp) (X : Nat) (q : Stt) : Prop := CI z h X q.1.1 q.1.2.1 q.1.2.2 q.2.1 q.2.2.1 q.2.2.2.1 q.2.2.2.2.1 q.2.2.2.2.2
def RV (h : Hp) (R : Nat) (q : Stt) : Prop := RI h R q.1.1 q.2.1 q.2.2.1 q.2.2.2.1 q.2.2.2.2.1 q.2.2.2.2.2
def CA (z : ZE) (d : Nat) (h : Hp) (X : Nat) (Lo : Option Nat) (m : Nat) (as : List Value) (es : List Nat) (k : Nat) (v : Int32) (q : Stt) : Prop := ∃ h', ev z d m 0 as [] h = some (oc es k v, h') ∧ Mv (Xz X Lo) 10 1000 h h' ∧ CV z h' X q
def RB (z : ZE) (d : Nat) (h : Hp) (R : Nat) (m : Nat) (as : List Value) (k : Nat) (v : Int32) (q : Stt) : Prop := ∃ h' b, ev z d m 0 as [] h = some (.inl (some (.int b)), h') ∧ Fr (Rz R) h h' ∧ zI h' R 0 = nI k ∧ (k = 0 → b = v) ∧ RV h' R q
section
variable {z : ZE} {d : Nat} {h h' : Hp} {X R : Nat} {S S1 : PSt} {K : Option Img} {A : List PSt} {tl : Nat} {T : Row} {ft : Int32} {ls : List LN} {Lo : Option Nat} {m k en : Nat} {as : List Value} {es : List Nat} {v w : Int32}
theorem CI.sep (H : CI z h X S ls Lo K A tl T ft) {y : Nat} (hy : L4 Lo y) : Sc X Lo K y := by
  obtain ⟨L, e1, rfl⟩ := hy
  have l1 := H.1.2.2.1 L e1
  have w := H.2.1.2.2.1
  subst e1
  obtain ⟨E, W, -⟩ := w
  have s1 : LSk h L E := W.1.1.1
  refine Or.inl ⟨by omega, fun L' e => ?_, fun q L' e e2 => ?_⟩
  · have := Option.some.inj e; omega
  · subst e
    have k1 := H.2.2.2.2.1.2.2.2.1
    rw [e2] at k1
    obtain ⟨E', W', -⟩ := k1
    have s2 : LSk h L' E' := W'.1.1.1
    have a0 := LSk_K s1
    have a1 := LSk_a2k s1
    have a2 := LSk_a3k s1
    have a3 := LSk_a4k s1
    have a4 := LSk_a6k s1
    have a5 := LSk_a0k s1
    have b0 := LSk_K s2
    have b1 := LSk_a2k s2
    have b2 := LSk_a3k s2
    have b3 := LSk_a4k s2
    have b4 := LSk_a6k s2
    have b5 := LSk_a0k s2
    have nn : ∀ {u : Nat}, zK h u = 4 → zK h u = 20 → False := fun e1 e2 => by rw [e1] at e2; cases e2
    rcases (by omega : L' = L ∨ L' = L + 1 ∨ L' = L + 2 ∨ L' = L + 3 ∨ L' = L + 4 ∨ L' = L + 5 ∨ L = L' + 1 ∨ L = L' + 2 ∨ L = L' + 3 ∨ L = L' + 4 ∨ L = L' + 5 ∨ (L + 5 < L' ∨ L' + 5 < L)) with e | e | e | e | e | e | e | e | e | e | e | e
    · omega
    · subst e; exact (nn b0 a1).elim
    · subst e; exact (nn b0 a2).elim
    · subst e; exact (nn b0 a3).elim
    · subst e; exact (nn b0 a4).elim
    · subst e; exact (nn b0 a5).elim
    · subst e; exact (nn a0 b1).elim
    · subst e; exact (nn a0 b2).elim
    · subst e; exact (nn a0 b3).elim
    · subst e; exact (nn a0 b4).elim
    · subst e; exact (nn a0 b5).elim
    · omega
theorem CI.k4 (H : CI z h X S ls Lo K A tl T ft) {y : Nat} (hy : L4 Lo y) : zK h y = 20 ∧ X + 433 ≤ y := by
  obtain ⟨L, e1, rfl⟩ := hy
  have l1 := H.1.2.2.1 L e1
  have w := H.2.1.2.2.1
  subst e1
  obtain ⟨E, W, -⟩ := w
  exact ⟨LSk_a6k W.1.1.1, by omega⟩
theorem CI.kD (H : CI z h X S ls Lo K A tl T ft) {y : Nat} (hy : Dz X Lo y) : zK h y ≠ 12 ∧ zK h y ≠ 27 := by
  have s := H.1.1
  rcases hy with e | e | e | e
  · exact Pz_k (XSk_P4 s) (show Pz (X + 32) y from ⟨e.1, by omega⟩)
  · have J := XSk_J s
    have M := XSk_M s
    rcases (by omega : y = X + 89 ∨ y = X + 89 + 1 ∨ y = X + 89 + 2 ∨ y = X + 92 ∨ y = X + 92 + 1 ∨ y = X + 92 + 2 ∨ y = X + 95 ∨ y = X + 96) with r | r | r | r | r | r | r | r
    · rw [r, JSk_K J]; decide
    · rw [r, JSk_a0k J]; decide
    · rw [r, JSk_a2k J]; decide
    · rw [r, MSk_K M]; decide
    · rw [r, MSk_a0k M]; decide
    · rw [r, MSk_a1k M]; decide
    · rw [r, XSk_a12k s]; decide
    · rw [r, XSk_a13k s]; decide
  · rw [e, show X + 11 = X + 4 + 7 by omega, PSk_i7 (XSk_P3 s)]; decide
  · rw [(H.k4 e).1]; decide
theorem CI.dz (H : CI z h X S ls Lo K A tl T ft) (f : Fr (Dz X Lo) h h') : CI z h' X S ls Lo K A tl T ft := by
  refine H.fr f (fun x hx => ?_) (fun x hx => H.kD hx)
  rcases hx with e | e | e | e
  · exact Or.inr (Or.inl e)
  · exact Or.inr (Or.inr (Or.inl e))
  · exact Or.inr (Or.inr (Or.inr e))
  · exact H.sep e
theorem Dz_X {y : Nat} (hy : Dz X Lo y) : Xz X Lo y := by
  rcases hy with e | e | e | e
  · exact Or.inl (by omega)
  · exact Or.inl (by omega)
  · exact Or.inl (by omega)
  · exact Or.inr e
theorem Az_D {y : Nat} (hy : Az (X + 4) Lo y) : Dz X Lo y := by
  rcases hy with e | e
  · exact Or.inr (Or.inr (Or.inl (by omega)))
  · exact Or.inr (Or.inr (Or.inr e))
theorem Sz_D {y : Nat} (hy : Sz (X + 32) Lo y) : Dz X Lo y := by
  rcases hy with e | e
  · exact Or.inl ⟨e.1, by have := e.2; omega⟩
  · exact Or.inr (Or.inr (Or.inr e))
theorem Mv.fx (f : Fr (fun x => X ≤ x ∧ x < X + 433) h h') : Mv (Xz X Lo) 10 1000 h h' := (Mv.fr f).mo (fun x q => Or.inl q) (by decide) (by decide)
theorem Mv.fd (f : Fr (Dz X Lo) h h') : Mv (Xz X Lo) 10 1000 h h' := (Mv.fr f).mo (fun x q => Dz_X q) (by decide) (by decide)
theorem CA.rf (H : CI z h X S ls Lo K A tl T ft) (e : ev z d m 0 as [] h = some (.inl (some (.int v)), h)) : CA z d h X Lo m as es 0 v ((S, ls, Lo), K, A, tl, T, ft) := ⟨h, e, (Mv.fr Fr.rf).mo (fun _ q => q) (by decide) (by decide), H⟩
theorem CA.dz (H : CI z h X S ls Lo K A tl T ft) (f : Fr (Dz X Lo) h h') (e : ev z d m 0 as [] h = some (.inl (some (.int v)), h')) : CA z d h X Lo m as es 0 v ((S, ls, Lo), K, A, tl, T, ft) := ⟨h', e, Mv.fd f, H.dz f⟩
theorem CA.x (t : Tp h) (H : CI z h X S ls Lo K A tl T ft) (hx : es.getD k 9 = en) (e : ev z d m 0 as [] h = some (.inr en, znw h 0 6)) : CA z d h X Lo m as es (k + 1) v ((S, ls, Lo), K, A, tl, T, ft) := ⟨_, by rw [e, ← hx]; rfl, Mv.nw.mo (fun _ q => q) (by decide) (by decide), H.nw t⟩
theorem CA.dx (t : Tp h) (H : CI z h X S ls Lo K A tl T ft) (f : Fr (Dz X Lo) h h') (hx : es.getD k 9 = en) (e : ev z d m 0 as [] h = some (.inr en, znw h' 0 6)) : CA z d h X Lo m as es (k + 1) v ((S, ls, Lo), K, A, tl, T, ft) := ⟨_, by rw [e, ← hx]; rfl, ((Mv.fr (f.mo (fun x q => Dz_X q))).tr Mv.nw).mo (fun _ q => q) (by decide) (by decide), (H.dz f).nw (t.fr f)⟩
theorem RB.g (H : RI h R S K A tl T ft) (e : ev z d m 0 as [] h = some (.inl (some (.int v)), zwI h R 0 (nI 0))) : RB z d h R m as 0 v ((S, ls, Lo), K, A, tl, T, ft) := ⟨_, v, e, Fr.w ⟨by omega, by omega⟩, zI_wa, fun _ => rfl, H.s (Rs.w (by decide))⟩
theorem RB.t (H : RI h R S K A tl T ft) (hk : k ≠ 0) (e : ev z d m 0 as [] h = some (.inl (some (.int w)), zwI h R 0 (nI k))) : RB z d h R m as k v ((S, ls, Lo), K, A, tl, T, ft) := ⟨_, w, e, Fr.w ⟨by omega, by omega⟩, zI_wa, fun q => absurd q hk, H.s (Rs.w (by decide))⟩
theorem RI.w0 (H : RI h R S K A tl T ft) {v : Int32} : RI (zwI h R 0 v) R S K A tl T ft := H.s (Rs.w (by decide))
theorem chk {c : Prop} [Decidable c] {A B C D : Option (zO × Hp)} : (if bI c = 0 then (if nI 1 ≤ 0 then A else C) else (if nI 0 ≤ 0 then B else D)) = if c then B else C := by
  by_cases hc : c
  · rw [if_neg (by rw [bI_0]; exact fun q => q hc), if_pos (by decide), if_pos hc]
  · rw [if_pos (by rw [bI_0]; exact hc), if_neg (by decide), if_neg hc]
theorem inR_d {n : Nat} {A B : Option (zO × Hp)} : (if v < 0 then A else (if v < nI n then B else A)) = if inR v n then B else A := by
  by_cases h1 : v < 0
  · rw [if_pos h1, if_neg (fun q => q.1 h1)]
  · rw [if_neg h1]
    by_cases h2 : v < nI n
    · rw [if_pos h2, if_pos ⟨h1, h2⟩]
    · rw [if_neg h2, if_neg (fun q => h2 q.2)]
theorem C_needParty (H : CI z h X S ls Lo K A tl T ft) : ev z d 155 0 [.ref X, .int v] [] h = if inR v S.2.1 then some (.inl none, h) else some (.inr 2, znw h 0 6) := by
  rw [S_LI_needParty_0 H.1.1, H.2.1.1.2.1.cp, inR_d]
theorem C_needInk (H : CI z h X S ls Lo K A tl T ft) : ev z d 156 0 [.ref X, .int v] [] h = if inR v S.2.2.1 then some (.inl none, h) else some (.inr 2, znw h 0 6) := by
  rw [S_LI_needInk_0 H.1.1, H.2.1.1.2.1.ci, inR_d]
theorem C_needDeed (H : CI z h X S ls Lo K A tl T ft) : ev z d 157 0 [.ref X, .int v] [] h = if inR v S.2.2.2 then some (.inl none, h) else some (.inr 2, znw h 0 6) := by
  rw [S_LI_needDeed_0 H.1.1, H.2.1.1.2.1.cd, inR_d]
theorem CI.sk (H : CI z h X S ls Lo K A tl T ft) : PSk h (X + 4) := XSk_P3 H.1.1
theorem CI.rp (H : CI z h X S ls Lo K A tl T ft) : PRp h (X + 4) S.1 S.2.1 S.2.2.1 S.2.2.2 := H.2.1.1.2.1
theorem CI.bk (H : CI z h X S ls Lo K A tl T ft) : BKp h (X + 4) S.1 := H.2.1.1.2.2
theorem RI.i (H : RI h R S K A tl T ft) : zI h (R + 1) = S.1 := H.1.2.1
theorem R_isParty (H : RI h R S K A tl T ft) (ok : Ok S) : ev z d 183 0 [.ref R, .int v] [] h = some (.inl (some (.int (bI (inR v S.2.1)))), h) := T_M_isParty H.1.1 (by have := ok.1; omega) (by rw [H.i]; exact ok.1.1)
theorem R_isInk (H : RI h R S K A tl T ft) (ok : Ok S) : ev z d 184 0 [.ref R, .int v] [] h = some (.inl (some (.int (bI (inR v S.2.2.1)))), h) := T_M_isInk H.1.1 (by have := ok.1; omega) (by rw [H.i]; exact ok.1.2.1)
theorem R_isDeed (H : RI h R S K A tl T ft) (ok : Ok S) : ev z d 185 0 [.ref R, .int v] [] h = some (.inl (some (.int (bI (inR v S.2.2.2)))), h) := T_M_isDeed H.1.1 (by have := ok.1; omega) (by rw [H.i]; exact ok.1.2.2.1)
end
