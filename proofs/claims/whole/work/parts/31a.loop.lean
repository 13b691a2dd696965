/-! THE LOOP'S INVARIANT: the script, the class, the reference, the array for answers -/
section
variable {z : ZE} {d : Nat} {h h' : Hp} {X R L N b o j : Nat} {S : PSt} {K : Option Img} {A : List PSt} {tl : Nat} {T : Row} {ft : Int32} {ls : List LN} {Lo : Option Nat} {c s : Nat} {xs : Nat → Int32}
theorem RL_sep (s1 : LSk h L N) (s2 : RSk h R) : L + 5 < R ∨ R + 10 < L := by
  have a0 := LSk_K s1
  have a1 := LSk_a2k s1
  have a2 := LSk_a3k s1
  have a3 := LSk_a4k s1
  have a4 := LSk_a6k s1
  have a5 := LSk_a0k s1
  have b0 := RSk_K s2
  have b1 := RSk_k1 s2
  have b2 := RSk_k2 s2
  have b3 := RSk_k4 s2
  have b4 := RSk_k5 s2
  have b5 := RSk_k7 s2
  have b6 := RSk_k14 s2
  have b7 := RSk_k20 s2
  have b8 := RSk_k21 s2
  have b9 := RSk_k22 s2
  have b10 := RSk_k23 s2
  have ar : ∀ i, 1 ≤ i → i ≤ 10 → 20 ≤ zK h (R + i) := by
    intro i h1 h2
    rcases (by omega : i = 1 ∨ i = 2 ∨ i = 3 ∨ i = 4 ∨ i = 5 ∨ i = 6 ∨ i = 7 ∨ i = 8 ∨ i = 9 ∨ i = 10) with e | e | e | e | e | e | e | e | e | e <;> subst e <;> omega
  have al : ∀ i, 1 ≤ i → i ≤ 5 → 20 ≤ zK h (L + i) := by
    intro i h1 h2
    rcases (by omega : i = 1 ∨ i = 2 ∨ i = 3 ∨ i = 4 ∨ i = 5) with e | e | e | e | e <;> subst e <;> omega
  by_cases c1 : L + 5 < R
  · exact Or.inl c1
  · by_cases c2 : R + 10 < L
    · exact Or.inr c2
    · exfalso
      rcases Nat.lt_trichotomy L R with e | e | e
      · have q := al (R - L) (by omega) (by omega)
        rw [show L + (R - L) = R by omega] at q
        omega
      · subst e; omega
      · have q := ar (L - R) (by omega) (by omega)
        rw [show R + (L - R) = L by omega] at q
        omega
theorem Rz_k (s2 : RSk h R) {x : Nat} (hx : Rz R x) : zK h x ≠ 12 ∧ zK h x ≠ 27 := by
  have b0 := RSk_K s2
  have b1 := RSk_k1 s2
  have b2 := RSk_k2 s2
  have b3 := RSk_k4 s2
  have b4 := RSk_k5 s2
  have b5 := RSk_k7 s2
  have b6 := RSk_k14 s2
  have b7 := RSk_k20 s2
  have b8 := RSk_k21 s2
  have b9 := RSk_k22 s2
  have b10 := RSk_k23 s2
  have hx : R ≤ x ∧ x < R + 11 := hx
  obtain ⟨i, rfl⟩ : ∃ i, x = R + i := ⟨x - R, by omega⟩
  rcases (by omega : i = 0 ∨ i = 1 ∨ i = 2 ∨ i = 3 ∨ i = 4 ∨ i = 5 ∨ i = 6 ∨ i = 7 ∨ i = 8 ∨ i = 9 ∨ i = 10) with e | e | e | e | e | e | e | e | e | e | e <;> subst e
  · rw [Nat.add_zero]; omega
  all_goals omega
theorem CI.sepR (H : CI z h X S ls Lo K A tl T ft) (s2 : RSk h R) (hL : Lo = some L) : L + 5 < R ∨ R + 10 < L := by
  have w := H.2.1.2.2.1
  subst hL
  obtain ⟨E, W, -⟩ := w
  exact RL_sep W.1.1.1 s2
theorem CI.sepK (H : CI z h X S ls Lo K A tl T ft) (s2 : RSk h R) {q : Img} (e : K = some q) (e2 : q.2.2 = some L) : L + 5 < R ∨ R + 10 < L := by
  subst e
  have k1 := H.2.2.2.2.1.2.2.2.1
  rw [e2] at k1
  obtain ⟨E', W', -⟩ := k1
  exact RL_sep W'.1.1.1 s2
theorem Rz_Sc (H : CI z h X S ls Lo K A tl T ft) (s2 : RSk h R) (l : X + 433 ≤ R) (x : Nat) (hx : Rz R x) : Sc X Lo K x := by
  have hx : R ≤ x ∧ x < R + 11 := hx
  refine Or.inl ⟨Or.inr (by omega), fun L e => ?_, fun q L e e2 => ?_⟩
  · have := H.sepR s2 e
    omega
  · have := H.sepK s2 e e2
    omega
theorem CI.rz (H : CI z h X S ls Lo K A tl T ft) (s2 : RSk h R) (l : X + 433 ≤ R) (f : Fr (Rz R) h h') : CI z h' X S ls Lo K A tl T ft := H.fr f (Rz_Sc H s2 l) (fun x hx => Rz_k s2 hx)
theorem RI.mw (C : CI z h X S ls Lo K A tl T ft) (H : RI h R S K A tl T ft) (t : Tp h) (l : X + 433 ≤ R) (M : Mw (Xz X Lo) o c s h h') : RI h' R S K A tl T ft := by
  have tr := t.rl H.1.1
  have na : ∀ x, R ≤ x ∧ x < R + 11 → ¬ Xz X Lo x := by
    intro x hx q
    rcases q with e | e
    · omega
    · obtain ⟨L, e1, rfl⟩ := e
      have := C.sepR H.1.1 e1
      omega
  exact H.ag (D := fun x => R ≤ x ∧ x < R + 11) (E := fun x => R ≤ x ∧ x < R + 11) ⟨fun x hx => ⟨(M.1 x (by omega)).1, (M.1 x (by omega)).2, (M.2.1 x (by omega) (na x hx)).1⟩, fun x hx => (M.2.1 x (by omega) (na x hx)).2⟩ (fun j hj => by omega) (by omega)
/-- the script and the array for answers -/
def SX (b L X R o : Nat) (xs : Nat → Int32) (h : Hp) : Prop := (b < X ∧ X + 433 ≤ R ∧ R + 11 ≤ o) ∧ (zK h b = 28 ∧ zN h b = L ∧ ∀ k, k < L → zI h b k = xs k) ∧ (zK h o = 26 ∧ zN h o = 1) ∧ Tp h ∧ B15 X h
theorem SX.ol (s : SX b L X R o xs h) : o < zT h := s.2.2.2.1.lt s.2.2.1.1 (by decide)
theorem SX.mw {r : zO} {m pc : Nat} {as st : List Value} {cc ss : Nat} (s : SX b L X R o xs h) (C : CI z h X S ls Lo K A tl T ft) (M : Mw (Xz X Lo) o cc ss h h') (e : ev z d m pc as st h = some (r, h')) : SX b L X R o xs h' := by
  have o1 := s.ol
  obtain ⟨⟨l1, l2, l3⟩, ⟨k1, k2, k3⟩, ⟨o2, o3⟩, t, bz⟩ := s
  have b1 : b < zT h := t.lt k1 (by decide)
  have na : ¬ Xz X Lo b := by
    intro q
    rcases q with e | e
    · omega
    · rw [(C.k4 e).1] at k1; cases k1
  refine ⟨⟨l1, l2, l3⟩, ⟨(M.1 b b1).1.trans k1, (M.1 b b1).2.trans k2, fun k hk => ?_⟩, ⟨(M.1 o o1).1.trans o2, (M.1 o o1).2.trans o3⟩, M.2.2.2.2.1 t, B15_ev e bz⟩
  rw [(M.2.1 b b1 na).1]
  exact k3 k hk
theorem SX.rz {r : zO} {m pc : Nat} {as st : List Value} (s : SX b L X R o xs h) (f : Fr (Rz R) h h') (e : ev z d m pc as st h = some (r, h')) : SX b L X R o xs h' := by
  obtain ⟨⟨l1, l2, l3⟩, ⟨k1, k2, k3⟩, ⟨o2, o3⟩, t, bz⟩ := s
  refine ⟨⟨l1, l2, l3⟩, ⟨by rw [f.k]; exact k1, by rw [f.n]; exact k2, fun k hk => ?_⟩, ⟨by rw [f.k]; exact o2, by rw [f.n]; exact o3⟩, t.fr f, B15_ev e bz⟩
  rw [f.i (fun q => by have q : R ≤ b ∧ b < R + 11 := q; omega)]
  exact k3 k hk
theorem ar_j {a b c e j : Nat} (h1 : a ≤ b + c) (h2 : b ≤ e + c * j) : a ≤ e + c * (j + 1) := by
  rw [Nat.mul_succ]
  omega
/-- the invariant, j calls done -/
def IV (z : ZE) (b L X R o : Nat) (xs : Nat → Int32) (j : Nat) (h : Hp) : Prop := SX b L X R o xs h ∧ ∃ q : Stt, CV z h X q ∧ RV h R q ∧ OV q ∧ zC h ≤ 1000 + 10 * j ∧ zS h ≤ 100000 + 1000 * j
/-- behind the class's call, before the reference's -/
def MD (z : ZE) (b L X R o : Nat) (xs : Nat → Int32) (j : Nat) (h : Hp) (S : PSt) (K : Option Img) (A : List PSt) (tl : Nat) (T : Row) (ft : Int32) (q : Stt) : Prop := SX b L X R o xs h ∧ CV z h X q ∧ RI h R S K A tl T ft ∧ zC h ≤ 1000 + 10 * (j + 1) ∧ zS h ≤ 100000 + 1000 * (j + 1)
theorem mid_W {m k : Nat} {as : List Value} {v : Int32} {q : Stt} (s : SX b L X R o xs h) (C : CI z h X S ls Lo K A tl T ft) (H : RI h R S K A tl T ft) (n : zC h ≤ 1000 + 10 * j ∧ zS h ≤ 100000 + 1000 * j) (Q : Wq z d h X Lo o m as k v q) : ∃ h', ev z d m 0 as [] h = some (.inl (some (.int (nI k))), h') ∧ MD z b L X R o xs j h' S K A tl T ft q ∧ (k = 0 → zJ h' o 0 = v.toInt64) := by
  obtain ⟨h', e, M, C1, j1⟩ := Q
  have m1 := M.2.2.2.2.2.1
  have m2 := M.2.2.2.2.2.2
  obtain ⟨n1, n2⟩ := n
  have c1 : zC h' ≤ 1000 + 10 * (j + 1) := by omega
  have c2 : zS h' ≤ 100000 + 1000 * (j + 1) := ar_j m2 n2
  exact ⟨h', e, ⟨s.mw C M e, C1, H.mw C s.2.2.2.1 s.1.2.1 M, c1, c2⟩, j1⟩
theorem mid_E {m : Nat} {as : List Value} {v : Option Value} {q : Stt} (s : SX b L X R o xs h) (C : CI z h X S ls Lo K A tl T ft) (H : RI h R S K A tl T ft) (n : zC h ≤ 1000 + 10 * j ∧ zS h ≤ 100000 + 1000 * j) (Q : CE z d h X Lo m as v q) : ∃ h', ev z d m 0 as [] h = some (.inl v, h') ∧ MD z b L X R o xs j h' S K A tl T ft q := by
  obtain ⟨h', e, M, C1⟩ := Q
  have M := Mw.of (o := o) M
  have m1 := M.2.2.2.2.2.1
  have m2 := M.2.2.2.2.2.2
  obtain ⟨n1, n2⟩ := n
  have c1 : zC h' ≤ 1000 + 10 * (j + 1) := by omega
  have c2 : zS h' ≤ 100000 + 1000 * (j + 1) := ar_j m2 n2
  exact ⟨h', e, ⟨s.mw C M e, C1, H.mw C s.2.2.2.1 s.1.2.1 M, c1, c2⟩⟩
theorem end_B {m k : Nat} {as : List Value} {v : Int32} {q : Stt} (M : MD z b L X R o xs j h S K A tl T ft q) (oq : OV q) (B : RB z d h R m as k v q) : ∃ h' w, ev z d m 0 as [] h = some (.inl (some (.int w)), h') ∧ zI h' R 0 = nI k ∧ (k = 0 → w = v) ∧ zJ h' = zJ h ∧ RSk h' R ∧ IV z b L X R o xs (j + 1) h' := by
  obtain ⟨h', w, e, f, t, wv, R1⟩ := B
  obtain ⟨s, C, H, n1, n2⟩ := M
  refine ⟨h', w, e, t, wv, f.1.2.2.1, RSk_fr f H.1.1, s.rz f e, q, CI.rz C H.1.1 s.1.2.1 f, R1, oq, ?_, ?_⟩
  · rw [f.1.2.2.2.2.1]; exact n1
  · rw [f.1.2.2.2.2.2]; exact n2
theorem end_E {m : Nat} {as : List Value} {v : Option Value} {q : Stt} (M : MD z b L X R o xs j h S K A tl T ft q) (oq : OV q) (B : RE z d h R m as v q) : ∃ h', ev z d m 0 as [] h = some (.inl v, h') ∧ IV z b L X R o xs (j + 1) h' := by
  obtain ⟨h', e, f, R1⟩ := B
  obtain ⟨s, C, H, n1, n2⟩ := M
  refine ⟨h', e, s.rz f e, q, CI.rz C H.1.1 s.1.2.1 f, R1, oq, ?_, ?_⟩
  · rw [f.1.2.2.2.2.1]; exact n1
  · rw [f.1.2.2.2.2.2]; exact n2
theorem IV.up (I : IV z b L X R o xs j h) : IV z b L X R o xs (j + 1) h := by
  obtain ⟨s, q, C, H, ok, n1, n2⟩ := I
  exact ⟨s, q, C, H, ok, ar_j (Nat.le_add_right _ _) n1, ar_j (Nat.le_add_right _ _) n2⟩
theorem IV.un (I : IV z b L X R o xs j h) : ∃ (S : PSt) (ls : List LN) (Lo : Option Nat) (K : Option Img) (A : List PSt) (tl : Nat) (T : Row) (ft : Int32), SX b L X R o xs h ∧ CI z h X S ls Lo K A tl T ft ∧ RI h R S K A tl T ft ∧ OkA S ls K A ∧ (zC h ≤ 1000 + 10 * j ∧ zS h ≤ 100000 + 1000 * j) ∧ zI h (X + 1) = T := by
  obtain ⟨s, ⟨⟨S, ls, Lo⟩, K, A, tl, T, ft⟩, C, H, ok, n1, n2⟩ := I
  have C : CI z h X S ls Lo K A tl T ft := C
  have H : RI h R S K A tl T ft := H
  obtain ⟨c1, c2, ⟨t1, t2, t3⟩, c4⟩ := C
  obtain ⟨r1, ⟨u1, u2, u3⟩, r4⟩ := H
  exact ⟨S, ls, Lo, K, A, tl, zI h (X + 1), ft, s, ⟨c1, c2, ⟨t1, t2, fun k hk => rfl⟩, c4⟩, ⟨r1, ⟨u1, u2, fun k hk => (u3 k hk).trans (t3 k hk).symm⟩, r4⟩, ok, ⟨n1, n2⟩, rfl⟩
end
/-! the states of the simplest calls are well -/
section
variable {S : PSt} {K : Option Img} {A : List PSt} {tl : Nat} {T : Row} {ft v1 v2 v3 v4 v5 v : Int32} {ls : List LN} {Lo : Option Nat}
theorem O_feed (ok : OkA S ls K A) : OV (fdQ S ls Lo K A tl T ft v1 v2 v3 v4 v5) := by
  unfold fdQ
  split
  · exact ok
  · exact ok
theorem O_end (ok : OkA S ls K A) : OV (enQ S ls Lo K A tl T ft v) := ok
theorem O_image (ok : OkA S ls K A) : OV ((S, ls, Lo), some (S, ls, Lo), A, tl, T, ft) := ok.im
theorem O_undo (ok : OkA S ls K A) : OV (unQ S ls Lo K A tl T ft) := by
  cases A with
  | nil => exact ok
  | cons S1 A => exact ok.un (OkL_cg ok.1.2.1 (ok.2.2 S1 List.mem_cons_self).2)
theorem O_back (ok : OkA S ls K A) : OV (bkQ S ls Lo K A tl T ft) := by
  cases K with
  | none => exact ok
  | some q => exact ok.bk
end
/-! both sides of a call -/
section
variable {z : ZE} {h : Hp} {X R L b o j : Nat} {S : PSt} {K : Option Img} {A : List PSt} {tl : Nat} {T : Row} {ft : Int32} {ls : List LN} {Lo : Option Nat} {xs : Nat → Int32}
theorem both_W (P : Int32 → Prop) {m k m2 : Nat} {as as2 : List Value} {v : Int32} {q : Stt} (s : SX b L X R o xs h) (C : CI z h X S ls Lo K A tl T ft) (H : RI h R S K A tl T ft) (n : zC h ≤ 1000 + 10 * j ∧ zS h ≤ 100000 + 1000 * j) (Q : Wq z 8 h X Lo o m as k v q) (k3 : k ≤ 3) (oq : OV q) (pv : P v) (RF : ∀ h1, MD z b L X R o xs j h1 S K A tl T ft q → RB z 8 h1 R m2 as2 k v q) : ∃ (kk : Nat) (h1 : Hp) (w : Int32) (h2 : Hp), kk ≤ 3 ∧ ev z 8 m 0 as [] h = some (.inl (some (.int (nI kk))), h1) ∧ SX b L X R o xs h1 ∧ RSk h1 R ∧ ev z 8 m2 0 as2 [] h1 = some (.inl (some (.int w)), h2) ∧ zI h2 R 0 = nI kk ∧ RSk h2 R ∧ (kk = 0 → zJ h2 o 0 = w.toInt64) ∧ (kk = 0 → P w) ∧ IV z b L X R o xs (j + 1) h2 := by
  obtain ⟨h1, e1, M1, j1⟩ := mid_W (j := j) s C H n Q
  obtain ⟨h2, w, e2, t2, wv, jj, r2, I2⟩ := end_B M1 oq (RF h1 M1)
  exact ⟨k, h1, w, h2, k3, e1, M1.1, M1.2.2.1.1.1, e2, t2, r2, fun c => (congrFun (congrFun jj o) 0).trans ((j1 c).trans (congrArg Int32.toInt64 (wv c).symm)), fun c => by rw [wv c]; exact pv, I2⟩
theorem both_E {m m2 : Nat} {as as2 : List Value} {v : Option Value} {q : Stt} (s : SX b L X R o xs h) (C : CI z h X S ls Lo K A tl T ft) (H : RI h R S K A tl T ft) (n : zC h ≤ 1000 + 10 * j ∧ zS h ≤ 100000 + 1000 * j) (Q : CE z 8 h X Lo m as v q) (oq : OV q) (RF : ∀ h1, MD z b L X R o xs j h1 S K A tl T ft q → RE z 8 h1 R m2 as2 v q) : ∃ (h1 h2 : Hp), ev z 8 m 0 as [] h = some (.inl v, h1) ∧ SX b L X R o xs h1 ∧ RSk h1 R ∧ ev z 8 m2 0 as2 [] h1 = some (.inl v, h2) ∧ IV z b L X R o xs (j + 1) h2 := by
  obtain ⟨h1, e1, M1⟩ := mid_E (o := o) (j := j) s C H n Q
  obtain ⟨h2, e2, I2⟩ := end_E M1 oq (RF h1 M1)
  exact ⟨h1, h2, e1, M1.1, M1.2.2.1.1.1, e2, I2⟩
theorem both_V {m m2 : Nat} {as as2 : List Value} {v : Int32} {q : Stt} (s : SX b L X R o xs h) (C : CI z h X S ls Lo K A tl T ft) (H : RI h R S K A tl T ft) (n : zC h ≤ 1000 + 10 * j ∧ zS h ≤ 100000 + 1000 * j) (Q : CE z 8 h X Lo m as (some (.int v)) q) (oq : OV q) (RF : ∀ h1, MD z b L X R o xs j h1 S K A tl T ft q → RE z 8 h1 R m2 as2 (some (.int v)) q) : ∃ (w : Int32) (h1 h2 : Hp), ev z 8 m 0 as [] h = some (.inl (some (.int w)), h1) ∧ SX b L X R o xs h1 ∧ RSk h1 R ∧ ev z 8 m2 0 as2 [] h1 = some (.inl (some (.int w)), h2) ∧ IV z b L X R o xs (j + 1) h2 := ⟨v, both_E s C H n Q oq RF⟩
end
