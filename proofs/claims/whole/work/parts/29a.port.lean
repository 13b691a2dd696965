/-! PORT: what is meant; the reference -/
def poS (S S1 : PSt) : PSt := (up S1.1 0 (S.1 0 + nI 1), S1.2)
def poK (T : Row) (tl : Nat) (S : PSt) : Nat := match ptT T tl S with
  | .inl _ => 1
  | .inr _ => if S.1 0 = nI 12 then 2 else 0
def poQ (S : PSt) (ls : List LN) (Lo : Option Nat) (K : Option Img) (A : List PSt) (tl : Nat) (T : Row) : Stt := match ptT T tl S with
  | .inl e => ((S, ls, Lo), K, A, 0, T, nI e)
  | .inr S1 => if S.1 0 = nI 12 then ((S, ls, Lo), K, A, 0, T, -1) else ((poS S S1, ls, Lo), K, [], 0, T, -1)
theorem mm0 {h : Hp} {R j : Nat} {P : Row} {v : Int32} : zwI (mH h R P) R j v = mH (zwI h R j v) R P := by
  refine hI_ext (fun x y => ?_)
  show (if x = R ∧ y = j then v else if x = R + 1 then P y else zI h x y) = if x = R + 1 then P y else (if x = R ∧ y = j then v else zI h x y)
  by_cases c : x = R + 1
  · rw [if_pos c, if_pos c, if_neg (fun q => by omega)]
  · rw [if_neg c, if_neg c]
theorem ww_id {h : Hp} {R j : Nat} {v : Int32} (e : zI h R j = v) : zwI h R j v = h := by
  refine (zw_hI (h := h)).trans ?_
  refine (hI_ext (g := zI h) (fun x y => ?_)).trans rfl
  unfold zup
  by_cases c : x = R ∧ y = j
  · rw [if_pos c, c.1, c.2, e]
  · rw [if_neg c]
section
variable {z : ZE} {d : Nat} {h h' g : Hp} {X R p : Nat} {S S1 : PSt} {K : Option Img} {A : List PSt} {tl : Nat} {T : Row} {ft : Int32} {ls : List LN} {Lo : Option Nat} {P Q : Row} {np ni nd m k r : Nat} {u v w : Int32}
/-- the fault of the reference -/
theorem RI.f12 (H : RI h R S K A tl T ft) : RI (zwI h R 12 v) R S K A tl T v := by
  obtain ⟨⟨r1, r2, r3⟩, ⟨t1, t2, t3⟩, f1, k1, a1, a2, a3⟩ := H
  have o : ∀ {x : Nat}, x ≠ R → zI (zwI h R 12 v) x = zI h x := fun hx => funext fun y => zI_wb hx
  refine ⟨⟨RSk_w r1, (o (by omega)).trans r2, (zI_wj (by decide)).trans r3⟩, ⟨(zI_wj (by decide)).trans t1, t2, fun k hk => by rw [o (by omega)]; exact t3 k hk⟩, zI_wa, ?_, (zI_wj (by decide)).trans a1, a2, fun a S' e i hi => by rw [o (by omega)]; exact a3 a S' e i hi⟩
  cases K with
  | none => exact (zI_wj (by decide)).trans k1
  | some q => exact ⟨(zI_wj (by decide)).trans k1.1, fun i hi => by rw [o (by omega)]; exact k1.2 i hi⟩
/-- no acts any more -/
theorem RI.a0 (H : RI h R S K A tl T ft) : RI (zwI h R 6 (nI 0)) R S K [] tl T ft := by
  obtain ⟨⟨r1, r2, r3⟩, ⟨t1, t2, t3⟩, f1, k1, a1, a2, a3⟩ := H
  have o : ∀ {x : Nat}, x ≠ R → zI (zwI h R 6 (nI 0)) x = zI h x := fun hx => funext fun y => zI_wb hx
  refine ⟨⟨RSk_w r1, (o (by omega)).trans r2, (zI_wj (by decide)).trans r3⟩, ⟨(zI_wj (by decide)).trans t1, t2, fun k hk => by rw [o (by omega)]; exact t3 k hk⟩, (zI_wj (by decide)).trans f1, ?_, zI_wa, by decide, fun a S' e => by cases e⟩
  cases K with
  | none => exact (zI_wj (by decide)).trans k1
  | some q => exact ⟨(zI_wj (by decide)).trans k1.1, fun i hi => by rw [o (by omega)]; exact k1.2 i hi⟩
/-- the reference begins to read -/
theorem R_begins (H : RI h R S K A tl T ft) : ∃ h', ev z d 209 0 [.ref R] [] h = some (.inl none, h') ∧ Fr (Rz R) h h' ∧ RI h' R S K A 0 T (-1) ∧ MTt h' R T tl ∧ aH (mH h' R S.1) R 0 = h' ∧ zI h' (R + 3) = zI h (R + 3) ∧ zI h' R 10 = nI tl := by
  refine ⟨_, S_M_begins_0 H.1.1, ?_, ?_⟩
  · exact Fr.a (Fr.a (Fr.a (Fr.a (Fr.a (Fr.w ⟨by omega, by omega⟩) ⟨by omega, by omega⟩) ⟨by omega, by omega⟩) ⟨by omega, by omega⟩) ⟨by omega, by omega⟩) ⟨by omega, by omega⟩
  · have G1 := H.f12 (v := -1)
    have G2 := G1.s (Rs.w (j := 9) (v := -1) (by decide))
    have G3 := G2.s (Rs.w (j := 10) (v := zI h R 8) (by decide))
    have G4 := G3.cut (m := 0) (by omega)
    have G5 := G4.s (Rs.w (j := 11) (v := nI 0) (by decide))
    have G6 := G5.s (Rs.w (j := 13) (v := nI 0) (by decide))
    have e10 : zI h R 8 = nI tl := H.2.1.1
    generalize hG : zwI (zwI (zwI (zwI (zwI (zwI h R 12 (-1)) R 9 (-1)) R 10 (zI h R 8)) R 8 (nI 0)) R 11 (nI 0)) R 13 (nI 0) = G at *
    have o : ∀ {x : Nat}, x ≠ R → zI G x = zI h x := fun hx => by
      rw [← hG]
      funext y
      simp only [zI_wb hx]
    have j9 : zI G R 9 = -1 := by rw [← hG]; simp only [zI_wj (show (9 : Nat) ≠ 13 by decide), zI_wj (show (9 : Nat) ≠ 11 by decide), zI_wj (show (9 : Nat) ≠ 8 by decide), zI_wj (show (9 : Nat) ≠ 10 by decide), zI_wa]
    have j10 : zI G R 10 = nI tl := by rw [← hG, ← e10]; simp only [zI_wj (show (10 : Nat) ≠ 13 by decide), zI_wj (show (10 : Nat) ≠ 11 by decide), zI_wj (show (10 : Nat) ≠ 8 by decide), zI_wa]
    have j11 : zI G R 11 = nI 0 := by rw [← hG]; simp only [zI_wj (show (11 : Nat) ≠ 13 by decide), zI_wa]
    refine ⟨G6, ⟨G6.1.1, H.2.1.2.1, j10, j9, fun k hk => ?_⟩, ?_, o (by omega), j10⟩
    · rw [o (by omega)]
      exact H.2.1.2.2 k hk
    · rw [G6.id]
      exact ww_id j11
theorem R_port (W : WA z h) (H : RI h R S K A tl T ft) (ok : OkA S ls K A) : RB z d h R 213 [.ref R, zu] (poK T tl S) (S.1 0 + nI 1) (poQ S ls Lo K A tl T) := by
  obtain ⟨h0, e0, q0, s0, r0, a0, z0⟩ := T_M_pa (z := z) (d := d) H.1.1
  have H0 := H.q q0
  obtain ⟨h1, e1, f1, H1, M1, i1, b1, -⟩ := R_begins (z := z) (d := d) H0
  have W1 : WA z h1 := (W.rz H.1.1 q0.fz).rz s0 f1
  have a1 : zI h1 (R + 3) = cp S.1 (zI h (R + 3)) 0 381 := by rw [b1, a0, H.i]
  have T1 := T_M_readPort (z := z) (d := d) M1 H1.2.2.1 W1 ok.1.1
  rw [i1] at T1
  have F1 : Fr (Rz R) h h1 := q0.fz.tr f1
  have st : ev z d 213 0 [.ref R, zu] [] h = zbd (ev z d 210 0 [.ref R, .int (nI 0), zu, zu] [] h1) (fun v h' => ev z d 213 13 [.ref R, zu] (v.toList ++ []) h') (fun e h' => evx z d 213 10 [.ref R, zu] e h') := by
    rw [S_M_port_0 H.1.1, e0]
    simp only [zbd_i, tl_n]
    rw [S_M_port_4 s0, e1]
    simp only [zbd_i, tl_n]
    rw [S_M_port_8 H1.1.1]
  have back : ∀ {g : Hp} {Q : Row} {w1 : Value} {j : Nat}, RSk g R → zI g (R + 3) = cp S.1 (zI h (R + 3)) 0 381 → (∀ i, 381 ≤ i → Q i = S.1 i) → zbd (ev z d 212 0 [.ref R, zu] [] (zwI (mH g R Q) R 0 (nI j))) (fun v h' => ev z d 213 57 [.ref R, w1] (v.toList ++ []) h') (fun e h' => evx z d 213 54 [.ref R, w1] e h') = some (.inl (some (.int (nI 0))), mH (zwI g R 0 (nI j)) R S.1) := by
    intro g Q w1 j s1 a hQ
    rw [mm0, T_M_cb (f := zI h (R + 3)) (RSk_w s1) (by rw [← a]; exact funext fun y => zI_wb (by omega)) hQ]
    simp only [zbd_i, tl_n, S_M_port_57]
  show RB z d h R 213 [.ref R, zu] (match rdP T tl S with
    | .inl _ => 1
    | .inr _ => if S.1 0 = nI 12 then 2 else 0) _ (match rdP T tl S with
    | .inl e => ((S, ls, Lo), K, A, 0, T, nI e)
    | .inr S1 => if S.1 0 = nI 12 then ((S, ls, Lo), K, A, 0, T, -1) else ((poS S S1, ls, Lo), K, [], 0, T, -1))
  revert T1
  cases rdP T tl S with
  | inl e =>
    rintro ⟨k, a, P', he, hK, eq⟩
    have he4 : e < 2 ^ 31 := by have := H.2.1.2.1; omega
    have eG : fH (mH h1 R P') R a e = mH (zwI (zwI h1 R 11 (nI a)) R 12 (nI e)) R P' := by
      unfold fH aH
      rw [mm0, mm0]
    have G1 : RI (zwI (zwI h1 R 11 (nI a)) R 12 (nI e)) R S K A 0 T (nI e) := (H1.s (Rs.w (by decide))).f12
    have a2 : zI (zwI (zwI h1 R 11 (nI a)) R 12 (nI e)) (R + 3) = cp S.1 (zI h (R + 3)) 0 381 := by
      rw [← a1]
      exact funext fun y => (zI_wb (by omega)).trans (zI_wb (by omega))
    have f2 : Fr (Rz R) h (zwI (zwI h1 R 11 (nI a)) R 12 (nI e)) := Fr.a (Fr.a F1 ⟨by omega, by omega⟩) ⟨by omega, by omega⟩
    rw [eG] at eq
    have j12 : zI (zwI (zwI h1 R 11 (nI a)) R 12 (nI e)) R 12 = nI e := zI_wa
    generalize zwI (zwI h1 R 11 (nI a)) R 12 (nI e) = G at *
    refine ⟨mH (zwI G R 0 (nI 1)) R S.1, nI 0, ?_, ?_, ?_, fun q => absurd (show (1 : Nat) = 0 from q) (by decide), (G1.w0 (v := nI 1)).m⟩
    · rw [st, eq]
      simp only [zbd_i, tl_s]
      rw [S_M_port_13 (mr G1.1.1), moR, j12, if_neg (nI_ne1 he4), if_neg (by decide)]
      exact back G1.1.1 a2 (fun i hi => hK i (by omega))
    · rw [mv]
      exact (Fr.a f2 ⟨by omega, by omega⟩).tr (v_f ⟨by omega, by omega⟩)
    · rw [moR, zI_wa]
  | inr S1 =>
    rintro ⟨k, a, ok1, hK, eq⟩
    have G1 : RI (zwI h1 R 11 (nI a)) R S K A 0 T (-1) := H1.s (Rs.w (by decide))
    have eG : aH (mH h1 R S1.1) R a = mH (zwI h1 R 11 (nI a)) R S1.1 := mm0
    have a2 : zI (zwI h1 R 11 (nI a)) (R + 3) = cp S.1 (zI h (R + 3)) 0 381 := by
      rw [← a1]
      exact funext fun y => zI_wb (by omega)
    have f2 : Fr (Rz R) h (zwI h1 R 11 (nI a)) := Fr.a F1 ⟨by omega, by omega⟩
    rw [eG] at eq
    generalize zwI h1 R 11 (nI a) = G at *
    have e00 : S1.1 0 = S.1 0 := hK 0 (Or.inl rfl)
    have q1 : ev z d 213 0 [.ref R, zu] [] h = ev z d 213 13 [.ref R, zu] [.int k] (mH G R S1.1) := by
      rw [st, eq]
      simp only [zbd_i, tl_s]
    rw [S_M_port_13 (mr G1.1.1), moR, G1.2.2.1, if_pos rfl, congrFun m_1 0, e00] at q1
    by_cases c : S.1 0 = nI 12
    · simp only [if_pos c]
      rw [if_pos c, if_neg (by decide)] at q1
      refine ⟨mH (zwI G R 0 (nI 2)) R S.1, nI 0, ?_, ?_, ?_, fun q => absurd q (by decide), (G1.w0 (v := nI 2)).m⟩
      · rw [q1]
        exact back G1.1.1 a2 (fun i hi => hK i (by omega))
      · rw [mv]
        exact (Fr.a f2 ⟨by omega, by omega⟩).tr (v_f ⟨by omega, by omega⟩)
      · rw [moR, zI_wa]
    · simp only [if_neg c]
      rw [if_neg c, if_pos (by decide)] at q1
      have i0 : zI (zwI (mH G R S1.1) R 0 (nI 0)) (R + 1) 0 = S.1 0 := by
        rw [zI_wb (by omega), congrFun m_1 0, e00]
      rw [i0] at q1
      have G2 : RI (zwI (mH G R S1.1) R 0 (nI 0)) R S1 K A 0 T (-1) := (G1.m (Q := S1.1)).w0
      have G3 : RI (zwI (zwI (mH G R S1.1) R 0 (nI 0)) (R + 1) 0 (S.1 0 + nI 1)) R (poS S S1) K A 0 T (-1) := G2.wr
      have f3 : Fr (Rz R) h (zwI (zwI (mH G R S1.1) R 0 (nI 0)) (R + 1) 0 (S.1 0 + nI 1)) := by
        rw [mv]
        exact Fr.a (Fr.a (f2.tr (v_f ⟨by omega, by omega⟩)) ⟨by omega, by omega⟩) ⟨by omega, by omega⟩
      have v0 : zI (zwI (zwI (mH G R S1.1) R 0 (nI 0)) (R + 1) 0 (S.1 0 + nI 1)) R 0 = nI 0 := (zI_wb (by omega)).trans zI_wa
      have v1 : zI (zwI (zwI (mH G R S1.1) R 0 (nI 0)) (R + 1) 0 (S.1 0 + nI 1)) (R + 1) 0 = S.1 0 + nI 1 := zI_wa
      generalize zwI (zwI (mH G R S1.1) R 0 (nI 0)) (R + 1) 0 (S.1 0 + nI 1) = g at *
      refine ⟨zwI g R 6 (nI 0), S.1 0 + nI 1, ?_, Fr.a f3 ⟨by omega, by omega⟩, (zI_wj (by decide)).trans v0, fun _ => rfl, G3.a0⟩
      rw [q1, zI_wb (show R + 1 ≠ R by omega), v1]
end
