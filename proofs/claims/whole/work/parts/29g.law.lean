/-! LAW: what is meant; the reference -/
def lrS (P T : Row) : Nat → Row
  | 0 => P
  | k + 1 => up (lrS P T k) (381 + k) (T k)
def laS (S : PSt) (T : Row) (tl n : Nat) : PSt := (lrS (up (up S.1 1 (nI n)) 2 (nI tl)) T tl, S.2)
def laK (T : Row) (tl : Nat) : Nat := match lwT T tl with
  | .inl _ => 1
  | .inr _ => 0
def laV (T : Row) (tl : Nat) : Int32 := match lwT T tl with
  | .inl _ => nI 0
  | .inr l2 => nI l2.length
def laQ (S : PSt) (ls : List LN) (Lo : Option Nat) (K : Option Img) (A : List PSt) (tl : Nat) (T : Row) (L : Nat) : Stt := match lwT T tl with
  | .inl e => ((S, ls, Lo), K, A, 0, T, nI e)
  | .inr l2 => ((laS S T tl l2.length, l2, some L), K, [], 0, T, -1)
section
variable {z : ZE} {d : Nat} {h h' g : Hp} {X R p : Nat} {S S1 : PSt} {K : Option Img} {A : List PSt} {tl : Nat} {T : Row} {ft : Int32} {ls : List LN} {Lo : Option Nat} {P Q : Row} {np ni nd m k r L n : Nat} {u v w : Int32}
theorem beg_13 (hR : RSk h R) (e : ev z d 209 0 [.ref R] [] h = some (.inl none, h')) : zI h' R 13 = nI 0 := by
  rw [S_M_begins_0 hR] at e
  have q := congrArg Prod.snd (Option.some.inj e)
  rw [show h' = _ from q.symm]
  exact zI_wa
theorem lr_u : lrS P T (k + 1) = up (lrS P T k) (381 + k) (T k) := rfl
theorem M_law_l (hE : tl ≤ 400) : ∀ n k g, k + n = tl → RI g R (lrS P T k, S.2) K A 0 T ft → zI g R 0 = nI 0 → zI g R 10 = nI tl → (∀ j, j < tl → zI g (R + 5) j = T j) → ∃ g', Fr (Rz R) g g' ∧ RI g' R (lrS P T tl, S.2) K [] 0 T ft ∧ zI g' R 0 = nI 0 ∧ ev z d 221 55 [.ref R, .int v, .int (nI k)] [] g = some (.inl (some (.int v)), g')
  | 0, k, g, hk, H, z0, t1, t2 => by
    obtain rfl : k = tl := by omega
    refine ⟨zwI g R 6 (nI 0), Fr.w ⟨by omega, by omega⟩, H.a0, (zI_wj (by decide)).trans z0, ?_⟩
    rw [S_M_law_55 H.1.1, t1, if_pos (nI_le (Nat.le_refl _) (by omega))]
  | n + 1, k, g, hk, H, z0, t1, t2 => by
    have o : zI (zwI g (R + 1) (381 + k) (T k)) R = zI g R := funext fun y => zI_wb (by omega)
    obtain ⟨g', f', H', z', e'⟩ := M_law_l hE n (k + 1) (zwI g (R + 1) (381 + k) (T k)) (by omega) H.wr (by rw [o]; exact z0) (by rw [o]; exact t1) (fun j hj => (zI_wb (by omega)).trans (t2 j hj))
    refine ⟨g', (Fr.w ⟨by omega, by omega⟩).tr f', H', z', ?_⟩
    rw [S_M_law_55 H.1.1, t1, if_neg (nI_ge (by omega) (by omega)), ix_n (by omega) (by decide), nI_add, nI_add, ix_n (by omega) (by decide), t2 k (by omega)]
    exact e'
theorem R_laws (W : WA z h) {bb : Nat} (bz : B15 bb h) (hb : bb ≤ R) (H : RI h R S K A tl T ft) : RB z (d + 7) h R 221 [.ref R, zu, zu] (laK T tl) (laV T tl) (laQ S ls Lo K A tl T L) := by
  obtain ⟨h1, e1, f1, H1, M1, i1, b1, t10⟩ := R_begins (z := z) (d := d + 7) H
  have j13 := beg_13 H.1.1 e1
  have W1 : WA z h1 := W.rz H.1.1 f1
  have B1 : B15 bb h1 := B15_ev e1 bz
  have kR : zK h1 R = 11 := RSk_K H1.1.1
  have tl4 : tl ≤ 400 := H.2.1.2.1
  have M : MT h1 R T tl := ⟨M1.1, M1.2.1, M1.2.2.1, Or.inl ⟨M1.2.2.2.1, M1.2.2.2.2⟩⟩
  have F1 : FA h1 R (fun k => if k < 7 then zI h1 (R + 6) k else if k = 7 then zI h1 R 15 else zI h1 R 16) := ⟨fun k hk => (if_pos hk).symm, ⟨rfl, rfl⟩, B1 R hb kR 15 (Or.inl rfl), B1 R hb kR 16 (Or.inr rfl)⟩
  have T1 := T_M_readT (z := z) (d := d) (x := zI h1 R 17) (y := zI h1 R 18) M H1.2.2.1 W1 F1 j13
  have i2 : rcH h1 R (zI h1 R 17) (zI h1 R 18) = h1 := by
    unfold rcH
    rw [ww_id rfl, ww_id rfl]
  rw [i2] at T1
  have i3 : aH h1 R 0 = h1 := by
    have := i1
    rw [H1.id] at this
    exact this
  rw [i3] at T1
  have t5 : ∀ j, j < tl → zI h1 (R + 5) j = T j := M1.2.2.2.2
  have st : ev z (d + 7) 221 0 [.ref R, zu, zu] [] h = zbd (ev z (d + 7) 210 0 [.ref R, .int (nI 1), zu, zu] [] h1) (fun v h' => ev z (d + 7) 221 9 [.ref R, zu, zu] (v.toList ++ []) h') (fun e h' => evx z (d + 7) 221 6 [.ref R, zu, zu] e h') := by
    rw [S_M_law_0 H.1.1, e1]
    simp only [zbd_i, tl_n]
    rw [S_M_law_4 H1.1.1]
  unfold laK laV laQ
  revert T1
  generalize (fun k => if k < 7 then zI h1 (R + 6) k else if k = 7 then zI h1 R 15 else zI h1 R 16) = F at *
  cases lwT T tl with
  | inl e =>
    rintro ⟨v, a, x', y', he, eq⟩
    have G1 : RI (fH (rcH h1 R x' y') R a e) R S K A 0 T (nI e) := by
      unfold fH aH rcH
      exact (((H1.s (Rs.w (by decide))).s (Rs.w (by decide))).s (Rs.w (by decide))).f12
    have f2 : Fr (Rz R) h (fH (rcH h1 R x' y') R a e) := by
      unfold fH aH rcH
      exact Fr.a (Fr.a (Fr.a (Fr.a f1 ⟨by omega, by omega⟩) ⟨by omega, by omega⟩) ⟨by omega, by omega⟩) ⟨by omega, by omega⟩
    generalize fH (rcH h1 R x' y') R a e = G at *
    refine ⟨zwI G R 0 (nI 1), nI 0, ?_, Fr.a f2 ⟨by omega, by omega⟩, zI_wa, fun q => absurd (show (1 : Nat) = 0 from q) (by decide), G1.w0⟩
    rw [st, eq]
    simp only [zbd_i, tl_s]
    rw [S_M_law_9 G1.1.1, G1.2.2.1, if_neg (nI_ne1 (by omega)), if_neg (by decide)]
  | inr l2 =>
    rintro ⟨a, eq⟩
    have G1 : RI (aH (rcH h1 R (rpS F l2 (zI h1 R 17)) (cpS F l2 (zI h1 R 18))) R a) R S K A 0 T (-1) := by
      unfold aH rcH
      exact ((H1.s (Rs.w (by decide))).s (Rs.w (by decide))).s (Rs.w (by decide))
    have f2 : Fr (Rz R) h (aH (rcH h1 R (rpS F l2 (zI h1 R 17)) (cpS F l2 (zI h1 R 18))) R a) := by
      unfold aH rcH
      exact Fr.a (Fr.a (Fr.a f1 ⟨by omega, by omega⟩) ⟨by omega, by omega⟩) ⟨by omega, by omega⟩
    have u10 : zI (aH (rcH h1 R (rpS F l2 (zI h1 R 17)) (cpS F l2 (zI h1 R 18))) R a) R 10 = nI tl := by
      unfold aH rcH
      rw [zI_wj (by decide), zI_wj (by decide), zI_wj (by decide)]
      exact t10
    have u5 : ∀ j, j < tl → zI (aH (rcH h1 R (rpS F l2 (zI h1 R 17)) (cpS F l2 (zI h1 R 18))) R a) (R + 5) j = T j := by
      intro j hj
      unfold aH rcH
      rw [zI_wb (by omega), zI_wb (by omega), zI_wb (by omega)]
      exact t5 j hj
    generalize aH (rcH h1 R (rpS F l2 (zI h1 R 17)) (cpS F l2 (zI h1 R 18))) R a = G at *
    have G2 : RI (zwI (zwI (zwI G R 0 (nI 0)) (R + 1) 1 (nI l2.length)) (R + 1) 2 (nI tl)) R (lrS (up (up S.1 1 (nI l2.length)) 2 (nI tl)) T 0, S.2) K A 0 T (-1) := G1.w0.wr.wr
    have o : zI (zwI (zwI (zwI G R 0 (nI 0)) (R + 1) 1 (nI l2.length)) (R + 1) 2 (nI tl)) R = zI (zwI G R 0 (nI 0)) R := funext fun y => (zI_wb (by omega)).trans (zI_wb (by omega))
    have v0 : zI (zwI (zwI (zwI G R 0 (nI 0)) (R + 1) 1 (nI l2.length)) (R + 1) 2 (nI tl)) R 0 = nI 0 := by rw [o, zI_wa]
    have v10 : zI (zwI (zwI (zwI G R 0 (nI 0)) (R + 1) 1 (nI l2.length)) (R + 1) 2 (nI tl)) R 10 = nI tl := by rw [o, zI_wj (by decide)]; exact u10
    have v5 : ∀ j, j < tl → zI (zwI (zwI (zwI G R 0 (nI 0)) (R + 1) 1 (nI l2.length)) (R + 1) 2 (nI tl)) (R + 5) j = T j := fun j hj => ((zI_wb (by omega)).trans ((zI_wb (by omega)).trans (zI_wb (by omega)))).trans (u5 j hj)
    have f3 : Fr (Rz R) h (zwI (zwI (zwI G R 0 (nI 0)) (R + 1) 1 (nI l2.length)) (R + 1) 2 (nI tl)) := Fr.a (Fr.a (Fr.a f2 ⟨by omega, by omega⟩) ⟨by omega, by omega⟩) ⟨by omega, by omega⟩
    have q1 : ev z (d + 7) 221 0 [.ref R, zu, zu] [] h = ev z (d + 7) 221 55 [.ref R, .int (nI l2.length), .int (nI 0)] [] (zwI (zwI (zwI G R 0 (nI 0)) (R + 1) 1 (nI l2.length)) (R + 1) 2 (nI tl)) := by
      rw [st, eq]
      simp only [zbd_i, tl_s]
      rw [S_M_law_9 G1.1.1, G1.2.2.1, if_pos rfl, if_pos (by decide), u10, Nat.zero_add]
    generalize zwI (zwI (zwI G R 0 (nI 0)) (R + 1) 1 (nI l2.length)) (R + 1) 2 (nI tl) = G3 at *
    obtain ⟨g', f', H', z', e'⟩ := M_law_l (z := z) (d := d + 7) (v := nI l2.length) (S := S) tl4 tl 0 G3 (by omega) G2 v0 v10 v5
    exact ⟨g', nI l2.length, q1.trans e', f3.tr f', z', fun _ => rfl, H'⟩
end
