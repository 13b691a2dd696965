/-! WRITE, WARM, SEASONS in both -/
section
variable {z : ZE} {d : Nat} {h h' g : Hp} {X R : Nat} {S S1 : PSt} {K : Option Img} {A : List PSt} {tl : Nat} {T : Row} {ft : Int32} {ls : List LN} {Lo : Option Nat} {m k x p np ni nd : Nat} {P : Row} {v0 v1 v2 v3 v4 : Int32} {u v w : Int32}
theorem zI_wz {a j x y : Nat} {v : Int32} : zI (zwI h a j v) x y = if x = a ∧ y = j then v else zI h x y := rfl
theorem PRp.add (H : PRp h p P np ni nd) (hn : nd < 8) {u0 u1 u2 u3 u4 u5 u6 : Int32} (o : ∀ x, x ≠ p → x ≠ p + 20 + nd → zI g x = zI h x) (oy : ∀ y, y ≠ 5 → zI g p y = zI h p y) (o5 : zI g p 5 = nI (nd + 1)) (oc : ∀ c, c < 12 → zI g (p + 20 + nd) c = nth12 u0 u1 u2 u3 u4 u5 u6 (P 6) (nI 0) (-1) (nI 0) (nI 0) c) : PRp g p (addD P nd u0 u1 u2 u3 u4 u5 u6) np ni (nd + 1) := by
  obtain ⟨h0, ⟨a3, a4, a5⟩, ⟨b1, b2, b3⟩, ⟨c7, c8, c9, c10, c11⟩, e4, ep, ei, ed⟩ := H
  have l := h0
  have a : ∀ i, i ≠ 5 → i < 45 + 12 * nd → addD P nd u0 u1 u2 u3 u4 u5 u6 i = P i := fun i h1 h2 => addD_o h1 (Or.inl h2)
  refine ⟨by omega, ⟨(a 3 (by decide) (by omega)).trans a3, (a 4 (by decide) (by omega)).trans a4, up_a⟩, ⟨(oy 1 (by decide)).trans b1, (oy 3 (by decide)).trans b2, o5⟩, ⟨?_, ?_, ?_, ?_, ?_⟩, fun k hk => ?_, fun k c' hk hc' => ?_, fun k c' hk hc' => ?_, fun k c' hk hc' => ?_⟩
  · rw [oy 7 (by decide), a 7 (by decide) (by omega)]; exact c7
  · rw [oy 8 (by decide), a 8 (by decide) (by omega)]; exact c8
  · rw [oy 9 (by decide), a 6 (by decide) (by omega)]; exact c9
  · rw [oy 10 (by decide), a 10 (by decide) (by omega)]; exact c10
  · rw [oy 11 (by decide), a 0 (by decide) (by omega)]; exact c11
  · rw [o _ (by omega) (by omega), a _ (by omega) (by omega)]; exact e4 k hk
  · rw [o _ (by omega) (by omega), a _ (by omega) (by omega)]; exact ep k c' hk hc'
  · rw [o _ (by omega) (by omega), a _ (by omega) (by omega)]; exact ei k c' hk hc'
  · by_cases e : k = nd
    · subst e; rw [oc c' hc', addD_at c' hc']
    · rw [o _ (by omega) (by omega), a _ (by omega) (by omega)]; exact ed k c' (by omega) hc'
theorem T_M_adds2 (hR : RSk h R) (h5 : P 5 = nI nd) (h8 : nd < 8) {u0 u1 u2 u3 u4 u5 u6 : Int32} : ev z d 205 0 [.ref R, .int u0, .int u1, .int u2, .int u3, .int u4, .int u5, .int u6, zu] [] (mH h R P) = some (.inl none, mH h R (addD P nd u0 u1 u2 u3 u4 u5 u6)) := by
  rw [S_M_adds_0 (mr hR), m1, h5, T_M_lays2 hR (by omega)]
  simp only [zbd_i, tl_n]
  rw [S_M_adds_16 (mr hR), T_M_lays2 hR (by omega)]
  simp only [zbd_i, tl_n]
  rw [S_M_adds_24 (mr hR), T_M_lays2 hR (by omega)]
  simp only [zbd_i, tl_n]
  rw [S_M_adds_32 (mr hR), T_M_lays2 hR (by omega)]
  simp only [zbd_i, tl_n]
  rw [S_M_adds_41 (mr hR), T_M_lays2 hR (by omega)]
  simp only [zbd_i, tl_n]
  rw [S_M_adds_50 (mr hR), T_M_lays2 hR (by omega)]
  simp only [zbd_i, tl_n]
  rw [S_M_adds_59 (mr hR), T_M_lays2 hR (by omega)]
  simp only [zbd_i, tl_n]
  rw [S_M_adds_69 (mr hR), m1, show (up (up (up (up (up (up (up P (45 + 12 * nd + 0) u0) (45 + 12 * nd + 1) u1) (45 + 12 * nd + 2) u2) (45 + 12 * nd + 3) u3) (45 + 12 * nd + 4) u4) (45 + 12 * nd + 5) u5) (45 + 12 * nd + 6) u6) 6 = P 6 from ((if_neg (by omega)).trans ((if_neg (by omega)).trans ((if_neg (by omega)).trans ((if_neg (by omega)).trans ((if_neg (by omega)).trans ((if_neg (by omega)).trans ((if_neg (by omega)).trans rfl))))))), T_M_lays2 hR (by omega)]
  simp only [zbd_i, tl_n]
  rw [S_M_adds_84 (mr hR), T_M_lays2 hR (by omega)]
  simp only [zbd_i, tl_n]
  rw [S_M_adds_93 (mr hR), T_M_lays2 hR (by omega)]
  simp only [zbd_i, tl_n]
  rw [S_M_adds_102 (mr hR), T_M_lays2 hR (by omega)]
  simp only [zbd_i, tl_n]
  rw [S_M_adds_111 (mr hR), T_M_lays2 hR (by omega)]
  simp only [zbd_i, tl_n]
  rw [S_M_adds_120 (mr hR), m1, show (up (up (up (up (up (up (up (up (up (up (up (up P (45 + 12 * nd + 0) u0) (45 + 12 * nd + 1) u1) (45 + 12 * nd + 2) u2) (45 + 12 * nd + 3) u3) (45 + 12 * nd + 4) u4) (45 + 12 * nd + 5) u5) (45 + 12 * nd + 6) u6) (45 + 12 * nd + 7) (P 6)) (45 + 12 * nd + 8) (nI 0)) (45 + 12 * nd + 9) (-1)) (45 + 12 * nd + 10) (nI 0)) (45 + 12 * nd + 11) (nI 0)) 5 = nI nd from ((if_neg (by omega)).trans ((if_neg (by omega)).trans ((if_neg (by omega)).trans ((if_neg (by omega)).trans ((if_neg (by omega)).trans ((if_neg (by omega)).trans ((if_neg (by omega)).trans ((if_neg (by omega)).trans ((if_neg (by omega)).trans ((if_neg (by omega)).trans ((if_neg (by omega)).trans ((if_neg (by omega)).trans h5)))))))))))), nI_add, mw]
  rfl
def wrK (np ni nd : Nat) (v0 v1 v2 v3 v4 : Int32) : Nat := if inR v0 ni ∧ inR v1 np ∧ inR v2 np then (if v1 ≠ v2 ∧ inR v3 100 ∧ inR v4 21 then (if nd = 8 then 3 else 0) else 2) else 1
def wrQ (S : PSt) (ls : List LN) (Lo : Option Nat) (K : Option Img) (A : List PSt) (tl : Nat) (T : Row) (ft v0 v1 v2 v3 v4 : Int32) : Stt := if wrK S.2.1 S.2.2.1 S.2.2.2 v0 v1 v2 v3 v4 = 0 then (((addD S.1 S.2.2.2 v0 v1 v2 v3 v4 (-1) (-1), S.2.1, S.2.2.1, S.2.2.2 + 1), ls, Lo), K, rmA S A, tl, T, ft) else ((S, ls, Lo), K, A, tl, T, ft)
theorem C_wr_bits {B C : Option (zO × Hp)} : (if v3 < 0 then B else (if nI 99 < v3 then B else (if v4 < 0 then B else (if v4 ≤ nI 20 then C else B)))) = if inR v3 100 ∧ inR v4 21 then C else B := by
  have e4 : (if v4 < 0 then B else (if v4 ≤ nI 20 then C else B)) = if inR v4 21 then C else B := lt_le (by decide)
  rw [e4]
  by_cases h1 : v3 < 0
  · rw [if_pos h1, if_neg (fun q => q.1.1 h1)]
  · rw [if_neg h1]
    by_cases h2 : nI 99 < v3
    · rw [if_pos h2, if_neg]
      rintro ⟨q, -⟩
      obtain ⟨j, hj, rfl⟩ := (inR_iff (by decide)).mp q
      have := (nI_ltI (by decide) (by omega)).mp h2
      omega
    · rw [if_neg h2]
      have i3 : inR v3 100 := by
        obtain ⟨j, hj, rfl⟩ := nI_of h1
        have : ¬ 99 < j := fun q => h2 (nI_lt q hj)
        exact inR_nI (by omega) (by decide)
      by_cases h3 : inR v4 21
      · rw [if_pos h3, if_pos ⟨i3, h3⟩]
      · rw [if_neg h3, if_neg (fun q => h3 q.2)]
theorem T_addDeed2 {h1 : Hp} (hP : PSk h1 p) (RP : PRp h1 p P np ni nd) (hn : nd < 8) : ∃ G, Fr (fun x => x = p ∨ x = p + 20 + nd) h1 G ∧ (∀ y, y ≠ 5 → zI G (p) y = zI h1 (p) y) ∧ zI G (p) 5 = nI (nd + 1) ∧ (∀ c, 5 ≤ c → c < 12 → zI G (p + 20 + nd) c = nth12 0 0 0 0 0 (-1) (-1) (P 6) (nI 0) (-1) (nI 0) (nI 0) c) ∧ zR G = zR h1 ∧ ev z d 49 0 [.ref (p), zu] [] h1 = some (.inl (some (.ref (p + 20 + nd))), G) := by
  have ko : zK h1 (p + 20 + nd) = 1 := PSk_o4 hP hn
  rw [S_Port_addDeed_0 hP, RP.cd, ix_n hn (by decide), S_Deed_beginAt_0 ko, RP.time]
  simp only [zbd_i, tl_n]
  generalize hW : zwI (zwI (zwI (zwI (zwI (zwI (zwI h1 (p + 20 + nd) 5 (-1)) (p + 20 + nd) 6 (-1)) (p + 20 + nd) 7 (P 6)) (p + 20 + nd) 8 (nI 0)) (p + 20 + nd) 9 (-1)) (p + 20 + nd) 10 (nI 0)) (p + 20 + nd) 11 (nI 0) = W
  have fW : Fr (fun x => x = p ∨ x = p + 20 + nd) h1 W := by
    rw [← hW]
    exact Fr.a (Fr.a (Fr.a (Fr.a (Fr.a (Fr.a (Fr.w (Or.inr rfl)) (Or.inr rfl)) (Or.inr rfl)) (Or.inr rfl)) (Or.inr rfl)) (Or.inr rfl)) (Or.inr rfl)
  have pW : zI W (p) = zI h1 (p) := by
    rw [← hW]
    exact funext fun y => (zI_wb (by omega)).trans ((zI_wb (by omega)).trans ((zI_wb (by omega)).trans ((zI_wb (by omega)).trans ((zI_wb (by omega)).trans ((zI_wb (by omega)).trans (zI_wb (by omega)))))))
  have cW : ∀ c, 5 ≤ c → c < 12 → zI W (p + 20 + nd) c = nth12 0 0 0 0 0 (-1) (-1) (P 6) (nI 0) (-1) (nI 0) (nI 0) c := by
    intro c c1 c2
    rw [← hW]
    rcases (by omega : c = 5 ∨ c = 6 ∨ c = 7 ∨ c = 8 ∨ c = 9 ∨ c = 10 ∨ c = 11) with r | r | r | r | r | r | r <;> subst r <;> simp [zI_wz, nth12]
  have zW : zR W = zR h1 := by rw [← hW]; simp only [zRw]
  clear hW
  rw [S_Port_addDeed_18 (PSk_fr fW hP), pW, RP.cd, nI_add]
  refine ⟨_, fW.a (Or.inl rfl), fun y hy => (zI_wj hy).trans (congrFun pW y), zI_wa, fun c c1 c2 => (zI_wb (by omega)).trans (cW c c1 c2), zRw.trans zW, rfl⟩
theorem T_write5 {h1 G : Hp} (fG : Fr (fun x => x = p ∨ x = p + 20 + nd) h1 G) (g3 : ∀ c, 5 ≤ c → c < 12 → zI G (p + 20 + nd) c = nth12 0 0 0 0 0 (-1) (-1) (P 6) (nI 0) (-1) (nI 0) (nI 0) c) : ∃ Q, zwI (zwI (zwI (zwI (zwI G (p + 20 + nd) 0 v0) (p + 20 + nd) 1 v1) (p + 20 + nd) 2 v2) (p + 20 + nd) 3 v3) (p + 20 + nd) 4 v4 = Q ∧ Fr (fun x => x = p ∨ x = p + 20 + nd) h1 Q ∧ zI Q p = zI G p ∧ zR Q = zR G ∧ ∀ c, c < 12 → zI Q (p + 20 + nd) c = nth12 v0 v1 v2 v3 v4 (-1) (-1) (P 6) (nI 0) (-1) (nI 0) (nI 0) c := by
  generalize hQ : zwI (zwI (zwI (zwI (zwI G (p + 20 + nd) 0 v0) (p + 20 + nd) 1 v1) (p + 20 + nd) 2 v2) (p + 20 + nd) 3 v3) (p + 20 + nd) 4 v4 = Q
  have fQ : Fr (fun x => x = p ∨ x = p + 20 + nd) h1 Q := by
    rw [← hQ]
    exact Fr.a (Fr.a (Fr.a (Fr.a (Fr.a fG (Or.inr rfl)) (Or.inr rfl)) (Or.inr rfl)) (Or.inr rfl)) (Or.inr rfl)
  have pQ : zI Q (p) = zI G (p) := by
    rw [← hQ]
    exact funext fun y => (zI_wb (by omega)).trans ((zI_wb (by omega)).trans ((zI_wb (by omega)).trans ((zI_wb (by omega)).trans (zI_wb (by omega)))))
  have zQ : zR Q = zR G := by rw [← hQ]; simp only [zRw]
  have cQ : ∀ c, c < 12 → zI Q (p + 20 + nd) c = nth12 v0 v1 v2 v3 v4 (-1) (-1) (P 6) (nI 0) (-1) (nI 0) (nI 0) c := by
    intro c c2
    rw [← hQ]
    rcases (by omega : c = 0 ∨ c = 1 ∨ c = 2 ∨ c = 3 ∨ c = 4 ∨ 5 ≤ c) with r | r | r | r | r | r
    · subst r; simp [zI_wz, nth12]
    · subst r; simp [zI_wz, nth12]
    · subst r; simp [zI_wz, nth12]
    · subst r; simp [zI_wz, nth12]
    · subst r; simp [zI_wz, nth12]
    · rw [zI_wj (by omega), zI_wj (by omega), zI_wj (by omega), zI_wj (by omega), zI_wj (by omega), g3 c r c2]
      rcases (by omega : c = 5 ∨ c = 6 ∨ c = 7 ∨ c = 8 ∨ c = 9 ∨ c = 10 ∨ c = 11) with r | r | r | r | r | r | r <;> subst r <;> rfl
  exact ⟨Q, rfl, fQ, pQ, zQ, cQ⟩
theorem C_write (t : Tp h) (H : CI z h X S ls Lo K A tl T ft) (ok : Ok S) : CA z d h X Lo 110 [.ref X, .int v0, .int v1, .int v2, .int v3, .int v4, zu] [2, 0, 1] (wrK S.2.1 S.2.2.1 S.2.2.2 v0 v1 v2 v3 v4) (nI S.2.2.2) (wrQ S ls Lo K A tl T ft v0 v1 v2 v3 v4) := by
  have h8 := ok.1.2.2.2.2.2
  unfold wrQ wrK
  by_cases c : inR v0 S.2.2.1 ∧ inR v1 S.2.1 ∧ inR v2 S.2.1
  · simp only [if_pos c]
    have st : ev z d 110 0 [.ref X, .int v0, .int v1, .int v2, .int v3, .int v4, zu] [] h = zbd (ev z d 158 0 [.int v1, .int v2] [] h) (fun v h' => ev z d 110 20 [.ref X, .int v0, .int v1, .int v2, .int v3, .int v4, zu] (v.toList ++ []) h') (fun e h' => evx z d 110 17 [.ref X, .int v0, .int v1, .int v2, .int v3, .int v4, zu] e h') := by
      rw [S_LI_write_0 H.1.1, C_needInk H, if_pos c.1]
      simp only [zbd_i, tl_n]
      rw [S_LI_write_5 H.1.1, C_needParty H, if_pos c.2.1]
      simp only [zbd_i, tl_n]
      rw [S_LI_write_10 H.1.1, C_needParty H, if_pos c.2.2]
      simp only [zbd_i, tl_n]
      rw [S_LI_write_15]
    by_cases c2 : v1 ≠ v2 ∧ inR v3 100 ∧ inR v4 21
    · simp only [if_pos c2]
      have st2 : ev z d 110 0 [.ref X, .int v0, .int v1, .int v2, .int v3, .int v4, zu] [] h = if nI S.2.2.2 < nI 8 then zbd (ev z d 162 0 [.ref X] [] h) (fun v h' => ev z d 110 76 [.ref X, .int v0, .int v1, .int v2, .int v3, .int v4, zu] (v.toList ++ []) h') (fun e h' => evx z d 110 73 [.ref X, .int v0, .int v1, .int v2, .int v3, .int v4, zu] e h') else some (.inr 1, znw h 0 6) := by
        rw [st, S_LI_needTwo_0, if_neg c2.1]
        simp only [zbd_i, tl_n]
        rw [S_LI_write_20 H.1.1, C_wr_bits, if_pos c2.2, H.rp.cd]
      by_cases c3 : S.2.2.2 = 8
      · simp only [if_pos c3]
        rw [if_neg (by decide)]
        refine CA.x t H rfl ?_
        rw [st2, c3, if_neg (by decide)]
        rfl
      · simp only [if_neg c3]
        rw [if_pos trivial]
        have hn : S.2.2.2 < 8 := by omega
        obtain ⟨h1, e1, f1, H1⟩ := C_remember (z := z) (d := d) H ok
        have ko : zK h1 (X + 4 + 20 + S.2.2.2) = 1 := PSk_o4 H1.sk hn
        obtain ⟨G, fG, g1, g2, g3, g4, e2⟩ := T_addDeed2 (z := z) (d := d) H1.sk H1.rp hn
        obtain ⟨Q, hQ, fQ, pQ, zQ, cQ⟩ := T_write5 (v0 := v0) (v1 := v1) (v2 := v2) (v3 := v3) (v4 := v4) fG g3
        have RP : PRp Q (X + 4) (addD S.1 S.2.2.2 v0 v1 v2 v3 v4 (-1) (-1)) S.2.1 S.2.2.1 (S.2.2.2 + 1) := H1.rp.add hn (fun x a b => fQ.i (fun q => by rcases q with q | q <;> omega)) (fun y hy => (congrFun pQ y).trans (g1 y hy)) ((congrFun pQ 5).trans g2) cQ
        have BP : BKp Q (X + 4) (addD S.1 S.2.2.2 v0 v1 v2 v3 v4 (-1) (-1)) := (H1.bk.fr fQ (fun x q => by rcases q with q | q <;> omega)).cg (fun y hy => addD_o (by omega) (by omega))
        have fp : Fp (X + 4) Lo h1 Q := ⟨fQ.mo (fun x q => Or.inl (by rcases q with q | q <;> exact ⟨by omega, by omega⟩)), by rw [zQ, g4]⟩
        have PQ : PL Q (X + 4) (addD S.1 S.2.2.2 v0 v1 v2 v3 v4 (-1) (-1)) S.2.1 S.2.2.1 (S.2.2.2 + 1) Lo ls := ⟨⟨PSk_fr fQ H1.sk, RP, BP⟩, fp.2.trans H1.2.1.2.1, H1.2.1.2.2.1.fr H1.2.1.2.2.2 fp.1 (addD_o (by decide) (Or.inl (by omega))), H1.2.1.2.2.2⟩
        refine CA.act (S1 := (addD S.1 S.2.2.2 v0 v1 v2 v3 v4 (-1) (-1), S.2.1, S.2.2.1, S.2.2.2 + 1)) (h' := Q) f1 H1 fp PQ ?_
        rw [st2, if_pos (nI_lt hn (by decide)), e1]
        simp only [zbd_i, tl_n]
        rw [S_LI_write_76 H1.1.1, e2]
        simp only [zbd_i, tl_s]
        rw [S_LI_write_83 (XSk_fr fG (by omega) H1.1.1) ((congrFun fG.k _).trans ko), g2, pk_sub (by omega), Nat.add_sub_cancel, hQ]
    · simp only [if_neg c2]
      rw [if_neg (by decide)]
      refine CA.x t H rfl ?_
      rw [st, S_LI_needTwo_0]
      by_cases c3 : v1 = v2
      · rw [if_pos c3]
        simp only [zbd_e]
        exact evx_nil rfl
      · rw [if_neg c3]
        simp only [zbd_i, tl_n]
        rw [S_LI_write_20 H.1.1, C_wr_bits, if_neg (fun q => c2 ⟨c3, q⟩)]
        rfl
  · simp only [if_neg c]
    rw [if_neg (by decide)]
    refine CA.x t H rfl ?_
    rw [S_LI_write_0 H.1.1, C_needInk H]
    by_cases c1 : inR v0 S.2.2.1
    · rw [if_pos c1]
      simp only [zbd_i, tl_n]
      rw [S_LI_write_5 H.1.1, C_needParty H]
      by_cases c2 : inR v1 S.2.1
      · rw [if_pos c2]
        simp only [zbd_i, tl_n]
        rw [S_LI_write_10 H.1.1, C_needParty H, if_neg (fun q => c ⟨c1, c2, q⟩)]
        simp only [zbd_e]
        exact evx_nil rfl
      · rw [if_neg c2]
        simp only [zbd_e]
        exact evx_nil rfl
    · rw [if_neg c1]
      simp only [zbd_e]
      exact evx_nil rfl
theorem chk4 {c : Prop} [Decidable c] {A B C : Option (zO × Hp)} : (if bI c = 0 then (if nI 2 ≤ 0 then A else C) else B) = if c then B else C := by
  by_cases hc : c
  · rw [if_neg (by rw [bI_0]; exact fun q => q hc), if_pos hc]
  · rw [if_pos (by rw [bI_0]; exact hc), if_neg (by decide), if_neg hc]
theorem R_write (H : RI h R S K A tl T ft) (ok : Ok S) : RB z d h R 242 [.ref R, .int v0, .int v1, .int v2, .int v3, .int v4] (wrK S.2.1 S.2.2.1 S.2.2.2 v0 v1 v2 v3 v4) (nI S.2.2.2) (wrQ S ls Lo K A tl T ft v0 v1 v2 v3 v4) := by
  have h8 := ok.1.2.2.2.2.2
  have e3 : bI (isin v3 (nI 0) (nI 99)) = bI (inR v3 100) := bI_cg (isin_n (by decide))
  have e4 : bI (isin v4 (nI 0) (nI 20)) = bI (inR v4 21) := bI_cg (isin_n (by decide))
  unfold wrQ wrK
  by_cases c : inR v0 S.2.2.1 ∧ inR v1 S.2.1 ∧ inR v2 S.2.1
  · simp only [if_pos c]
    have st : ev z d 242 0 [.ref R, .int v0, .int v1, .int v2, .int v3, .int v4] [] h = ev z d 242 22 [.ref R, .int v0, .int v1, .int v2, .int v3, .int v4] [.int (bI (inR v2 S.2.1)), .ref R] h := by
      rw [S_M_write_0 H.1.1, R_isInk H ok]
      simp only [zbd_i, tl_s]
      rw [S_M_write_6 H.1.1, chk3, if_pos c.1, R_isParty H ok]
      simp only [zbd_i, tl_s]
      rw [S_M_write_14 H.1.1, chk3, if_pos c.2.1, R_isParty H ok]
      simp only [zbd_i, tl_s]
    rw [S_M_write_22 H.1.1, chk3, if_pos c.2.2] at st
    by_cases c2 : v1 ≠ v2 ∧ inR v3 100 ∧ inR v4 21
    · simp only [if_pos c2]
      rw [if_neg c2.1, T_M_isIn, e3] at st
      simp only [zbd_i, tl_s] at st
      rw [S_M_write_42 H.1.1, chk4, if_pos c2.2.1, T_M_isIn, e4] at st
      simp only [zbd_i, tl_s] at st
      have h5 : zI h (R + 1) 5 = nI S.2.2.2 := by rw [H.i]; exact ok.1.2.2.1
      rw [S_M_write_53 H.1.1, chk4, if_pos c2.2.2, h5] at st
      by_cases c3 : S.2.2.2 = 8
      · simp only [if_pos c3]
        rw [if_neg (by decide)]
        refine RB.t H (by decide) (w := nI 0) ?_
        rw [st, if_pos (by rw [c3]), if_neg (by decide)]
      · simp only [if_neg c3]
        rw [if_pos trivial]
        have hn : S.2.2.2 < 8 := by omega
        have G := H.w0 (v := nI 0)
        obtain ⟨h1, e1, f1, H1, z1⟩ := R_rem (z := z) (d := d) G
        have e2 := T_M_adds2 (z := z) (d := d) (P := S.1) (nd := S.2.2.2) H1.1.1 ok.1.2.2.1 hn (u0 := v0) (u1 := v1) (u2 := v2) (u3 := v3) (u4 := v4) (u5 := -1) (u6 := -1)
        rw [H1.id] at e2
        refine RB.s (h' := mH h1 R (addD S.1 S.2.2.2 v0 v1 v2 v3 v4 (-1) (-1))) ?_ (FZ0.tr (f1.tr (v_f ⟨by omega, by omega⟩))) (moR.trans (z1.trans zI_wa)) H1.m
        rw [st, if_neg (fun q => c3 ((nI_eq (by omega) (by decide)).mp q)), if_pos (by decide), e1]
        simp only [zbd_i, tl_n]
        rw [S_M_write_92 H1.1.1, e2]
        simp only [zbd_i, tl_n]
        have e5 : addD S.1 S.2.2.2 v0 v1 v2 v3 v4 (-1) (-1) 5 = nI (S.2.2.2 + 1) := up_a
        rw [S_M_write_105 (mr H1.1.1), m1, e5, pk_sub (by omega), Nat.add_sub_cancel]
    · simp only [if_neg c2]
      rw [if_neg (by decide)]
      refine RB.t H (by decide) (w := nI 0) ?_
      rw [st]
      by_cases c3 : v1 = v2
      · rw [if_pos c3, if_neg (by decide)]
      · rw [if_neg c3, T_M_isIn, e3]
        simp only [zbd_i, tl_s]
        rw [S_M_write_42 H.1.1, chk4]
        by_cases c4 : inR v3 100
        · rw [if_pos c4, T_M_isIn, e4]
          simp only [zbd_i, tl_s]
          rw [S_M_write_53 H.1.1, chk4, if_neg (fun q => c2 ⟨c3, c4, q⟩)]
        · rw [if_neg c4]
  · simp only [if_neg c]
    rw [if_neg (by decide)]
    refine RB.t H (by decide) (w := nI 0) ?_
    rw [S_M_write_0 H.1.1, R_isInk H ok]
    simp only [zbd_i, tl_s]
    rw [S_M_write_6 H.1.1, chk3]
    by_cases c1 : inR v0 S.2.2.1
    · rw [if_pos c1, R_isParty H ok]
      simp only [zbd_i, tl_s]
      rw [S_M_write_14 H.1.1, chk3]
      by_cases c2 : inR v1 S.2.1
      · rw [if_pos c2, R_isParty H ok]
        simp only [zbd_i, tl_s]
        rw [S_M_write_22 H.1.1, chk3, if_neg (fun q => c ⟨c1, c2, q⟩)]
      · rw [if_neg c2]
    · rw [if_neg c1]
theorem O_write (ok : OkA S ls K A) : OV (wrQ S ls Lo K A tl T ft v0 v1 v2 v3 v4) := by
  have h8 := ok.1.1.1.2.2.2.2.2
  have h6 := ok.1.1.1
  unfold wrQ
  by_cases c : wrK S.2.1 S.2.2.1 S.2.2.2 v0 v1 v2 v3 v4 = 0
  · rw [if_pos c]
    unfold wrK at c
    by_cases c1 : inR v0 S.2.2.1 ∧ inR v1 S.2.1 ∧ inR v2 S.2.1
    · rw [if_pos c1] at c
      by_cases c2 : v1 ≠ v2 ∧ inR v3 100 ∧ inR v4 21
      · rw [if_pos c2] at c
        by_cases c3 : S.2.2.2 = 8
        · rw [if_pos c3] at c; cases c
        · obtain ⟨x3, y3, z3⟩ := (inR_iff (by decide)).mp c2.2.1
          obtain ⟨x4, y4, z4⟩ := (inR_iff (by decide)).mp c2.2.2
          have e : ∀ y, (y = 1 ∨ y = 2 ∨ 381 ≤ y) → addD S.1 S.2.2.2 v0 v1 v2 v3 v4 (-1) (-1) y = S.1 y := fun y hy => addD_o (by omega) (by omega)
          exact OkA.act (S1 := (addD S.1 S.2.2.2 v0 v1 v2 v3 v4 (-1) (-1), S.2.1, S.2.2.1, S.2.2.2 + 1)) ok.rm (addD_ok (np := S.2.1) (ni := S.2.2.1) ok.1.1 (by omega) ((inR_iff (by omega)).mp c1.1) ((inR_iff (by omega)).mp c1.2.1) ((inR_iff (by omega)).mp c1.2.2) c2.1 ⟨x3, by omega, z3⟩ ⟨x4, by omega, z4⟩ (Or.inl rfl) (Or.inl rfl)) e (OkL_cg ok.1.2.1 e)
      · rw [if_neg c2] at c; cases c
    · rw [if_neg c1] at c; cases c
  · rw [if_neg c]
    exact ok
end
