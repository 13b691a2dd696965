/-! PORT in the class -/
section
variable {z : ZE} {d : Nat} {h h' g : Hp} {X R p : Nat} {S S1 : PSt} {K : Option Img} {A : List PSt} {tl : Nat} {T : Row} {ft : Int32} {ls : List LN} {Lo : Option Nat} {P Q : Row} {np ni nd m k r b Nb E s : Nat} {u v w : Int32} {B : Nat → Prop}
theorem fr_rd : Fr (fun x => x = r) h (rdH h r T E s) := ⟨⟨rfl, rfl, rfl, rfl, rfl, rfl⟩, fun x hx => funext fun y => rd_o hx, fun x y _ => rfl⟩
theorem rd_id (h2 : zI h r 2 = tkK T E s) (h3 : zI h r 3 = nI s) (h4 : zI h r 4 = nI (tkN T E s)) (h5 : zI h r 5 = tkV T E s) : rdH h r T E s = h := by
  refine Eq.trans (hI_ext (g := zI h) (fun x y => ?_)) rfl
  unfold rdF zup
  by_cases hx : x = r
  · subst hx
    by_cases y2 : y = 2
    · subst y2; simp [h2]
    · by_cases y3 : y = 3
      · subst y3; simp [h3]
      · by_cases y4 : y = 4
        · subst y4; simp [h4]
        · by_cases y5 : y = 5
          · subst y5; simp [h5]
          · simp [y2, y3, y4, y5]
  · simp [hx]
theorem rd_keep (e : rdH h r T E s = h) (f : Fr B h h') (n : ¬ B r) : rdH h' r T E s = h' := by
  have o : ∀ y, zI h' r y = zI (rdH h r T E s) r y := fun y => by rw [e]; exact congrFun (f.i n) y
  exact rd_id ((o 2).trans rd_2) ((o 3).trans rd_3) ((o 4).trans rd_4) ((o 5).trans rd_5)
theorem RdT.kp (O : RdT h r b Nb E T) (f : Fr B h h') (n1 : ¬ B r) (n2 : ¬ B b) : RdT h' r b Nb E T := by
  obtain ⟨⟨o1, o2, o3, o4⟩, o5, o6, o7, o8, o9⟩ := O
  exact ⟨⟨by rw [f.k]; exact o1, by rw [f.rx n1]; exact o2, by rw [f.k]; exact o3, by rw [f.n]; exact o4⟩, by rw [f.i n1]; exact o5, o6, o7, o8, (f.i n2).trans o9⟩
theorem Ok_0 (H : Ok S) (hv : ∃ k, k ≤ 12 ∧ v = nI k) : Ok (up S.1 0 v, S.2) := by
  obtain ⟨⟨h3, h4, h5, l6, l7, l8⟩, hD, hE, hP, hI, s6, s7, s8, s9, s0⟩ := H
  have n : ∀ i, i ≠ 0 → up S.1 0 v i = S.1 i := fun i hi => up_n hi
  refine ⟨⟨(n 3 (by decide)).trans h3, (n 4 (by decide)).trans h4, (n 5 (by decide)).trans h5, l6, l7, l8⟩, OkD_cg hD (fun i c hi hc => n _ (by omega)) (Nat.le_refl _) (Nat.le_refl _), OkE_cg hE (fun i c hi hc => n _ (by omega)), OkP_cg hP (fun i c hi hc => n _ (by omega)), OkI_cg hI (fun i c hi hc => n _ (by omega)) (fun k hk => n _ (by omega)), ?_, ?_, ?_, ?_, ?_⟩
  · obtain ⟨t, ht, e⟩ := s6
    exact ⟨t, ht, (n 6 (by decide)).trans e⟩
  · obtain ⟨t, ht, e⟩ := s7
    exact ⟨t, ht, (n 7 (by decide)).trans e⟩
  · obtain ⟨t, ht, e⟩ := s8
    exact ⟨t, ht, (n 8 (by decide)).trans e⟩
  · obtain ⟨t, ht, e⟩ := s9
    exact ⟨t, ht, (n 9 (by decide)).trans e⟩
  · obtain ⟨t, ht, e⟩ := hv
    exact ⟨t, ht, (show up S.1 0 v 0 = v from up_a).trans e⟩
theorem BKp_c9 (H : BKp h p P) (e : ∀ i, i = 9 ∨ 141 ≤ i → Q i = P i) : BKp h p Q := by
  obtain ⟨n, x, h1, h2, h3, h4, h5, h6⟩ := H
  exact ⟨n, x, h1, h2, (e 9 (Or.inl rfl)).trans h3, h4, h5, fun a c ha hc => (h6 a c ha hc).trans (e _ (Or.inr (by omega))).symm⟩
/-- the reader of the class is written -/
theorem CI.r2 (H : CI z h X S ls Lo K A tl T ft) (f : Fr (fun x => x = X + 2) h h') : CI z h' X S ls Lo K A tl T (zI h' (X + 2) 6) := by
  obtain ⟨⟨x1, x2, x3⟩, p1, ⟨t1, t2, t3⟩, f1, k1, nx, n1, n2, n3, n4, n5⟩ := H
  have pl : ∀ {p : Nat} {P : Row} {np ni nd : Nat} {Lo' : Option Nat} {ls' : List LN}, X + 2 < p → (∀ L, Lo' = some L → X + 433 ≤ L) → PL h p P np ni nd Lo' ls' → PL h' p P np ni nd Lo' ls' := fun hp hL G => G.fr f (fun x y => by omega) (fun x L y e => by have := hL L e; omega)
  have o : zI h' X = zI h X := f.i (by omega)
  refine ⟨⟨XSk_fr f (by omega) x1, WA_fr f (fun x q => ?_) x2, x3⟩, pl (by omega) x3.1 p1, ⟨by rw [o]; exact t1, t2, fun k hk => by rw [f.i (by omega)]; exact t3 k hk⟩, rfl, ?_, nx, n1, by rw [o]; exact n2, by rw [o]; exact n3, n4, fun a S' e => pl (by omega) x3.1 (n5 a S' e)⟩
  · rw [q, XSk_Kr x1]; decide
  · cases K with
    | none => exact (congrFun o 6).trans k1
    | some q => exact ⟨(congrFun o 6).trans k1.1, pl (by omega) (fun L e => x3.2 q L rfl e) k1.2⟩
theorem Mv.wR {a j : Nat} {v : Option Nat} : Mv (fun x => x = a) 0 0 h (zwR h a j v) := ⟨fun _ _ => ⟨rfl, rfl, rfl⟩, fun x _ hx => ⟨rfl, funext fun y => (show (if x = a ∧ y = j then v else zR h x y) = zR h x y from if_neg (fun q => hx q.1))⟩, Nat.le_refl _, fun t => t, Nat.le_refl _, Nat.le_refl _⟩
/-- the reader is opened upon the tape -/
theorem C_reader (H : CI z h X S ls Lo K A tl T ft) (hT : zI h (X + 1) = T) : ∃ h', ev z d 90 0 [.ref (X + 2), .ref (X + 1), .int (nI tl)] [] h = some (.inl none, h') ∧ CI z h' X S ls Lo K A tl T (-1) ∧ rdH h' (X + 2) T tl (rn cS T tl 0) = h' ∧ RdT h' (X + 2) (X + 1) 400 tl T ∧ Mv (fun x => x = X + 2) 0 0 h h' := by
  have t4 : tl ≤ 400 := H.2.2.1.2.1
  have x1 := H.1.1
  have G0 : CI z (zwR h (X + 2) 0 (some (X + 1))) X S ls Lo K A tl T ft := H.rd
  have f1 : Fr (fun x => x = X + 2) (zwR h (X + 2) 0 (some (X + 1))) (zwI (zwI (zwI (zwR h (X + 2) 0 (some (X + 1))) (X + 2) 1 (nI tl)) (X + 2) 4 (nI 0)) (X + 2) 6 (-1)) := Fr.a (Fr.a (Fr.w rfl) rfl) rfl
  have G1 := G0.r2 f1
  rw [zI_wa] at G1
  have m1 : Mv (fun x => x = X + 2) 0 0 h (zwI (zwI (zwI (zwR h (X + 2) 0 (some (X + 1))) (X + 2) 1 (nI tl)) (X + 2) 4 (nI 0)) (X + 2) 6 (-1)) := Mv.wR.tr (Mv.fr f1)
  have eR : zR (zwI (zwI (zwI (zwR h (X + 2) 0 (some (X + 1))) (X + 2) 1 (nI tl)) (X + 2) 4 (nI 0)) (X + 2) 6 (-1)) (X + 2) 0 = some (X + 1) := by
    show (if X + 2 = X + 2 ∧ 0 = 0 then some (X + 1) else zR h (X + 2) 0) = _
    rw [if_pos ⟨rfl, rfl⟩]
  have j1 : zI (zwI (zwI (zwI (zwR h (X + 2) 0 (some (X + 1))) (X + 2) 1 (nI tl)) (X + 2) 4 (nI 0)) (X + 2) 6 (-1)) (X + 2) 1 = nI tl := by
    rw [zI_wj (by decide), zI_wj (by decide), zI_wa]
  have j4 : zI (zwI (zwI (zwI (zwR h (X + 2) 0 (some (X + 1))) (X + 2) 1 (nI tl)) (X + 2) 4 (nI 0)) (X + 2) 6 (-1)) (X + 2) 4 = nI 0 := by
    rw [zI_wj (by decide), zI_wa]
  have jT : zI (zwI (zwI (zwI (zwR h (X + 2) 0 (some (X + 1))) (X + 2) 1 (nI tl)) (X + 2) 4 (nI 0)) (X + 2) 6 (-1)) (X + 1) = T := (f1.i (by omega)).trans hT
  have op : ev z d 90 0 [.ref (X + 2), .ref (X + 1), .int (nI tl)] [] h = zbd (ev z d 91 0 [.ref (X + 2)] [] (zwI (zwI (zwI (zwR h (X + 2) 0 (some (X + 1))) (X + 2) 1 (nI tl)) (X + 2) 4 (nI 0)) (X + 2) 6 (-1))) (fun v h' => ev z d 90 29 [.ref (X + 2), .ref (X + 1), .int (nI tl)] (v.toList ++ []) h') (fun e h' => evx z d 90 26 [.ref (X + 2), .ref (X + 1), .int (nI tl)] e h') := by
    rw [S_Rdr_open_0 (XSk_Kr x1) (XSk_a0k x1) (XSk_a0n x1), if_neg (nI_nlt (by omega) (by omega))]
  generalize zwI (zwI (zwI (zwR h (X + 2) 0 (some (X + 1))) (X + 2) 1 (nI tl)) (X + 2) 4 (nI 0)) (X + 2) 6 (-1) = G at *
  have y1 := G1.1.1
  have sk : RdSk G (X + 2) (X + 1) 400 := ⟨XSk_Kr y1, eR, XSk_a0k y1, XSk_a0n y1⟩
  have a1 := T_Rdr_advance0 (z := z) (d := d) sk j1 t4 (by decide) (by omega) j4 (Nat.zero_le _)
  rw [jT] at a1
  have f2 : Fr (fun x => x = X + 2) G (rdH G (X + 2) T tl (rn cS T tl 0)) := fr_rd
  have G2 := G1.r2 f2
  have j6 : zI (rdH G (X + 2) T tl (rn cS T tl 0)) (X + 2) 6 = -1 := (rd_f (by decide) (by decide) (by decide) (by decide)).trans G1.2.2.2.1
  rw [j6] at G2
  refine ⟨rdH G (X + 2) T tl (rn cS T tl 0), ?_, G2, rd_rd, ⟨sk, rd_1.trans j1, t4, by decide, by omega, (rd_b (by omega)).trans jT⟩, m1.tr (Mv.fr f2)⟩
  rw [op, a1]
  simp only [zbd_i, tl_n, S_Rdr_open_29]
/-- a new port in the class -/
theorem CI.new (H : CI z g X S ls Lo K A tl T ft) (fg : Fr (Pz (X + 4)) g h') (Tn : PT h' (X + 4) Q np ni nd) (zg : zR h' (X + 4) 12 = Lo) (W : LwP g Lo Q ls) : CI z (zwI h' X 8 (nI 0)) X (Q, np, ni, nd) ls Lo K [] tl T ft := by
  have H0 := H
  obtain ⟨⟨x1, x2, x3⟩, p1, ct, f1, k1, nx, n1, n2, n3, n4, n5⟩ := H
  have hP := XSk_P3 x1
  obtain ⟨⟨y1, y2, y3⟩, y4, y5, y6, y7⟩ := CI_bec H0 (by omega) (by omega) fg hP
  have Pn : PL h' (X + 4) Q np ni nd Lo ls := by
    refine ⟨Tn, zg, ?_, fun L e => Or.inl (by have := x3.1 L e; omega)⟩
    cases Lo with
    | none => exact W
    | some L =>
      obtain ⟨E, W, w1⟩ := W
      have := x3.1 L rfl
      exact ⟨E, W.fr fg (fun x y => by obtain ⟨y1, y2⟩ := y; omega), w1⟩
  have fG : Fr (fun x => x = X) h' (zwI h' X 8 (nI 0)) := Fr.w rfl
  have pl : ∀ {p : Nat} {P : Row} {np ni nd : Nat} {Lo' : Option Nat} {ls' : List LN}, X < p → (∀ L, Lo' = some L → X + 433 ≤ L) → PL h' p P np ni nd Lo' ls' → PL (zwI h' X 8 (nI 0)) p P np ni nd Lo' ls' := fun hp hL Q => Q.fr fG (fun x y => by omega) (fun x L y e => by have := hL L e; omega)
  refine ⟨⟨XSk_w0 y1, WA_fr fG (fun x q => by rw [q, XSk_K y1]; decide) y2, x3⟩, pl (by omega) x3.1 Pn, ⟨?_, y4.2.1, fun k hk => ?_⟩, ?_, ?_, nx, n1, ?_, zI_wa, by decide, fun a S' e => ?_⟩
  · rw [zI_wj (by decide)]; exact y4.1
  · rw [zI_wb (by omega)]; exact y4.2.2 k hk
  · rw [zI_wb (by omega)]; exact y5
  · cases K with
    | none => exact ((zI_wj (by decide)).trans (congrFun y6 6)).trans k1
    | some q => exact ⟨((zI_wj (by decide)).trans (congrFun y6 6)).trans k1.1, pl (by omega) (fun L e => x3.2 q L rfl e) (y7 (by omega) (fun L e => x3.2 q L rfl e) k1.2)⟩
  · rw [zI_wj (by decide), y6]; exact n2
  · cases e
end
