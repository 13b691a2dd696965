/-! DEEDS OF A TEXT as the class reads them -/
theorem zRw {h : Hp} {a j : Nat} {v : Int32} : zR (zwI h a j v) = zR h := rfl
def DX (g G : Hp) (x j : Nat) (W : Nat → Int32) : Prop := Fr (fun y => y = x) g G ∧ zR G = zR g ∧ ∀ c, c < j ∨ 7 ≤ c → c < 12 → zI G x c = W c
def ws (W : Nat → Int32) (j : Nat) (v : Int32) : Nat → Int32 := fun c => if c = j then v else W c
section
variable {z : ZE} {d : Nat} {g g' G : Hp} {r b Nb E s p x j : Nat} {T P : Row} {np ni nd : Nat} {W : Nat → Int32} {w0 w3 : Value}
theorem DX.w (D : DX g G x j W) {v : Int32} : DX g (zwI G x j v) x (j + 1) (ws W j v) := by
  refine ⟨D.1.a rfl, zRw.trans D.2.1, fun c hc h12 => ?_⟩
  unfold ws
  by_cases e : c = j
  · rw [e, if_pos rfl, zI_wa]
  · rw [if_neg e, zI_wj e]; exact D.2.2 c (by omega) h12
theorem PRp.nD (H : PRp g p P np ni nd) (hn : nd < 8) (f : Fr (fun y => y = p + 20 + nd) g G) {v0 v1 v2 v3 v4 v5 v6 : Int32} (e : ∀ c, c < 12 → zI G (p + 20 + nd) c = nth12 v0 v1 v2 v3 v4 v5 v6 (P 6) (nI 0) (-1) (nI 0) (nI 0) c) : PRp (zwI G p 5 (nI (nd + 1))) p (addD P nd v0 v1 v2 v3 v4 v5 v6) np ni (nd + 1) := by
  obtain ⟨h0, ⟨a3, a4, a5⟩, ⟨b1, b2, b3⟩, ⟨c7, c8, c9, c10, c11⟩, e4, ep, ei, ed⟩ := H
  have l := h0
  have i0 : ∀ y, y ≠ p + 20 + nd → zI G y = zI g y := fun y hy => f.i hy
  have o := fun i (h5 : i ≠ 5) (h : i < 45 + 12 * nd ∨ 45 + 12 * nd + 12 ≤ i) => addD_o (P := P) (nd := nd) (v0 := v0) (v1 := v1) (v2 := v2) (v3 := v3) (v4 := v4) (v5 := v5) (v6 := v6) h5 h
  refine ⟨by omega, ⟨(o 3 (by omega) (by omega)).trans a3, (o 4 (by omega) (by omega)).trans a4, by unfold addD; exact up_a⟩, ⟨?_, ?_, zI_wa⟩, ⟨?_, ?_, ?_, ?_, ?_⟩, fun k hk => ?_, fun k c' hk hc' => ?_, fun k c' hk hc' => ?_, fun k c' hk hc' => ?_⟩
  · rw [zI_wj (by decide), i0 p (by omega)]; exact b1
  · rw [zI_wj (by decide), i0 p (by omega)]; exact b2
  · rw [zI_wj (by decide), i0 p (by omega), o 7 (by omega) (by omega)]; exact c7
  · rw [zI_wj (by decide), i0 p (by omega), o 8 (by omega) (by omega)]; exact c8
  · rw [zI_wj (by decide), i0 p (by omega), o 6 (by omega) (by omega)]; exact c9
  · rw [zI_wj (by decide), i0 p (by omega), o 10 (by omega) (by omega)]; exact c10
  · rw [zI_wj (by decide), i0 p (by omega), o 0 (by omega) (by omega)]; exact c11
  · rw [zI_wb (by omega), i0 _ (by omega), o _ (by omega) (by omega)]; exact e4 k hk
  · rw [zI_wb (by omega), i0 _ (by omega), o _ (by omega) (by omega)]; exact ep k c' hk hc'
  · rw [zI_wb (by omega), i0 _ (by omega), o _ (by omega) (by omega)]; exact ei k c' hk hc'
  · rw [zI_wb (by omega)]
    by_cases q : k = nd
    · subst q
      rw [e c' hc', addD_at c' hc']
    · rw [i0 _ (by omega), o _ (by omega) (by omega)]; exact ed k c' (by omega) hc'
/-- the class in the midst of a deed: its number counted already -/
def cH (G : Hp) (p nd : Nat) : Hp := zwI G p 5 (nI (nd + 1))
theorem c_w {v : Int32} (hx : x ≠ p) : zwI (cH G p nd) x j v = cH (zwI G x j v) p nd := zw_cm (Or.inl (Ne.symm hx))
theorem cH_f (hn : nd < 8) (D : DX g G (p + 20 + nd) j W) : Ft p g (cH G p nd) := ⟨(D.1.mo (fun y q => ⟨⟨by omega, by omega⟩, by omega, by omega⟩)).a ⟨⟨by omega, by omega⟩, by omega, by omega⟩, zRw.trans D.2.1⟩
theorem CP.xk (C : CP z (cH G p nd) r b Nb E T p) (hn : nd < 8) : zK (rdH (cH G p nd) r T E s) (p + 20 + nd) = 1 := PSk_o4 C.2.2.1 hn
theorem D_end (C : CP z g r b Nb E T p) (H : PRp g p P np ni nd) (hn : nd < 8) {v0 v1 v2 v3 v4 v5 v6 : Int32} (D : DX g G (p + 20 + nd) 6 W) (hW : ∀ c, c < 12 → ws W 6 v6 c = nth12 v0 v1 v2 v3 v4 v5 v6 (P 6) (nI 0) (-1) (nI 0) (nI 0) c) : PO g r T E p (some (.inl none, zwI (rdH (cH G p nd) r T E s) (p + 20 + nd) 6 v6)) (.inr ((addD P nd v0 v1 v2 v3 v4 v5 v6, np, ni, nd + 1), s)) := by
  have D' := D.w (v := v6)
  rw [rd_wI (C.xr ⟨by omega, by omega⟩), c_w (by omega)]
  exact ⟨_, cH_f hn D', rfl, H.nD hn D'.1 (fun c hc => (D'.2.2 c (by omega) hc).trans (hW c hc))⟩
theorem D_but (C : CP z g r b Nb E T p) (H : PRp g p P np ni nd) (hn : nd < 8) (hs : s ≤ E) {v0 v1 v2 v3 v4 v5 : Int32} (D : DX g G (p + 20 + nd) 6 W) (hW : ∀ c v6, c < 12 → ws W 6 v6 c = nth12 v0 v1 v2 v3 v4 v5 v6 (P 6) (nI 0) (-1) (nI 0) (nI 0) c) {pc : Nat} : PO g r T E p (zbd (ev z d 94 0 [.ref r, .ref (z.1 60), zu] [] (rdH (cH G p nd) r T E s)) (fun v h' => ev z d 86 186 [w0, .ref r, .int (nI nd - nI 1), .ref (p + 20 + nd)] (v.toList ++ [.ref (p + 20 + nd)]) h') (fun e h' => evx z d 86 pc [w0, .ref r, .int (nI nd - nI 1), .ref (p + 20 + nd)] e h')) (pB (pM T E (wt 9) (nI 0) (nI nd - nI 1) (-1) s) (fun q7 => .inr ((addD P nd v0 v1 v2 v3 v4 v5 q7.1, np, ni, nd + 1), q7.2))) := by
  have f := cH_f hn D
  have C1 := C.fr f
  rw [C1.tk (j := 9) (by decide) (by decide) hs]
  unfold pM
  by_cases c : isW T E s (wt 9) = true
  · rw [if_pos c, if_pos c]
    simp only [zbd_i, tl_s]
    rw [S_PTx_readDeed_186 C1.1.sk (C1.xk hn), if_neg (by decide), T_needN C1.1 (adv_le hs)]
    unfold pN
    by_cases c2 : isN T E (adv T E s) (nI 0) (nI nd - nI 1) = true
    · rw [if_pos c2, if_pos c2]
      simp only [zbd_i, tl_s]
      rw [S_PTx_readDeed_195 (C1.xk hn)]
      exact D_end C H hn D (fun c hc => hW c _ hc)
    · rw [if_neg c2, if_neg c2]
      simp only [zbd_e, evx_nil (n := 86) rfl]
      exact ⟨_, f, rfl⟩
  · rw [if_neg c, if_neg c]
    simp only [zbd_i, tl_s]
    rw [S_PTx_readDeed_186 C1.1.sk (C1.xk hn), if_pos (by decide)]
    exact D_end C H hn D (fun c hc => hW c _ hc)
theorem D_on (C : CP z g r b Nb E T p) (H : PRp g p P np ni nd) (hn : nd < 8) (hs : s ≤ E) {v0 v1 v2 v3 v4 : Int32} (D : DX g G (p + 20 + nd) 5 W) (hW : ∀ c v5 v6, c < 12 → ws (ws W 5 v5) 6 v6 c = nth12 v0 v1 v2 v3 v4 v5 v6 (P 6) (nI 0) (-1) (nI 0) (nI 0) c) {pc : Nat} : PO g r T E p (zbd (ev z d 94 0 [.ref r, .ref (z.1 59), zu] [] (rdH (cH G p nd) r T E s)) (fun v h' => ev z d 86 163 [w0, .ref r, .int (nI nd - nI 1), .ref (p + 20 + nd)] (v.toList ++ [.ref (p + 20 + nd)]) h') (fun e h' => evx z d 86 pc [w0, .ref r, .int (nI nd - nI 1), .ref (p + 20 + nd)] e h')) (pB (pM T E (wt 8) (nI 0) (nI nd - nI 1) (-1) s) (fun q6 => pB (pM T E (wt 9) (nI 0) (nI nd - nI 1) (-1) q6.2) (fun q7 => .inr ((addD P nd v0 v1 v2 v3 v4 q6.1 q7.1, np, ni, nd + 1), q7.2)))) := by
  have f := cH_f hn D
  have C1 := C.fr f
  have xr : p + 20 + nd ≠ r := C.xr ⟨by omega, by omega⟩
  rw [C1.tk (j := 8) (by decide) (by decide) hs]
  show PO g r T E p _ (pB (pM T E (wt 8) (nI 0) (nI nd - nI 1) (-1) s) _)
  unfold pM
  by_cases c : isW T E s (wt 8) = true
  · rw [if_pos c, if_pos c]
    simp only [zbd_i, tl_s]
    rw [S_PTx_readDeed_163 C1.1.sk (C1.xk hn) (C1.xk hn), if_neg (by decide), T_needN C1.1 (adv_le hs)]
    unfold pN
    by_cases c2 : isN T E (adv T E s) (nI 0) (nI nd - nI 1) = true
    · rw [if_pos c2, if_pos c2]
      simp only [zbd_i, tl_s]
      rw [S_PTx_readDeed_172 C1.1.sk (C1.xk hn) (C1.xk hn), rd_wI xr, c_w (by omega)]
      exact D_but C H hn (adv_le (adv_le hs)) D.w (fun c v6 hc => hW c _ v6 hc)
    · rw [if_neg c2, if_neg c2]
      simp only [zbd_e, evx_nil (n := 86) rfl]
      exact ⟨_, f, rfl⟩
  · rw [if_neg c, if_neg c]
    simp only [zbd_i, tl_s]
    rw [S_PTx_readDeed_163 C1.1.sk (C1.xk hn) (C1.xk hn), if_pos (by decide), rd_wI xr, c_w (by omega)]
    exact D_but C H hn hs D.w (fun c v6 hc => hW c _ v6 hc)
theorem D_term (C : CP z g r b Nb E T p) (H : PRp g p P np ni nd) (hn : nd < 8) (hs : s ≤ E) {v0 v1 v2 v3 : Int32} (D : DX g G (p + 20 + nd) 4 W) (hW : ∀ c v4 v5 v6, c < 12 → ws (ws (ws W 4 v4) 5 v5) 6 v6 c = nth12 v0 v1 v2 v3 v4 v5 v6 (P 6) (nI 0) (-1) (nI 0) (nI 0) c) {pc : Nat} : PO g r T E p (zbd (ev z d 94 0 [.ref r, .ref (z.1 58), zu] [] (rdH (cH G p nd) r T E s)) (fun v h' => ev z d 86 139 [w0, .ref r, .int (nI nd - nI 1), .ref (p + 20 + nd)] (v.toList ++ [.ref (p + 20 + nd)]) h') (fun e h' => evx z d 86 pc [w0, .ref r, .int (nI nd - nI 1), .ref (p + 20 + nd)] e h')) (pB (pM T E (wt 7) (nI 0) (nI 20) (nI 0) s) (fun q5 => pB (pM T E (wt 8) (nI 0) (nI nd - nI 1) (-1) q5.2) (fun q6 => pB (pM T E (wt 9) (nI 0) (nI nd - nI 1) (-1) q6.2) (fun q7 => .inr ((addD P nd v0 v1 v2 v3 q5.1 q6.1 q7.1, np, ni, nd + 1), q7.2))))) := by
  have f := cH_f hn D
  have C1 := C.fr f
  have xr : p + 20 + nd ≠ r := C.xr ⟨by omega, by omega⟩
  rw [C1.tk (j := 7) (by decide) (by decide) hs]
  show PO g r T E p _ (pB (pM T E (wt 7) (nI 0) (nI 20) (nI 0) s) _)
  unfold pM
  by_cases c : isW T E s (wt 7) = true
  · rw [if_pos c, if_pos c]
    simp only [zbd_i, tl_s]
    rw [S_PTx_readDeed_139 C1.1.sk (C1.xk hn) (C1.xk hn), if_neg (by decide), T_needN C1.1 (adv_le hs)]
    unfold pN
    by_cases c2 : isN T E (adv T E s) (nI 0) (nI 20) = true
    · rw [if_pos c2, if_pos c2]
      simp only [zbd_i, tl_s]
      rw [S_PTx_readDeed_149 C1.1.sk (C1.xk hn) (C1.xk hn), rd_wI xr, c_w (by omega)]
      exact D_on C H hn (adv_le (adv_le hs)) D.w (fun c v5 v6 hc => hW c _ v5 v6 hc)
    · rw [if_neg c2, if_neg c2]
      simp only [zbd_e, evx_nil (n := 86) rfl]
      exact ⟨_, f, rfl⟩
  · rw [if_neg c, if_neg c]
    simp only [zbd_i, tl_s]
    rw [S_PTx_readDeed_139 C1.1.sk (C1.xk hn) (C1.xk hn), if_pos (by decide), rd_wI xr, c_w (by omega)]
    exact D_on C H hn hs D.w (fun c v5 v6 hc => hW c _ v5 v6 hc)
theorem D_sum (C : CP z g r b Nb E T p) (H : PRp g p P np ni nd) (hn : nd < 8) (hs : s ≤ E) {v0 v1 v2 : Int32} (D : DX g G (p + 20 + nd) 3 W) (hW : ∀ c v3 v4 v5 v6, c < 12 → ws (ws (ws (ws W 3 v3) 4 v4) 5 v5) 6 v6 c = nth12 v0 v1 v2 v3 v4 v5 v6 (P 6) (nI 0) (-1) (nI 0) (nI 0) c) {pc : Nat} : PO g r T E p (zbd (ev z d 95 0 [.ref r, .ref (z.1 57)] [] (rdH (cH G p nd) r T E s)) (fun v h' => ev z d 86 121 [w0, .ref r, .int (nI nd - nI 1), .ref (p + 20 + nd)] (v.toList ++ []) h') (fun e h' => evx z d 86 pc [w0, .ref r, .int (nI nd - nI 1), .ref (p + 20 + nd)] e h')) (lDeed2 T E (P, np, ni, nd) v0 v1 v2 s) := by
  have f := cH_f hn D
  have C1 := C.fr f
  have xr : p + 20 + nd ≠ r := C.xr ⟨by omega, by omega⟩
  rw [C1.nw (j := 6) (by decide) (by decide) hs]
  unfold lDeed2 pA pW
  by_cases c : isW T E s (wt 6) = true
  · rw [if_pos c, if_pos c]
    simp only [zbd_i, tl_n]
    rw [S_PTx_readDeed_121 C1.1.sk, T_needN C1.1 (adv_le hs)]
    show PO g r T E p _ (pB (pN T E (nI 0) (nI 99) (adv T E s)) _)
    unfold pN
    by_cases c2 : isN T E (adv T E s) (nI 0) (nI 99) = true
    · rw [if_pos c2, if_pos c2]
      simp only [zbd_i, tl_s]
      rw [S_PTx_readDeed_129 C1.1.sk (C1.xk hn) (C1.xk hn), rd_wI xr, c_w (by omega)]
      exact D_term C H hn (adv_le (adv_le hs)) D.w (fun c v4 v5 v6 hc => hW c _ v4 v5 v6 hc)
    · rw [if_neg c2, if_neg c2]
      simp only [zbd_e, evx_nil (n := 86) rfl]
      exact ⟨_, f, rfl⟩
  · rw [if_neg c, if_neg c]
    simp only [zbd_e, evx_nil (n := 86) rfl]
    exact ⟨_, f, rfl⟩
theorem D_i3 (C : CP z g r b Nb E T p) (H : PRp g p P np ni nd) (hn : nd < 8) (D : DX g G (p + 20 + nd) j W) : zI (rdH (cH G p nd) r T E s) p 3 = nI ni := (rd_o C.pr).trans ((zI_wj (by decide)).trans ((congrFun (D.1.i (by omega)) 3).trans H.ci))
theorem D_i1 (C : CP z g r b Nb E T p) (H : PRp g p P np ni nd) (hn : nd < 8) (D : DX g G (p + 20 + nd) j W) : zI (rdH (cH G p nd) r T E s) p 1 = nI np := (rd_o C.pr).trans ((zI_wj (by decide)).trans ((congrFun (D.1.i (by omega)) 1).trans H.cp))
theorem D_x (C : CP z g r b Nb E T p) (hn : nd < 8) {c : Nat} : zI (rdH (cH G p nd) r T E s) (p + 20 + nd) c = zI G (p + 20 + nd) c := (rd_o (C.xr ⟨by omega, by omega⟩)).trans (zI_wb (by omega))
theorem D_to (C : CP z g r b Nb E T p) (H : PRp g p P np ni nd) (hn : nd < 8) (hs : s ≤ E) {v0 v1 : Int32} (D : DX g G (p + 20 + nd) 2 W) (hW : ∀ c v2 v3 v4 v5 v6, c < 12 → ws (ws (ws (ws (ws W 2 v2) 3 v3) 4 v4) 5 v5) 6 v6 c = nth12 v0 v1 v2 v3 v4 v5 v6 (P 6) (nI 0) (-1) (nI 0) (nI 0) c) (h1 : W 1 = v1) : PO g r T E p (ev z d 86 77 [.ref p, .ref r, .int (nI nd - nI 1), .ref (p + 20 + nd)] [] (rdH (cH G p nd) r T E s)) (pB (pN T E (nI 0) (nI np - nI 1) s) (fun q3 => if q3.1 = v1 then .inl s else lDeed2 T E (P, np, ni, nd) v0 v1 q3.1 q3.2)) := by
  have f := cH_f hn D
  have C2 := C.fr f
  have xr : p + 20 + nd ≠ r := C.xr ⟨by omega, by omega⟩
  have x1 : zI (rdH (cH G p nd) r T E s) (p + 20 + nd) 1 = v1 := (D_x C hn).trans ((D.2.2 1 (by omega) (by decide)).trans h1)
  rw [S_PTx_readDeed_77 C2.sk C2.1.sk (C2.xk hn), rd_2, rd_5, x1, D_i1 C H hn D, T_refuse C2.1, T_needN C2.1 hs]
  unfold pN
  by_cases c6 : isN T E s (nI 0) (nI np - nI 1) = true
  · have k2 : tkK T E s = nI 2 := by unfold isN at c6; exact (of_decide_eq_true c6).1
    rw [if_pos k2, if_pos c6, if_pos c6]
    show PO g r T E p _ (if tkV T E s = v1 then .inl s else lDeed2 T E (P, np, ni, nd) v0 v1 (tkV T E s) (adv T E s))
    by_cases c7 : tkV T E s = v1
    · rw [if_pos c7, if_pos c7]
      simp only [zbd_e, evx_nil (n := 86) rfl]
      exact ⟨_, f, rfl⟩
    · rw [if_neg c7, if_neg c7]
      simp only [zbd_i, tl_s]
      rw [S_PTx_readDeed_112 C2.1.sk (C2.xk hn) (C2.xk hn), rd_wI xr, c_w (by omega)]
      exact D_sum C H hn (adv_le hs) D.w (fun c v3 v4 v5 v6 hc => hW c _ v3 v4 v5 v6 hc)
  · rw [if_neg c6, if_neg c6]
    simp only [zbd_e, evx_nil (n := 86) rfl, ite_self]
    exact ⟨_, f, rfl⟩
theorem D_from (C : CP z g r b Nb E T p) (H : PRp g p P np ni nd) (hn : nd < 8) (hs : s ≤ E) {v0 : Int32} (D : DX g G (p + 20 + nd) 1 W) (hW : ∀ c v1 v2 v3 v4 v5 v6, c < 12 → ws (ws (ws (ws (ws (ws W 1 v1) 2 v2) 3 v3) 4 v4) 5 v5) 6 v6 c = nth12 v0 v1 v2 v3 v4 v5 v6 (P 6) (nI 0) (-1) (nI 0) (nI 0) c) {pc : Nat} : PO g r T E p (zbd (ev z d 95 0 [.ref r, .ref (z.1 55)] [] (rdH (cH G p nd) r T E s)) (fun v h' => ev z d 86 56 [.ref p, .ref r, .int (nI nd - nI 1), .ref (p + 20 + nd)] (v.toList ++ []) h') (fun e h' => evx z d 86 pc [.ref p, .ref r, .int (nI nd - nI 1), .ref (p + 20 + nd)] e h')) (pB (pA T E (wt 4) (nI 0) (nI np - nI 1) s) (fun q2 => pB (pW T E (wt 5) q2.2) (fun s3 => pB (pN T E (nI 0) (nI np - nI 1) s3) (fun q3 => if q3.1 = q2.1 then .inl s3 else lDeed2 T E (P, np, ni, nd) v0 q2.1 q3.1 q3.2)))) := by
  have f := cH_f hn D
  have C1 := C.fr f
  have xr : p + 20 + nd ≠ r := C.xr ⟨by omega, by omega⟩
  rw [C1.nw (j := 4) (by decide) (by decide) hs]
  unfold pA
  show PO g r T E p _ (pB (pB (if isW T E s (wt 4) = true then _ else _) _) _)
  by_cases c3 : isW T E s (wt 4) = true
  · rw [if_pos c3, if_pos c3]
    simp only [zbd_i, tl_n]
    have a4 := adv_le (T := T) hs
    rw [S_PTx_readDeed_56 C1.sk C1.1.sk, D_i1 C H hn D, T_needN C1.1 a4]
    show PO g r T E p _ (pB (if isN T E (adv T E s) (nI 0) (nI np - nI 1) = true then _ else _) _)
    by_cases c4 : isN T E (adv T E s) (nI 0) (nI np - nI 1) = true
    · rw [if_pos c4, if_pos c4]
      simp only [zbd_i, tl_s]
      have a5 := adv_le (T := T) a4
      generalize tkV T E (adv T E s) = v1
      generalize adv T E (adv T E s) = s5 at a5
      have D2 := D.w (v := v1)
      have f2 := cH_f hn D2
      have C2 := C.fr f2
      rw [S_PTx_readDeed_68 C1.1.sk (C1.xk hn) (C1.xk hn), rd_wI xr, c_w (by omega), C2.nw (j := 5) (by decide) (by decide) a5]
      show PO g r T E p _ (pB (if isW T E s5 (wt 5) = true then _ else _) _)
      by_cases c5 : isW T E s5 (wt 5) = true
      · rw [if_pos c5, if_pos c5]
        simp only [zbd_i, tl_n]
        exact D_to C H hn (adv_le a5) D2 (fun c v2 v3 v4 v5 v6 hc => hW c _ v2 v3 v4 v5 v6 hc) (if_pos rfl)
      · rw [if_neg c5, if_neg c5]
        simp only [zbd_e, evx_nil (n := 86) rfl]
        exact ⟨_, f2, rfl⟩
    · rw [if_neg c4, if_neg c4]
      simp only [zbd_e, evx_nil (n := 86) rfl]
      exact ⟨_, f, rfl⟩
  · rw [if_neg c3, if_neg c3]
    simp only [zbd_e, evx_nil (n := 86) rfl]
    exact ⟨_, f, rfl⟩
theorem D_ink (C : CP z g r b Nb E T p) (H : PRp g p P np ni nd) (hn : nd < 8) (hs : s ≤ E) (D : DX g G (p + 20 + nd) 0 W) (hW : ∀ c v0 v1 v2 v3 v4 v5 v6, c < 12 → ws (ws (ws (ws (ws (ws (ws W 0 v0) 1 v1) 2 v2) 3 v3) 4 v4) 5 v5) 6 v6 c = nth12 v0 v1 v2 v3 v4 v5 v6 (P 6) (nI 0) (-1) (nI 0) (nI 0) c) : PO g r T E p (ev z d 86 28 [.ref p, .ref r, .int (nI nd - nI 1), w3] [.ref (p + 20 + nd)] (rdH (cH G p nd) r T E s)) (pB (pA T E (wt 3) (nI 0) (nI ni - nI 1) s) (fun q1 => pB (pA T E (wt 4) (nI 0) (nI np - nI 1) q1.2) (fun q2 => pB (pW T E (wt 5) q2.2) (fun s3 => pB (pN T E (nI 0) (nI np - nI 1) s3) (fun q3 => if q3.1 = q2.1 then .inl s3 else lDeed2 T E (P, np, ni, nd) q1.1 q2.1 q3.1 q3.2))))) := by
  have f := cH_f hn D
  have C0 := C.fr f
  have xr : p + 20 + nd ≠ r := C.xr ⟨by omega, by omega⟩
  rw [S_PTx_readDeed_28 C0.1.sk, C0.nw (j := 3) (by decide) (by decide) hs]
  show PO g r T E p _ (pB (pB (if isW T E s (wt 3) = true then _ else _) _) _)
  by_cases c1 : isW T E s (wt 3) = true
  · rw [if_pos c1, if_pos c1]
    simp only [zbd_i, tl_n]
    have a2 := adv_le (T := T) hs
    rw [S_PTx_readDeed_35 C0.sk C0.1.sk, D_i3 C H hn D, T_needN C0.1 a2]
    show PO g r T E p _ (pB (if isN T E (adv T E s) (nI 0) (nI ni - nI 1) = true then _ else _) _)
    by_cases c2 : isN T E (adv T E s) (nI 0) (nI ni - nI 1) = true
    · rw [if_pos c2, if_pos c2]
      simp only [zbd_i, tl_s]
      have a3 := adv_le (T := T) a2
      generalize tkV T E (adv T E s) = v0
      generalize adv T E (adv T E s) = s3 at a3
      rw [S_PTx_readDeed_47 C0.1.sk (C0.xk hn) (C0.xk hn), rd_wI xr, c_w (by omega)]
      exact D_from C H hn a3 D.w (fun c v1 v2 v3 v4 v5 v6 hc => hW c _ v1 v2 v3 v4 v5 v6 hc)
    · rw [if_neg c2, if_neg c2]
      simp only [zbd_e, evx_nil (n := 86) rfl]
      exact ⟨_, f, rfl⟩
  · rw [if_neg c1, if_neg c1]
    simp only [zbd_e, evx_nil (n := 86) rfl]
    exact ⟨_, f, rfl⟩
theorem D_begin {G : Hp} (hG : zwI (zwI (zwI (zwI (zwI (zwI (zwI g x 5 (-1)) x 6 (-1)) x 7 (P 6)) x 8 (nI 0)) x 9 (-1)) x 10 (nI 0)) x 11 (nI 0) = G) : DX g G x 0 (nth12 0 0 0 0 0 0 0 (P 6) (nI 0) (-1) (nI 0) (nI 0)) := by
  rw [← hG]
  refine ⟨Fr.a (Fr.a (Fr.a (Fr.a (Fr.a (Fr.a (Fr.w rfl) rfl) rfl) rfl) rfl) rfl) rfl, by simp only [zRw], fun c hc h12 => ?_⟩
  simp only [zI_w]
  have h7 : 7 ≤ c := by omega
  match c, h7, h12 with
  | 7, _, _ => simp [nth12]
  | 8, _, _ => simp [nth12]
  | 9, _, _ => simp [nth12]
  | 10, _, _ => simp [nth12]
  | 11, _, _ => simp [nth12]
theorem ws_all {v : Int32} {c : Nat} {v0 v1 v2 v3 v4 v5 v6 : Int32} (hc : c < 12) : ws (ws (ws (ws (ws (ws (ws (nth12 0 0 0 0 0 0 0 v (nI 0) (-1) (nI 0) (nI 0)) 0 v0) 1 v1) 2 v2) 3 v3) 4 v4) 5 v5) 6 v6 c = nth12 v0 v1 v2 v3 v4 v5 v6 v (nI 0) (-1) (nI 0) (nI 0) c := by
  unfold ws
  match c, hc with
  | 0, _ => simp [nth12]
  | 1, _ => simp [nth12]
  | 2, _ => simp [nth12]
  | 3, _ => simp [nth12]
  | 4, _ => simp [nth12]
  | 5, _ => simp [nth12]
  | 6, _ => simp [nth12]
  | 7, _ => simp [nth12]
  | 8, _ => simp [nth12]
  | 9, _ => simp [nth12]
  | 10, _ => simp [nth12]
  | 11, _ => simp [nth12]
/-- a deed is added, in the midst of a text -/
theorem T_addDeed (C : CP z g r b Nb E T p) (H : PRp g p P np ni nd) (hn : nd < 8) : ∃ G, DX g G (p + 20 + nd) 0 (nth12 0 0 0 0 0 0 0 (P 6) (nI 0) (-1) (nI 0) (nI 0)) ∧ ev z d 49 0 [.ref p, zu] [] (rdH g r T E s) = some (.inl (some (.ref (p + 20 + nd))), rdH (cH G p nd) r T E s) := by
  have xr : p + 20 + nd ≠ r := C.xr ⟨by omega, by omega⟩
  rw [S_Port_addDeed_0 C.sk, (rd_o C.pr).trans H.cd, ix_n hn (by decide), S_Deed_beginAt_0 (PSk_o4 C.sk hn), (rd_o C.pr).trans H.time]
  simp only [zbd_i, tl_n]
  rw [rd_wI xr, rd_wI xr, rd_wI xr, rd_wI xr, rd_wI xr, rd_wI xr, rd_wI xr]
  generalize hG : zwI (zwI (zwI (zwI (zwI (zwI (zwI g (p + 20 + nd) 5 (-1)) (p + 20 + nd) 6 (-1)) (p + 20 + nd) 7 (P 6)) (p + 20 + nd) 8 (nI 0)) (p + 20 + nd) 9 (-1)) (p + 20 + nd) 10 (nI 0)) (p + 20 + nd) 11 (nI 0) = G
  have D := D_begin (P := P) hG
  clear hG
  have C2 : CP z G r b Nb E T p := C.fr ⟨D.1.mo (fun y q => ⟨⟨by omega, by omega⟩, by omega, by omega⟩), D.2.1⟩
  have z5 : zI (rdH G r T E s) p 5 = nI nd := (rd_o C.pr).trans ((congrFun (D.1.i (by omega)) 5).trans H.cd)
  rw [S_Port_addDeed_18 C2.sk, z5, nI_add, rd_wI C.pr]
  exact ⟨G, D, rfl⟩
theorem T_cDeed (C : CP z g r b Nb E T p) (H : PRp g p P np ni nd) (hs : s ≤ E) : PO g r T E p (ev z d 86 0 [.ref p, .ref r, zu, zu] [] (rdH g r T E s)) (lDeed T E (P, np, ni, nd) s) := by
  have h8 := H.ld
  have O := C.1
  have e1 : ∀ s, zI (rdH g r T E s) p 5 = nI nd := fun s => (rd_o C.pr).trans H.cd
  rw [S_PTx_readDeed_0 C.sk O.sk, e1]
  unfold lDeed
  by_cases c : nd = 8
  · subst c
    rw [if_neg (by decide), T_refuse O, if_pos rfl]
    simp only [zbd_e, evx_nil (n := 86) rfl]
    exact ⟨g, Ft.rf, rfl⟩
  · have hn : nd < 8 := by omega
    have a1 := adv_le (T := T) hs
    obtain ⟨G, D, e2⟩ := T_addDeed (z := z) (d := d) (s := adv T E s) C H hn
    rw [if_pos (nI_lt hn (by decide)), T_adv O hs, if_neg c]
    simp only [zbd_i, tl_n]
    rw [S_PTx_readDeed_17 C.sk, e1, e2]
    simp only [zbd_i, tl_s]
    exact D_ink C H hn a1 D (fun c v0 v1 v2 v3 v4 v5 v6 hc => ws_all hc)
end
