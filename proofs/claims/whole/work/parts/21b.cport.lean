/-! A PORT'S TEXT as the class reads it -/
def Tz (p : Nat) : Nat → Prop := fun x => Pz p x ∧ x ≠ p + 5 ∧ x ≠ p + 6
def Ft (p : Nat) (g g' : Hp) : Prop := Fr (Tz p) g g' ∧ zR g' = zR g
def CP (z : ZE) (g : Hp) (r b Nb E : Nat) (T : Row) (p : Nat) : Prop := RdT g r b Nb E T ∧ WA z g ∧ PSk g p ∧ ¬ Pz p r ∧ ¬ Pz p b
def PO (g : Hp) (r : Nat) (T : Row) (E p : Nat) (o : Option (zO × Hp)) (x : Nat ⊕ (PSt × Nat)) : Prop := match x with
  | .inr q => ∃ g', Ft p g g' ∧ o = some (.inl none, rdH g' r T E q.2) ∧ PRp g' p q.1.1 q.1.2.1 q.1.2.2.1 q.1.2.2.2
  | .inl e => ∃ g', Ft p g g' ∧ o = some (.inr 0, xH (rdH g' r T E e) r e)
section
variable {z : ZE} {d : Nat} {g g' : Hp} {r b Nb E s p : Nat} {T P : Row} {np ni nd : Nat}
theorem Ft.rf : Ft p g g := ⟨Fr.rf, rfl⟩
theorem Ft.tr {g2 : Hp} (a : Ft p g g') (b : Ft p g' g2) : Ft p g g2 := ⟨a.1.tr b.1, b.2.trans a.2⟩
theorem Ft.w {a j : Nat} {v : Int32} (ha : Tz p a) : Ft p g (zwI g a j v) := ⟨Fr.w ha, rfl⟩
theorem Ft.a {a j : Nat} {v : Int32} (f : Ft p g g') (ha : Tz p a) : Ft p g (zwI g' a j v) := f.tr (Ft.w ha)
theorem CP.fr (C : CP z g r b Nb E T p) (f : Ft p g g') : CP z g' r b Nb E T p := by
  obtain ⟨h1, h2, h3, h4, h5⟩ := C
  exact ⟨RdT_fr f.1 (fun q => h4 q.1) (fun q => h5 q.1) h1, WA_fr f.1 (fun x q => Pz_k h3 q.1) h2, PSk_fr f.1 h3, h4, h5⟩
theorem CP.sk (C : CP z g r b Nb E T p) : PSk (rdH g r T E s) p := C.2.2.1
theorem CP.pr (C : CP z g r b Nb E T p) : p ≠ r := fun e => C.2.2.2.1 ⟨by omega, by omega⟩
theorem CP.xr (C : CP z g r b Nb E T p) {x : Nat} (hx : Pz p x) : x ≠ r := fun e => C.2.2.2.1 (by rw [← e]; exact hx)
theorem CP.tk (C : CP z g r b Nb E T p) {i j : Nat} (hi : i < 65) (e : wt i = wt j) (hs : s ≤ E) : ev z d 94 0 [.ref r, .ref (z.1 i), zu] [] (rdH g r T E s) = if isW T E s (wt j) = true then some (.inl (some (.int (nI 1))), rdH g r T E (adv T E s)) else some (.inl (some (.int (nI 0))), rdH g r T E s) := by rw [← e]; exact T_takes C.1 (C.2.1 i hi) hs
theorem CP.aw (C : CP z g r b Nb E T p) {i j : Nat} (hi : i < 65) (e : wt i = wt j) (hs : s ≤ E) : ev z d 92 0 [.ref r, .ref (z.1 i), zu] [] (rdH g r T E s) = some (.inl (some (.int (bI (isW T E s (wt j))))), rdH g r T E s) := by rw [← e]; exact T_atWord C.1 (C.2.1 i hi) hs
theorem CP.nw (C : CP z g r b Nb E T p) {i j : Nat} (hi : i < 65) (e : wt i = wt j) (hs : s ≤ E) : ev z d 95 0 [.ref r, .ref (z.1 i)] [] (rdH g r T E s) = if isW T E s (wt j) = true then some (.inl none, rdH g r T E (adv T E s)) else some (.inr 0, xH (rdH g r T E s) r s) := by rw [← e]; exact T_needW C.1 (C.2.1 i hi) hs
theorem tz {j : Nat} (h : j < 28) (h5 : j ≠ 5) (h6 : j ≠ 6) : Tz p (p + j) := ⟨⟨by omega, by omega⟩, by omega, by omega⟩
theorem T_cParty (C : CP z g r b Nb E T p) (H : PRp g p P np ni nd) (hs : s ≤ E) (hsE : s < E) : PO g r T E p (ev z d 84 0 [.ref p, .ref r, zu] [] (rdH g r T E s)) (lParty T E (P, np, ni, nd) s) := by
  have h6 := H.lp
  have O := C.1
  have e1 : ∀ s, zI (rdH g r T E s) p 1 = nI np := fun s => (rd_o C.pr).trans H.cp
  rw [S_PTx_readParty_0 C.sk O.sk, e1]
  unfold lParty
  by_cases c : np = 6
  · subst c
    rw [if_neg (by decide), T_refuse O, if_pos rfl]
    simp only [zbd_e, evx_nil (n := 84) rfl]
    exact ⟨g, Ft.rf, rfl⟩
  · rw [if_pos (nI_lt (by omega) (by decide)), T_adv O hs, if_neg c]
    simp only [zbd_i, tl_n]
    rw [S_PTx_readParty_17 C.sk O.sk, e1, ix_n (by omega) (by decide), T_needN O (adv_le hs)]
    unfold pN
    by_cases c1 : isN T E (adv T E s) (nI 0) (nI 999) = true
    · rw [if_pos c1, if_pos c1]
      simp only [zbd_i, tl_s]
      have xr : p + 8 + np ≠ r := C.xr ⟨by omega, by omega⟩
      rw [S_PTx_readParty_36 C.sk (by omega), rd_wI xr, rd_wI xr, rd_o C.pr, zI_wb (by omega), zI_wb (by omega), H.cp, nI_add, rd_wI C.pr]
      have t1 : Tz p (p + 8 + np) := ⟨⟨by omega, by omega⟩, by omega, by omega⟩
      refine ⟨_, Ft.a (Ft.a (Ft.w t1) t1) ⟨⟨by omega, by omega⟩, by omega, by omega⟩, rfl, ?_⟩
      have H2 := (H.wP (i := np) (c := 0) (v := tkV T E (adv T E s)) (by omega) (by decide)).wP (i := np) (c := 1) (v := nI 0) (by omega) (by decide)
      refine H2.n1 (by omega) (fun c hc => ?_)
      match c, hc with
      | 0, _ => rw [zI_wj (by decide), zI_wa, up_n (by omega), up_a]
      | 1, _ => rw [zI_wa, up_a]
    · rw [if_neg c1, if_neg c1]
      simp only [zbd_e, evx_nil (n := 84) rfl]
      exact ⟨g, Ft.rf, rfl⟩
theorem T_cInk (C : CP z g r b Nb E T p) (H : PRp g p P np ni nd) (hs : s ≤ E) : PO g r T E p (ev z d 85 0 [.ref p, .ref r, zu] [] (rdH g r T E s)) (lInk T E (P, np, ni, nd) s) := by
  have h6 := H.li
  have O := C.1
  have e1 : ∀ s, zI (rdH g r T E s) p 3 = nI ni := fun s => (rd_o C.pr).trans H.ci
  rw [S_PTx_readInk_0 C.sk O.sk, e1]
  unfold lInk
  by_cases c : ni = 6
  · subst c
    rw [if_neg (by decide), T_refuse O, if_pos rfl]
    simp only [zbd_e, evx_nil (n := 85) rfl]
    exact ⟨g, Ft.rf, rfl⟩
  · have n6 : ni < 6 := by omega
    have t1 : Tz p (p + 14 + ni) := ⟨⟨by omega, by omega⟩, by omega, by omega⟩
    have xr : p + 14 + ni ≠ r := C.xr t1.1
    rw [if_pos (nI_lt n6 (by decide)), T_adv O hs, if_neg c]
    simp only [zbd_i, tl_n]
    rw [S_PTx_readInk_17 O.sk, C.nw (j := 0) (by decide) (by decide) (adv_le hs)]
    show PO g r T E p _ (pB (pA T E (wt 0) (nI 1) (nI 99) (adv T E s)) _)
    unfold pA pW
    by_cases c1 : isW T E (adv T E s) (wt 0) = true
    · rw [if_pos c1, if_pos c1]
      simp only [zbd_i, tl_n]
      have a2 := adv_le (T := T) (adv_le (T := T) hs)
      rw [S_PTx_readInk_23 C.sk O.sk, e1, ix_n n6 (by decide), T_needN O a2]
      show PO g r T E p _ (pB (pN T E (nI 1) (nI 99) (adv T E (adv T E s))) _)
      unfold pN
      by_cases c2 : isN T E (adv T E (adv T E s)) (nI 1) (nI 99) = true
      · rw [if_pos c2, if_pos c2]
        simp only [zbd_i, tl_s]
        have a3 := adv_le (T := T) a2
        generalize tkV T E (adv T E (adv T E s)) = v0
        generalize adv T E (adv T E (adv T E s)) = s3 at a3
        have C1 : CP z (zwI g (p + 14 + ni) 0 v0) r b Nb E T p := C.fr (Ft.w t1)
        rw [S_PTx_readInk_41 C.sk O.sk n6, rd_wI xr, C1.tk (j := 1) (by decide) (by decide) a3]
        /- the last two -/
        have fin : ∀ (v1 : Int32) (s4 : Nat), s4 ≤ E → PO g r T E p (zbd (ev z d 94 0 [.ref r, .ref (z.1 54), zu] [] (rdH (zwI (zwI g (p + 14 + ni) 0 v0) (p + 14 + ni) 1 v1) r T E s4)) (fun v h' => ev z d 85 75 [.ref p, .ref r, .ref (p + 14 + ni)] (v.toList ++ [.ref (p + 14 + ni)]) h') (fun e h' => evx z d 85 72 [.ref p, .ref r, .ref (p + 14 + ni)] e h')) (pB (pM T E (wt 2) (nI 0) (nI 9) (nI 0) s4) (fun q3 => .inr ((addI P ni v0 v1 q3.1, np, ni + 1, nd), q3.2))) := by
          intro v1 s4 a4
          have f2 : Ft p g (zwI (zwI g (p + 14 + ni) 0 v0) (p + 14 + ni) 1 v1) := Ft.a (Ft.w t1) t1
          have C2 := C.fr f2
          have H2 := (H.wK (i := ni) (c := 0) (v := v0) n6 (by decide)).wK (i := ni) (c := 1) (v := v1) n6 (by decide)
          have z3 : zI (zwI (zwI g (p + 14 + ni) 0 v0) (p + 14 + ni) 1 v1) p 3 = nI ni := H2.ci
          have out : ∀ (v2 : Int32) (s5 : Nat), PO g r T E p (some (.inl none, zwI (zwI (rdH (zwI (zwI g (p + 14 + ni) 0 v0) (p + 14 + ni) 1 v1) r T E s5) (p + 14 + ni) 2 v2) p 3 (zI (rdH (zwI (zwI g (p + 14 + ni) 0 v0) (p + 14 + ni) 1 v1) r T E s5) p 3 + nI 1))) (.inr ((addI P ni v0 v1 v2, np, ni + 1, nd), s5)) := by
            intro v2 s5
            rw [rd_o C.pr, z3, nI_add, rd_wI xr, rd_wI C.pr]
            refine ⟨_, Ft.a (f2.a t1) ⟨⟨by omega, by omega⟩, by omega, by omega⟩, rfl, ?_⟩
            have H3 := H2.wK (i := ni) (c := 2) (v := v2) n6 (by decide)
            refine H3.n3 n6 (fun c hc => ?_)
            match c, hc with
            | 0, _ => rw [zI_wj (by decide), zI_wj (by decide), zI_wa, up_n (by omega), up_n (by omega), up_a]
            | 1, _ => rw [zI_wj (by decide), zI_wa, up_n (by omega), up_a]
            | 2, _ => rw [zI_wa, up_a]
          rw [C2.tk (j := 2) (by decide) (by decide) a4]
          unfold pM
          by_cases c4 : isW T E s4 (wt 2) = true
          · rw [if_pos c4, if_pos c4]
            simp only [zbd_i, tl_s]
            rw [S_PTx_readInk_75 C2.sk C2.1.sk n6, if_neg (by decide), T_needN C2.1 (adv_le a4)]
            unfold pN
            by_cases c5 : isN T E (adv T E s4) (nI 0) (nI 9) = true
            · rw [if_pos c5, if_pos c5]
              simp only [zbd_i, tl_s]
              rw [S_PTx_readInk_85 C2.sk n6]
              exact out _ _
            · rw [if_neg c5, if_neg c5]
              simp only [zbd_e, evx_nil (n := 85) rfl]
              exact ⟨_, f2, rfl⟩
          · rw [if_neg c4, if_neg c4]
            simp only [zbd_i, tl_s]
            rw [S_PTx_readInk_75 C2.sk C2.1.sk n6, if_pos (by decide)]
            exact out _ _
        show PO g r T E p _ (pB (pM T E (wt 1) (nI 0) (nI 99) (nI 0) s3) _)
        unfold pM
        by_cases c3 : isW T E s3 (wt 1) = true
        · rw [if_pos c3, if_pos c3]
          simp only [zbd_i, tl_s]
          rw [S_PTx_readInk_51 C1.sk C1.1.sk n6, if_neg (by decide), T_needN C1.1 (adv_le a3)]
          unfold pN
          by_cases c4 : isN T E (adv T E s3) (nI 0) (nI 99) = true
          · rw [if_pos c4, if_pos c4]
            simp only [zbd_i, tl_s]
            rw [S_PTx_readInk_61 C1.sk C1.1.sk n6, rd_wI xr]
            exact fin _ _ (adv_le (adv_le a3))
          · rw [if_neg c4, if_neg c4]
            simp only [zbd_e, evx_nil (n := 85) rfl]
            exact ⟨_, Ft.w t1, rfl⟩
        · rw [if_neg c3, if_neg c3]
          simp only [zbd_i, tl_s]
          rw [S_PTx_readInk_51 C1.sk C1.1.sk n6, if_pos (by decide), rd_wI xr]
          exact fin _ _ a3
      · rw [if_neg c2, if_neg c2]
        simp only [zbd_e, evx_nil (n := 85) rfl]
        exact ⟨g, Ft.rf, rfl⟩
    · rw [if_neg c1, if_neg c1]
      simp only [zbd_e, evx_nil (n := 85) rfl]
      exact ⟨g, Ft.rf, rfl⟩
theorem T_cTell (C : CP z g r b Nb E T p) (H : PRp g p P np ni nd) (hs : s ≤ E) {hi : Int32} {F : Option Value → Hp → Option (zO × Hp)} {n pc : Nat} {lc : List Value} (hh : zhh n = []) {k a j : Nat} (ha : Tz p a) (hw : ∀ v, PRp (zwI g a j v) p (up P k v) np ni nd) (hF : ∀ v s', F (some (.int v)) (rdH g r T E s') = some (.inl none, zwI (rdH g r T E s') a j v)) : PO g r T E p (zbd (ev z d 97 0 [.ref r, .int (nI 0), .int hi, zu] [] (rdH g r T E s)) F (fun e h' => evx z d n pc lc e h')) (lTell T E (P, np, ni, nd) k hi s) := by
  rw [T_needN C.1 hs]
  unfold lTell pN
  by_cases c : isN T E s (nI 0) hi = true
  · rw [if_pos c, if_pos c]
    simp only [zbd_i]
    rw [hF, rd_wI (C.xr ha.1)]
    exact ⟨_, Ft.w ha, rfl, hw _⟩
  · rw [if_neg c, if_neg c]
    simp only [zbd_e, evx_nil (n := n) hh]
    exact ⟨g, Ft.rf, rfl⟩
end
