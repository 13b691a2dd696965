/-! ATOMS, LINES AND THE TEXT OF A LAW as the reference reads them -/
section
variable {z : ZE} {d : Nat} {h : Hp} {R E a s r : Nat} {T : Row} {F : Nat → Int32} {v : Int32}
theorem d_a : zwI (aH h R a) R 13 v = aH (zwI h R 13 v) R a := zw_cm (Or.inr (by decide))
theorem d_f {e : Nat} : zwI (fH h R a e) R 13 v = fH (zwI h R 13 v) R a e := by
  unfold fH
  rw [zw_cm (Or.inr (by decide)), d_a]
theorem d_d {u : Int32} (hv : zI h R 13 = v) : zwI (zwI h R 13 u) R 13 v = h := by rw [zw_ww, zw_id hv]
theorem MT_d (M : MT h R T E) : MT (zwI h R 13 v) R T E := MT_w M (by decide) (by decide)
theorem not_v {u : Int32} (hu : u = 0 ∨ u = 1) : (nI 1 - u = 0 ∨ nI 1 - u = 1) ∧ ∀ {α : Type} (f : Int32 → α), (if u = 0 then f (nI 1) else f (nI 0)) = f (nI 1 - u) := by
  rcases hu with rfl | rfl
  · exact ⟨by decide, fun f => by rw [if_pos rfl]; rfl⟩
  · exact ⟨by decide, fun f => by rw [if_neg (by decide)]; rfl⟩
theorem T_M_atom : ∀ r, r ≤ 6 → AtR z F R T E r := by
  intro r
  induction r with
  | zero =>
    intro _ d h a s M hf hW hF hr ha hs
    have hE := M.e
    have hsE : s ≤ E := by rw [← hs]; exact rn_le ha
    have hss : rn cS T E s = s := by rw [← hs]; exact rn_rn
    have h13 : ∀ x, zI (aH h R x) R 13 = nI 6 := fun x => (aj (by decide)).trans hr
    have hx : ∀ x, ev z (d + 0 + 1) 196 0 [.ref R, .int (nI s)] [] (aH h R x) = some (.inl none, fH h R x s) := fun x => T_M_wrong (MT_a M).r ((aj (by decide)).trans hf)
    rw [S_M_atom_0 (MT_a M).r, if_pos ((aj (by decide)).trans hf), T_M_here M (by omega), hs]
    simp only [zbd_i, tl_s]
    rw [S_M_atom_14 (MT_a M).r, T_M_has M (hW 24 (by decide)) (by decide) hsE hss]
    unfold atm
    by_cases c1 : isW T E s (wt 24) = true
    · rw [if_pos c1, if_pos c1]
      simp only [zbd_i, tl_s]
      rw [S_M_atom_21 (MT_a M).r, if_neg (by decide), h13, if_pos rfl, hx]
      simp only [zbd_i, tl_n, S_M_atom_54]
      exact ⟨_, _, Or.inl rfl, tkN_le hsE, hsE, rfl⟩
    · rw [if_neg c1, if_neg c1]
      simp only [zbd_i, tl_s]
      rw [S_M_atom_21 (MT_a M).r, if_pos (by decide), T_M_isSign M (by omega), hss]
      simp only [zbd_i, tl_s]
      rw [S_M_atom_32 (MT_a M).r]
      by_cases c2 : isS T E s (nI 40) = true
      · have c3 := (isS_iff (by decide) (by decide)).mp c2
        rw [if_neg (by rw [bI_0]; exact fun x => x c3), h13, if_pos rfl, hx, if_pos c2]
        simp only [zbd_i, tl_n, S_M_atom_54]
        exact ⟨_, _, Or.inl rfl, hsE, hsE, rfl⟩
      · rw [if_pos (by rw [bI_0]; exact fun x => c2 ((isS_iff (by decide) (by decide)).mpr x)), if_neg c2]
        have := T_M_plain (z := z) (d := d + 0 + 1) M hf hW hF hsE hss
        revert this
        cases pln T E s with
        | inl e =>
          rintro ⟨u, a', g0, g1, g2, g3⟩
          rw [g3]
          simp only [zbd_i, tl_s, S_M_atom_39 g0]
          exact ⟨_, a', g0, g1, g2, rfl⟩
        | inr q =>
          rintro ⟨u, a', g0, g1, g2, g3, g4⟩
          rw [g3]
          simp only [zbd_i, tl_s, S_M_atom_39 g0]
          exact ⟨_, a', g0, g1, g2, rfl, g4⟩
  | succ r ih =>
    intro hr6 d h a s M hf hW hF hr ha hs
    have A := ih (by omega)
    have hE := M.e
    have hsE : s ≤ E := by rw [← hs]; exact rn_le ha
    have hss : rn cS T E s = s := by rw [← hs]; exact rn_rn
    have h13 : ∀ x, zI (aH h R x) R 13 = nI (6 - (r + 1)) := fun x => (aj (by decide)).trans hr
    have n6 : ¬ nI (6 - (r + 1)) = nI 6 := fun q => by have := (nI_eq (by omega) (by decide)).mp q; omega
    have e13 : nI (6 - (r + 1)) + nI 1 = nI (6 - r) := by rw [nI_add]; congr 1; omega
    have M' : MT (zwI h R 13 (nI (6 - r))) R T E := MT_d M
    have hf' : zI (zwI h R 13 (nI (6 - r))) R 12 = -1 := (zI_wj (by decide)).trans hf
    have hW' : WA z (zwI h R 13 (nI (6 - r))) := WA_w hW (RSk_K M.r)
    have hF' : FA (zwI h R 13 (nI (6 - r))) R F := FA_w hF (by decide) (by decide)
    have hr' : zI (zwI h R 13 (nI (6 - r))) R 13 = nI (6 - r) := zI_wa
    have b13 : ∀ x, zI (aH (zwI h R 13 (nI (6 - r))) R x) R 13 - nI 1 = nI (6 - (r + 1)) := fun x => by
      rw [show zI (aH (zwI h R 13 (nI (6 - r))) R x) R 13 = nI (6 - r) from (aj (by decide)).trans hr', pk_sub (by omega)]
      congr 1
    have f13 : ∀ x e, zI (fH (zwI h R 13 (nI (6 - r))) R x e) R 13 - nI 1 = nI (6 - (r + 1)) := fun x e => by
      rw [show zI (fH (zwI h R 13 (nI (6 - r))) R x e) R 13 = nI (6 - r) from (zI_wj (by decide)).trans ((aj (by decide)).trans hr'), pk_sub (by omega)]
      congr 1
    have o_a : ∀ x, zwI (aH (zwI h R 13 (nI (6 - r))) R x) R 13 (nI (6 - (r + 1))) = aH h R x := fun x => by rw [d_a, d_d hr]
    have o_f : ∀ x e, zwI (fH (zwI h R 13 (nI (6 - r))) R x e) R 13 (nI (6 - (r + 1))) = fH h R x e := fun x e => by rw [d_f, d_d hr]
    have f11 : ∀ x e, zI (fH (zwI h R 13 (nI (6 - r))) R x e) R 11 = nI x := fun x e => (zI_wj (by decide)).trans a11
    show BR F h R T E (r + 1) (4 + 2 * (r + 1)) [] (ev z (d + r + 1 + 1) 217 0 [.ref R, zu, zu, zu] [] (aH h R a)) _
    rw [S_M_atom_0 (MT_a M).r, if_pos ((aj (by decide)).trans hf), T_M_here M (by omega), hs]
    simp only [zbd_i, tl_s]
    rw [S_M_atom_14 (MT_a M).r, T_M_has M (hW 24 (by decide)) (by decide) hsE hss]
    unfold atm
    by_cases c1 : isW T E s (wt 24) = true
    · rw [if_pos c1, if_pos c1]
      simp only [zbd_i, tl_s]
      rw [S_M_atom_21 (MT_a M).r, if_neg (by decide), h13, if_neg n6, if_neg (by decide), e13, d_a]
      have := A d _ (tkN T E s) (adv T E s) M' hf' hW' hF' hr' (tkN_le hsE) rfl
      revert this
      cases atm T E r (adv T E s) with
      | inl e =>
        rintro ⟨u, a', g0, g1, g2, g3⟩
        rw [g3]
        simp only [zbd_i, tl_s]
        rw [S_M_atom_76 (rfH M'.r) zisL_i, f13, o_f, (not_v g0).2 (fun x => some ((.inl (some (.int x)) : zO), fH h R a' e))]
        exact ⟨_, a', (not_v g0).1, by omega, g2, rfl⟩
      | inr q =>
        rintro ⟨u, a', g0, g1, g2, g3, g4⟩
        rw [g3]
        simp only [zbd_i, tl_s]
        rw [S_M_atom_76 (MT_a M').r zisL_i, b13, o_a, (not_v g0).2 (fun x => some ((.inl (some (.int x)) : zO), aH h R a'))]
        exact ⟨_, a', (not_v g0).1, g1, g2, rfl, (Evl.nt g4 (by omega)).mo (by omega)⟩
    · rw [if_neg c1, if_neg c1]
      simp only [zbd_i, tl_s]
      rw [S_M_atom_21 (MT_a M).r, if_pos (by decide), T_M_isSign M (by omega), hss]
      simp only [zbd_i, tl_s]
      rw [S_M_atom_32 (MT_a M).r]
      by_cases c2 : isS T E s (nI 40) = true
      · have c3 := (isS_iff (by decide) (by decide)).mp c2
        rw [if_neg (by rw [bI_0]; exact fun x => x c3), h13, if_neg n6, if_pos (by decide), if_pos c2, e13, a11, nI_add, d_a, show zwI (aH (zwI h R 13 (nI (6 - r))) R s) R 11 (nI (s + 1)) = aH (zwI h R 13 (nI (6 - r))) R (s + 1) from aa]
        have := T_M_some (d := d) (a := s + 1) A M' hf' hW' hF' hr' (by omega) (adv_S c2)
        revert this
        cases smy T E (atm T E r) (adv T E s) with
        | inl e =>
          rintro ⟨u, a', g0, g1, g2, g3⟩
          rw [g3]
          simp only [zbd_i, tl_s]
          rw [S_M_atom_102 (rfH M'.r) zisL_i g0, if_neg (fH_f (by omega)), f11, f13, nI_add, fa, o_f]
          exact ⟨_, a' + 1, g0, by omega, g2, rfl⟩
        | inr q =>
          rintro ⟨u, a', g0, g1, g2, g3, g4⟩
          have hE1 : q.2 ≤ E := by rw [← g2]; exact rn_le g1
          rw [g3]
          simp only [zbd_i, tl_s]
          rw [S_M_atom_102 (MT_a M').r zisL_i g0, if_pos ((aj (by decide)).trans hf'), T_M_isSign M' (by omega), g2]
          simp only [zbd_i, tl_s]
          rw [S_M_atom_117 (MT_a M').r g0]
          show BR F h R T E (r + 1) (4 + 2 * (r + 1)) [] _ (if isS T E q.2 (nI 41) = true then _ else _)
          by_cases c4 : isS T E q.2 (nI 41) = true
          · have c5 := (isS_iff (by decide) (by decide)).mp c4
            rw [if_neg (by rw [bI_0]; exact fun x => x c5), if_pos c4, b13, a11, nI_add, show zwI (aH (zwI h R 13 (nI (6 - r))) R q.2) R 11 (nI (q.2 + 1)) = aH (zwI h R 13 (nI (6 - r))) R (q.2 + 1) from aa, o_a]
            exact ⟨_, q.2 + 1, g0, by omega, adv_S c4, rfl, Evl.mo g4 (by omega)⟩
          · have hx : ev z (d + r + 1 + 1) 196 0 [.ref R, .int (nI q.2)] [] (aH (zwI h R 13 (nI (6 - r))) R q.2) = some (.inl none, fH (zwI h R 13 (nI (6 - r))) R q.2 q.2) := T_M_wrong (MT_a M').r ((aj (by decide)).trans hf')
            rw [if_pos (by rw [bI_0]; exact fun x => c4 ((isS_iff (by decide) (by decide)).mpr x)), if_neg c4, a11, hx]
            simp only [zbd_i, tl_n]
            rw [S_M_atom_128 (rfH M'.r) g0, f13, f11, nI_add, fa, o_f]
            exact ⟨_, q.2 + 1, g0, by omega, hE1, rfl⟩
      · rw [if_pos (by rw [bI_0]; exact fun x => c2 ((isS_iff (by decide) (by decide)).mpr x)), if_neg c2]
        have := T_M_plain (z := z) (d := d + r + 1 + 1) M hf hW hF hsE hss
        revert this
        cases pln T E s with
        | inl e =>
          rintro ⟨u, a', g0, g1, g2, g3⟩
          rw [g3]
          simp only [zbd_i, tl_s, S_M_atom_39 g0]
          exact ⟨_, a', g0, by omega, g2, rfl⟩
        | inr q =>
          rintro ⟨u, a', g0, g1, g2, g3, g4⟩
          rw [g3]
          simp only [zbd_i, tl_s, S_M_atom_39 g0]
          exact ⟨_, a', g0, g1, g2, rfl, Evl.mo g4 (by omega)⟩
end
/-! lines -/
abbrev LN : Type := Int32 × Int32 × List Int32
def lwK (T : Row) (E s : Nat) : Nat ⊕ (Int32 × Nat) := if isW T E s (wt 20) = true then .inr (nI 0, adv T E s) else if isW T E s (wt 27) = true then .inr (nI 1, adv T E s) else if isW T E s (wt 28) = true then .inr (nI 2, adv T E s) else .inl s
def lwL (T : Row) (E s : Nat) : Nat ⊕ (LN × Nat) := pB (lwK T E s) (fun k => pB (pN T E (nI 0) (nI 40) k.2) (fun n => if isW T E n.2 (wt 29) = true then pB (smy T E (atm T E 6) (adv T E n.2)) (fun c => .inr ((k.1, n.1, c.1), c.2)) else .inr ((k.1, n.1, []), n.2)))
def lwR (T : Row) (E : Nat) : Nat → Nat → Nat ⊕ List LN
  | 0, s => .inl s
  | n + 1, s => pB (lwL T E s) (fun q => if q.2 < E then (if isS T E q.2 (nI 59) = true then pB (lwR T E n (adv T E q.2)) (fun ls => .inr (q.1 :: ls)) else .inl q.2) else .inr [q.1])
def lwT (T : Row) (E : Nat) : Nat ⊕ List LN := if rn cS T E 0 < E then lwR T E 12 (rn cS T E 0) else .inr []
/-- whether a line's condition holds -/
def evv (F : Nat → Int32) (cs : List Int32) : Int32 := match xs F cs [] with
  | some (v :: _) => v
  | _ => nI 1
theorem evv_nil {F : Nat → Int32} : evv F [] = nI 1 := rfl
theorem evv_e {F : Nat → Int32} {cs : List Int32} {v : Int32} {m : Nat} (h : Evl F cs v m) (hm : m ≤ 40) : evv F cs = v := by
  have := h [] (by simp; omega) []
  rw [List.append_nil] at this
  unfold evv
  rw [this]
  rfl
def rpk (k n : Int32) : Int32 := if k = nI 0 then n else if k = nI 1 then -n else nI 0
def cpk (k n : Int32) : Int32 := if k = nI 2 then n else nI 0
def rpS (F : Nat → Int32) : List LN → Int32 → Int32
  | [], x => x
  | l :: ls, x => rpS F ls (if evv F l.2.2 = 0 then x else x + rpk l.1 l.2.1)
def cpS (F : Nat → Int32) : List LN → Int32 → Int32
  | [], x => x
  | l :: ls, x => cpS F ls (if evv F l.2.2 = 0 then x else x + cpk l.1 l.2.1)
def rcH (h : Hp) (R : Nat) (x y : Int32) : Hp := zwI (zwI h R 17 x) R 18 y
def LnR (F : Nat → Int32) (h : Hp) (R : Nat) (T : Row) (E : Nat) (x y : Int32) (o : Option (zO × Hp)) (w : Nat ⊕ (LN × Nat)) : Prop := match w with
  | .inr q => ∃ a, a ≤ E ∧ rn cS T E a = q.2 ∧ o = some (.inl none, aH (rcH h R (rpS F [q.1] x) (cpS F [q.1] y)) R a)
  | .inl e => ∃ a, a ≤ E + 6 ∧ e ≤ E ∧ o = some (.inl none, fH (rcH h R x y) R a e)
section
variable {z : ZE} {d : Nat} {h : Hp} {R E a s r : Nat} {T : Row} {F : Nat → Int32} {x y : Int32}
theorem rc_rc {u v : Int32} : zwI (zwI (aH (rcH h R x y) R a) R 17 u) R 18 v = aH (rcH h R u v) R a := by
  unfold aH rcH
  rw [zw_cm (a := R) (b := R) (i := 11) (j := 17) (Or.inr (by decide)), zw_cm (a := R) (b := R) (i := 18) (j := 17) (Or.inr (by decide)), zw_ww, zw_cm (a := R) (b := R) (i := 11) (j := 18) (Or.inr (by decide)), zw_ww]
theorem rc17 : zI (aH (rcH h R x y) R a) R 17 = x := (aj (by decide)).trans ((zI_wj (by decide)).trans zI_wa)
theorem rc18 : zI (aH (rcH h R x y) R a) R 18 = y := (aj (by decide)).trans zI_wa
theorem rcj {j : Nat} (h1 : j ≠ 17) (h2 : j ≠ 18) {b : Nat} : zI (rcH h R x y) b j = zI h b j := (zI_wj h2).trans (zI_wj h1)
theorem MT_rc (M : MT h R T E) : MT (rcH h R x y) R T E := MT_w (MT_w M (by decide) (by decide)) (by decide) (by decide)
theorem FA_rc (hF : FA h R F) : FA (rcH h R x y) R F := FA_w (FA_w hF (by decide) (by decide)) (by decide) (by decide)
theorem WA_rc (hW : WA z h) (hk : zK h R = 11) : WA z (rcH h R x y) := WA_w (WA_w hW hk) hk
theorem lnR_k {k n : Int32} (hk : k = nI 0 ∨ k = nI 1 ∨ k = nI 2) {c : List Int32} {g : Hp} (hc : ¬ evv F c = 0) (hg : g = aH (rcH h R x y) R a) : (if k = 0 then (if k = nI 2 then some ((.inl none : zO), zwI (zwI g R 17 (zI g R 17 + n)) R 18 (zI g R 18 + n)) else some (.inl none, zwI (zwI g R 17 (zI g R 17 + n)) R 18 (zI g R 18 + nI 0))) else (if k = nI 1 then (if k = nI 2 then some (.inl none, zwI (zwI g R 17 (zI g R 17 + (-n))) R 18 (zI g R 18 + n)) else some (.inl none, zwI (zwI g R 17 (zI g R 17 + (-n))) R 18 (zI g R 18 + nI 0))) else (if k = nI 2 then some (.inl none, zwI (zwI g R 17 (zI g R 17 + nI 0)) R 18 (zI g R 18 + n)) else some (.inl none, zwI (zwI g R 17 (zI g R 17 + nI 0)) R 18 (zI g R 18 + nI 0))))) = some (.inl none, aH (rcH h R (rpS F [(k, n, c)] x) (cpS F [(k, n, c)] y)) R a) := by
  subst hg
  unfold rpS cpS rpS cpS
  rw [if_neg hc, if_neg hc, rc17, rc18]
  unfold rpk cpk
  dsimp only
  rcases hk with rfl | rfl | rfl
  · rw [if_pos (by decide), if_neg (by decide), if_pos rfl, if_neg (by decide), rc_rc]
  · rw [if_neg (by decide), if_pos rfl, if_neg (by decide), if_neg (by decide), if_pos rfl, if_neg (by decide), rc_rc]
  · rw [if_neg (by decide), if_neg (by decide), if_pos rfl, if_neg (by decide), if_neg (by decide), if_pos rfl, rc_rc]
theorem lnR_0 {k n : Int32} {c : List Int32} (hc : evv F c = 0) : rpS F [(k, n, c)] x = x ∧ cpS F [(k, n, c)] y = y := by
  unfold rpS cpS rpS cpS
  rw [if_pos hc, if_pos hc]
  exact ⟨rfl, rfl⟩
end
