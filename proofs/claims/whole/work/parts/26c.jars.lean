/-! JARS: what is told of sheets, which pairs fit, by the class -/
def rdA (t f k : Int32) : Bool := decide (¬ t < f ∧ (k = 0 ∨ ¬ f + k ≤ t))
def fitS (T : Row) (f k : Int32) : Nat → Nat → Bool
  | 0, _ => true
  | m + 1, r => decide (rdA (T (2 * r)) f k = decide (T (2 * r + 1) = nI 1)) && fitS T f k m (r + 1)
def ftP (P T : Row) (n i w : Nat) : Bool := fitS T (nI (upS P i w)) (P (27 + 3 * i + 1)) n 0
def cfS (f : Nat → Bool) : Nat → Nat
  | 0 => 0
  | k + 1 => cfS f k + (if f k = true then 1 else 0)
def gdL (T : Row) : Nat → Nat → Bool
  | 0, _ => true
  | m + 1, k => decide (T k ≤ (if k % 2 = 0 then nI 60 else nI 1)) && gdL T m (k + 1)
def gdS (T : Row) (tl : Nat) : Bool := decide (tl % 2 = 0 ∧ tl ≤ 40) && gdL T tl 0
def fqS (P T : Row) (n q : Nat) : Bool := ftP P T n (q / 21) (q % 21)
def jiS (P T : Row) (n : Nat) : Nat → Int32
  | 0 => nI 0
  | i + 1 => if cfS (ftP P T n i) 21 = 0 then jiS P T n i else jiS P T n i ||| (nI 1 <<< (nI i &&& 31))
theorem fitS_u {T : Row} {f k : Int32} {m r : Nat} : fitS T f k (m + 1) r = (decide (rdA (T (2 * r)) f k = decide (T (2 * r + 1) = nI 1)) && fitS T f k m (r + 1)) := rfl
theorem gdL_u {T : Row} {m k : Nat} : gdL T (m + 1) k = (decide (T k ≤ (if k % 2 = 0 then nI 60 else nI 1)) && gdL T m (k + 1)) := rfl
theorem cfS_le {f : Nat → Bool} : ∀ n, cfS f n ≤ n
  | 0 => Nat.le_refl _
  | n + 1 => by
    have := cfS_le (f := f) n
    unfold cfS
    split <;> omega
theorem cfS_cg {f g : Nat → Bool} : ∀ n, (∀ k, k < n → f k = g k) → cfS f n = cfS g n
  | 0, _ => rfl
  | n + 1, h => by
    unfold cfS
    rw [cfS_cg n (fun k hk => h k (by omega)), h n (by omega)]
theorem cfS_add {f : Nat → Bool} {a : Nat} : ∀ b, cfS f (a + b) = cfS f a + cfS (fun x => f (a + x)) b
  | 0 => rfl
  | b + 1 => by
    show cfS f (a + b) + (if f (a + b) = true then 1 else 0) = cfS f a + (cfS (fun x => f (a + x)) b + (if f (a + b) = true then 1 else 0))
    rw [cfS_add b]
    omega
theorem fqS_c {P T : Row} {n i : Nat} {w : Nat} (hw : w ≤ 21) : cfS (fqS P T n) (21 * i + w) = cfS (fqS P T n) (21 * i) + cfS (ftP P T n i) w := by
  rw [cfS_add]
  congr 1
  refine cfS_cg w (fun x hx => ?_)
  unfold fqS
  rw [show (21 * i + x) / 21 = i by omega, show (21 * i + x) % 21 = x by omega]
section
variable {z : ZE} {d : Nat} {h h' g : Hp} {X R p J : Nat} {S S1 : PSt} {K : Option Img} {A : List PSt} {tl : Nat} {T : Row} {ft : Int32} {ls : List LN} {Lo : Option Nat} {P : Row} {np ni nd n : Nat} {u v w b x y : Int32}
theorem T_isReadAt : ev z d 11 0 [.int v, .int x, .int y] [] h = some (.inl (some (.int (bI (rdA v x y = true)))), h) := by
  rw [S_Jars_isReadAt_0]
  unfold rdA bI
  simp only [decide_eq_true_eq]
  by_cases c1 : v < x
  · rw [if_pos c1, if_neg (fun q => q.1 c1)]
  · rw [if_neg c1]
    by_cases c2 : y = 0
    · rw [if_pos c2, if_pos ⟨c1, Or.inl c2⟩]
    · rw [if_neg c2]
      by_cases c3 : x + y ≤ v
      · rw [if_pos c3, if_neg (fun q => q.2.elim c2 (fun q => q c3))]
      · rw [if_neg c3, if_pos ⟨c1, Or.inr c3⟩]
/-- the sheets hold rows -/
def JR (h : Hp) (J : Nat) (T : Row) (n : Nat) : Prop := JSk h J ∧ zI h J 1 = nI (2 * n) ∧ n ≤ 20 ∧ ∀ k, k < 2 * n → zI h (J + 1) k = T k
theorem T_fits_l (H : JR h J T n) : ∀ m r, r + m = n → ev z d 12 2 [.ref J, .int x, .int y, .int (nI (2 * r))] [] h = some (.inl (some (.int (bI (fitS T x y m r = true)))), h)
  | 0, r, hr => by
    obtain ⟨hJ, h1, h2, h3⟩ := H
    rw [S_Jars_fits_2 hJ, h1, nI_add, if_pos (nI_le (by omega) (by omega))]
    rfl
  | m + 1, r, hr => by
    have H0 := H
    obtain ⟨hJ, h1, h2, h3⟩ := H
    rw [S_Jars_fits_2 hJ, h1, nI_add, if_neg (nI_ge (by omega) (by omega)), ix_n (by omega) (by decide), h3 _ (by omega), T_isReadAt]
    simp only [zbd_i, tl_s]
    rw [S_Jars_fits_23 hJ, nI_add, ix_n (by omega) (by decide), h3 _ (by omega), nI_add, show 2 * r + 2 = 2 * (r + 1) by omega, T_fits_l H0 m (r + 1) (by omega), fitS_u]
    by_cases c1 : T (2 * r + 1) = nI 1
    · rw [if_pos c1]
      by_cases c2 : rdA (T (2 * r)) x y = true
      · rw [bI_t c2, if_pos rfl]
        have : decide (rdA (T (2 * r)) x y = decide (T (2 * r + 1) = nI 1)) = true := by simp [c1, c2]
        rw [this, Bool.true_and]
      · rw [bI_f c2, if_neg (by decide)]
        have : decide (rdA (T (2 * r)) x y = decide (T (2 * r + 1) = nI 1)) = false := by simp [c1, c2]
        rw [this, Bool.false_and]
        rfl
    · rw [if_neg c1]
      by_cases c2 : rdA (T (2 * r)) x y = true
      · rw [bI_t c2, if_neg (by decide)]
        have : decide (rdA (T (2 * r)) x y = decide (T (2 * r + 1) = nI 1)) = false := by simp [c1, c2]
        rw [this, Bool.false_and]
        rfl
      · rw [bI_f c2, if_pos rfl]
        have : decide (rdA (T (2 * r)) x y = decide (T (2 * r + 1) = nI 1)) = true := by simp [c1, c2]
        rw [this, Bool.true_and]
theorem T_fits (H : JR h J T n) : ev z d 12 0 [.ref J, .int x, .int y, zu] [] h = some (.inl (some (.int (bI (fitS T x y n 0 = true)))), h) := by
  rw [S_Jars_fits_0]
  exact T_fits_l H n 0 (by omega)
theorem T_fittingOf (hJ : JR h J T n) (hP : PSk h p) (H : PRp h p P np ni nd) (hO : OkI P ni) {i : Nat} (hi : i < ni) : ev z d 13 0 [.ref J, .ref p, .int (nI i), zu, zu] [] h = some (.inl (some (.int (nI (cfS (ftP P T n i) 21)))), h) := by
  have h6 := H.li
  rw [S_Jars_fittingOf_0]
  refine (lp (E := fun w => ev z d 13 5 [.ref J, .ref p, .int (nI i), .int (nI (cfS (ftP P T n i) w)), .int (nI w)] [] h) 21 ?_).trans ?_
  · intro w hw
    rw [S_Jars_fittingOf_5 hP, if_neg (nI_nlt (by omega) (by decide)), T_Port_showsAt hP H hO hi (by omega)]
    simp only [zbd_i, tl_s]
    rw [S_Jars_fittingOf_20 hJ.1 hP, ix_n (by omega) (by decide), H.ink hi (by decide), T_fits hJ]
    simp only [zbd_i, tl_s]
    rw [S_Jars_fittingOf_32, chk0, nI_add, nI_add]
    conv => rhs; unfold cfS
    by_cases c : ftP P T n i w = true
    · rw [if_pos (show fitS T (nI (upS P i w)) (P (27 + 3 * i + 1)) n 0 = true from c), if_pos c]
    · rw [if_neg (show ¬ fitS T (nI (upS P i w)) (P (27 + 3 * i + 1)) n 0 = true from c), if_neg c]
      rfl
  · rw [S_Jars_fittingOf_5 hP, if_pos (by decide)]
theorem T_fittingPairs (hJ : JR h J T n) (hP : PSk h p) (H : PRp h p P np ni nd) (hO : OkI P ni) : ev z d 14 0 [.ref J, .ref p, zu, zu] [] h = some (.inl (some (.int (nI (cfS (fqS P T n) (21 * ni))))), h) := by
  have h6 := H.li
  rw [S_Jars_fittingPairs_0]
  refine (lp (E := fun i => ev z d 14 4 [.ref J, .ref p, .int (nI (cfS (fqS P T n) (21 * i))), .int (nI i)] [] h) ni ?_).trans ?_
  · intro i hi
    rw [S_Jars_fittingPairs_4 hJ.1 hP, H.ci, if_neg (nI_ge hi (by omega)), T_fittingOf hJ hP H hO hi]
    simp only [zbd_i, tl_s]
    rw [S_Jars_fittingPairs_19, nI_add, nI_add, show 21 * (i + 1) = 21 * i + 21 by omega, fqS_c (Nat.le_refl _)]
  · rw [S_Jars_fittingPairs_4 hJ.1 hP, H.ci, if_pos (nI_le (Nat.le_refl _) (by omega))]
theorem T_fittingInks (hJ : JR h J T n) (hP : PSk h p) (H : PRp h p P np ni nd) (hO : OkI P ni) : ev z d 15 0 [.ref J, .ref p, zu, zu] [] h = some (.inl (some (.int (jiS P T n ni))), h) := by
  have h6 := H.li
  rw [S_Jars_fittingInks_0]
  refine (lp (E := fun i => ev z d 15 4 [.ref J, .ref p, .int (jiS P T n i), .int (nI i)] [] h) ni ?_).trans ?_
  · intro i hi
    have l := cfS_le (f := ftP P T n i) 21
    rw [S_Jars_fittingInks_4 hJ.1 hP, H.ci, if_neg (nI_ge hi (by omega)), T_fittingOf hJ hP H hO hi]
    simp only [zbd_i, tl_s]
    rw [S_Jars_fittingInks_18, nI_add]
    conv => rhs; unfold jiS
    by_cases c : cfS (ftP P T n i) 21 = 0
    · rw [c, if_pos (by decide), if_pos rfl]
    · rw [if_neg (show ¬ nI (cfS (ftP P T n i) 21) ≤ 0 from nI_ge (a := 0) (by omega) (by omega)), if_neg c]
  · rw [S_Jars_fittingInks_4 hJ.1 hP, H.ci, if_pos (nI_le (Nat.le_refl _) (by omega))]
/-- taking the bytes -/
theorem T_take_l {t N : Nat} (h1 : zK h t = 20) (h2 : zN h t = N) (hN : N < 2 ^ 31) (hJ : JSk h J) (ht : t ≠ J ∧ t ≠ J + 1) (hT : ∀ k, k < tl → zI h t k = T k) (l40 : tl ≤ 40) (lN : tl ≤ N) : ∀ m k g, k + m = tl → Fr (fun x => x = J ∨ x = J + 1) h g → (∀ j, j < k → zI g (J + 1) j = T j) → ∃ g', Fr (fun x => x = J ∨ x = J + 1) h g' ∧ (gdL T m k = true → zI g' J 1 = nI tl ∧ ∀ j, j < tl → zI g' (J + 1) j = T j) ∧ ev z d 10 22 [.ref J, .ref t, .int (nI tl), .int (nI k)] [] g = some (.inl (some (.int (bI (gdL T m k = true)))), g')
  | 0, k, g, hk, f, w => by
    refine ⟨zwI g J 1 (nI tl), f.a (Or.inl rfl), fun _ => ⟨zI_wa, fun j hj => (zI_wb (by omega)).trans (w j (by omega))⟩, ?_⟩
    rw [S_Jars_take_22 (JSk_fr f hJ) ((congrFun f.k t).trans h1) ((congrFun f.n t).trans h2), if_pos (nI_le (by omega) (by omega))]
    rfl
  | m + 1, k, g, hk, f, w => by
    have gt : zI g t k = T k := by rw [f.i (by omega)]; exact hT k (by omega)
    rw [S_Jars_take_22 (JSk_fr f hJ) ((congrFun f.k t).trans h1) ((congrFun f.n t).trans h2), if_neg (nI_ge (by omega) (by omega)), ix_n (by omega) hN, gt, ix_n (by omega) hN, ix_n (by omega) (by decide), gt, pk_rem (by omega) (by decide) (by decide), nI_add, gdL_u]
    have go : ∃ g', Fr (fun x => x = J ∨ x = J + 1) h g' ∧ (gdL T m (k + 1) = true → zI g' J 1 = nI tl ∧ ∀ j, j < tl → zI g' (J + 1) j = T j) ∧ ev z d 10 22 [.ref J, .ref t, .int (nI tl), .int (nI (k + 1))] [] (zwI g (J + 1) k (T k)) = some (.inl (some (.int (bI (gdL T m (k + 1) = true)))), g') := by
      refine T_take_l h1 h2 hN hJ ht hT l40 lN m (k + 1) _ (by omega) (f.a (Or.inr rfl)) (fun j hj => ?_)
      by_cases e : j = k
      · rw [e, zI_wa]
      · rw [zI_wj e]; exact w j (by omega)
    by_cases c : k % 2 = 0
    · rw [if_pos (show nI (k % 2) = 0 by rw [c]; rfl), if_pos c]
      by_cases c2 : T k ≤ nI 60
      · rw [if_pos c2]
        have : decide (T k ≤ nI 60) = true := by simp [c2]
        rw [this, Bool.true_and]
        exact go
      · rw [if_neg c2]
        have : decide (T k ≤ nI 60) = false := by simp [c2]
        rw [this, Bool.false_and]
        exact ⟨g, f, (fun q => by cases q), rfl⟩
    · rw [if_neg (show ¬ nI (k % 2) = 0 from nI_ne0 (by omega) (by omega)), if_neg c]
      by_cases c2 : T k ≤ nI 1
      · rw [if_pos c2]
        have : decide (T k ≤ nI 1) = true := by simp [c2]
        rw [this, Bool.true_and]
        exact go
      · rw [if_neg c2]
        have : decide (T k ≤ nI 1) = false := by simp [c2]
        rw [this, Bool.false_and]
        exact ⟨g, f, (fun q => by cases q), rfl⟩
theorem T_take {t N : Nat} (h1 : zK h t = 20) (h2 : zN h t = N) (hN : N < 2 ^ 31) (hJ : JSk h J) (ht : t ≠ J ∧ t ≠ J + 1) (hT : ∀ k, k < tl → zI h t k = T k) (lN : tl ≤ N) : ∃ g', Fr (fun x => x = J ∨ x = J + 1) h g' ∧ (gdS T tl = true → zI g' J 1 = nI tl ∧ tl % 2 = 0 ∧ tl ≤ 40 ∧ ∀ j, j < tl → zI g' (J + 1) j = T j) ∧ ev z d 10 0 [.ref J, .ref t, .int (nI tl), zu] [] h = some (.inl (some (.int (bI (gdS T tl = true)))), g') := by
  unfold gdS
  rw [S_Jars_take_0 h1 h2]
  by_cases c1 : tl ≤ 40
  · rw [if_neg (nI_nlt (by omega) (by omega)), if_neg (nI_nlt (by omega) (by omega)), pk_rem (by omega) (by decide) (by decide)]
    by_cases c2 : tl % 2 = 0
    · rw [if_pos (show nI (tl % 2) = 0 by rw [c2]; rfl)]
      have : decide (tl % 2 = 0 ∧ tl ≤ 40) = true := by simp [c1, c2]
      rw [this, Bool.true_and]
      obtain ⟨g', f', w', e'⟩ := T_take_l (z := z) (d := d) h1 h2 hN hJ ht hT c1 lN tl 0 h (by omega) Fr.rf (fun j hj => by omega)
      exact ⟨g', f', fun q => ⟨(w' q).1, c2, c1, (w' q).2⟩, e'⟩
    · rw [if_neg (show ¬ nI (tl % 2) = 0 from nI_ne0 (by omega) (by omega))]
      have : decide (tl % 2 = 0 ∧ tl ≤ 40) = false := by simp [c2]
      rw [this, Bool.false_and]
      exact ⟨h, Fr.rf, (fun q => by cases q), rfl⟩
  · rw [if_pos (nI_lt (by omega) (by omega))]
    have : decide (tl % 2 = 0 ∧ tl ≤ 40) = false := by simp [c1]
    rw [this, Bool.false_and]
    exact ⟨h, Fr.rf, (fun q => by cases q), rfl⟩
/-- the class reads the sheets -/
theorem C_readSheets (H : CI z h X S ls Lo K A tl T ft) : ∃ g', CI z g' X S ls Lo K A 0 T ft ∧ Fr (fun x => X ≤ x ∧ x < X + 433) h g' ∧ (gdS T tl = true → JR g' (X + 89) T (tl / 2)) ∧ ev z d 161 0 [.ref X, zu] [] h = if gdS T tl = true then some (.inl none, g') else some (.inr 0, znw g' 0 6) := by
  have H0 := H.cut (m := 0) (Nat.zero_le _)
  have t1 : ∀ k, k < tl → zI (zwI h X 1 (nI 0)) (X + 1) k = T k := fun k hk => (zI_wb (by omega)).trans (H.2.2.1.2.2 k hk)
  obtain ⟨g', f', w', e'⟩ := T_take (z := z) (d := d) (T := T) (tl := tl) (XSk_a0k H0.1.1) (XSk_a0n H0.1.1) (by decide) (XSk_J H0.1.1) ⟨by omega, by omega⟩ t1 H.2.2.1.2.1
  have fd : Fr (Dz X Lo) (zwI h X 1 (nI 0)) g' := f'.mo (fun x q => Or.inr (Or.inl (by omega)))
  have H1 := H0.dz fd
  refine ⟨g', H1, (Fr.w (A := fun x => X ≤ x ∧ x < X + 433) ⟨by omega, by omega⟩).tr (f'.mo (fun x q => by omega)), fun q => ?_, ?_⟩
  · obtain ⟨y1, y2, y3, y4⟩ := w' q
    exact ⟨XSk_J H1.1.1, by rw [y1]; congr 1; omega, by omega, fun k hk => y4 k (by omega)⟩
  · rw [S_LI_readSheets_0 H.1.1, H.2.2.1.1, e']
    simp only [zbd_i, tl_s]
    rw [S_LI_readSheets_22, chk0]
def jaV (P T : Row) (tl ni : Nat) (v : Int32) : Int32 := if v = 0 then nI (cfS (fqS P T (tl / 2)) (21 * ni)) else jiS P T (tl / 2) ni
theorem CA.tk {m k : Nat} {as : List Value} {es : List Nat} {en : Nat} (t : Tp h) (f : Fr (fun x => X ≤ x ∧ x < X + 433) h h') (H : CI z h' X S ls Lo K A tl T ft) (hx : es.getD k 9 = en) (e : ev z d m 0 as [] h = some (.inr en, znw h' 0 6)) : CA z d h X Lo m as es (k + 1) v ((S, ls, Lo), K, A, tl, T, ft) := ⟨_, by rw [e, ← hx]; rfl, ((Mv.fr (f.mo (fun x q => Or.inl q))).tr Mv.nw).mo (fun _ q => q) (by decide) (by decide), H.nw (t.fr f)⟩
theorem CA.fx {m : Nat} {as : List Value} {es : List Nat} (f : Fr (fun x => X ≤ x ∧ x < X + 433) h h') (H : CI z h' X S ls Lo K A tl T ft) (e : ev z d m 0 as [] h = some (.inl (some (.int v)), h')) : CA z d h X Lo m as es 0 v ((S, ls, Lo), K, A, tl, T, ft) := ⟨h', e, Mv.fx f, H⟩
theorem C_jars (t : Tp h) (H : CI z h X S ls Lo K A tl T ft) (ok : Ok S) : CA z d h X Lo 128 [.ref X, .int v] [0] (if gdS T tl = true then 0 else 1) (jaV S.1 T tl S.2.2.1 v) ((S, ls, Lo), K, A, 0, T, ft) := by
  obtain ⟨g', H1, f', J', e'⟩ := C_readSheets (z := z) (d := d) H
  by_cases c : gdS T tl = true
  · rw [if_pos c]
    rw [if_pos c] at e'
    have J := J' c
    refine CA.fx f' H1 ?_
    unfold jaV
    rw [S_LI_jars_0 H.1.1, e']
    simp only [zbd_i, tl_n]
    rw [S_LI_jars_4 H1.1.1]
    by_cases c2 : v = 0
    · rw [if_pos c2, if_pos c2, T_fittingPairs J H1.sk H1.rp ok.2.2.2.2.1]
      simp only [zbd_i, tl_s, S_LI_jars_33]
    · rw [if_neg c2, if_neg c2, T_fittingInks J H1.sk H1.rp ok.2.2.2.2.1]
      simp only [zbd_i, tl_s, S_LI_jars_19]
  · rw [if_neg c]
    rw [if_neg c] at e'
    refine CA.tk t f' H1 rfl ?_
    rw [S_LI_jars_0 H.1.1, e']
    simp only [zbd_e]
    exact evx_nil rfl
end
