/-! TEXTS: numbers; what a reading gives -/
theorem rnF_in {p : Int32 → Bool} {T : Nat → Int32} {E : Nat} : ∀ f s k, s ≤ k → k < rnF p T E f s → k < E ∧ p (T k) = true
  | 0, s, k, h1, h2 => by unfold rnF at h2; omega
  | f + 1, s, k, h1, h2 => by
    unfold rnF at h2
    split at h2
    · rename_i c
      by_cases e : k = s
      · subst e; exact c
      · exact rnF_in f (s + 1) k (by omega) h2
    · omega
theorem rn_in {p : Int32 → Bool} {T : Nat → Int32} {E s k : Nat} (h1 : s ≤ k) (h2 : k < rn p T E s) : k < E ∧ p (T k) = true := rnF_in _ s k h1 h2
theorem cDL {x : Int32} (h : cD x = true) : ¬ cL x = true := by
  unfold cD at h
  unfold cL
  have h1 := of_decide_eq_true h
  intro q
  have h2 := of_decide_eq_true q
  have := Int32.le_trans h2.1 h1.2
  exact absurd this (by decide)
theorem tkK_2 {T : Nat → Int32} {E s : Nat} : tkK T E s = nI 2 ↔ s < E ∧ cD (T s) = true := by
  unfold tkK
  by_cases h1 : s < E
  · by_cases h2 : cD (T s) = true
    · rw [if_pos h1, if_neg (cDL h2), if_pos h2]; exact ⟨fun _ => ⟨h1, h2⟩, fun _ => rfl⟩
    · rw [if_pos h1, if_neg h2]
      refine ⟨fun e => absurd e ?_, fun c => absurd c.2 h2⟩
      split <;> decide
  · rw [if_neg h1]; exact ⟨fun e => absurd e (by decide), fun c => absurd c.1 h1⟩
def fH (h : Hp) (R a e : Nat) : Hp := zwI (aH h R a) R 12 (nI e)
/-- what is read: where it is wrong, or a number and the next place -/
def pB {α β : Type} (x : Nat ⊕ α) (f : α → Nat ⊕ β) : Nat ⊕ β := match x with
  | .inl e => .inl e
  | .inr a => f a
def pW (T : Nat → Int32) (E : Nat) (tx : List Nat) (s : Nat) : Nat ⊕ Nat := if isW T E s tx = true then .inr (adv T E s) else .inl s
def pN (T : Nat → Int32) (E : Nat) (lo hi : Int32) (s : Nat) : Nat ⊕ (Int32 × Nat) := if isN T E s lo hi = true then .inr (tkV T E s, adv T E s) else .inl s
def pA (T : Nat → Int32) (E : Nat) (tx : List Nat) (lo hi : Int32) (s : Nat) : Nat ⊕ (Int32 × Nat) := pB (pW T E tx s) (fun s => pN T E lo hi s)
def pM (T : Nat → Int32) (E : Nat) (tx : List Nat) (lo hi : Int32) (df : Int32) (s : Nat) : Nat ⊕ (Int32 × Nat) := if isW T E s tx = true then pN T E lo hi (adv T E s) else .inr (df, s)
def MR (h : Hp) (R : Nat) (T : Nat → Int32) (E : Nat) (o : Option (zO × Hp)) (x : Nat ⊕ (Int32 × Nat)) : Prop := match x with
  | .inr (v, s') => ∃ a, a ≤ E ∧ rn cS T E a = s' ∧ o = some (.inl (some (.int v)), aH h R a)
  | .inl e => ∃ v a, a ≤ E ∧ e ≤ E ∧ o = some (.inl (some (.int v)), fH h R a e)
section
variable {z : ZE} {d : Nat} {h : Hp} {R E a s w : Nat} {T : Nat → Int32} {tx : List Nat} {lo hi : Int32}
theorem T_M_fig_e (M : MT h R T E) (hf : zI h R 12 = -1) {j : Nat} {v : Int32} (hj : s + j ≤ E) : (if zI (aH h R (s + j)) R 11 = nI s then zbd (ev z d 196 0 [.ref R, .int (nI s)] [] (aH h R (s + j))) (fun v' h' => ev z d 198 124 [.ref R, .int lo, .int hi, .int (nI s), .int v] (v'.toList ++ []) h') (fun e h' => evx z d 198 121 [.ref R, .int lo, .int hi, .int (nI s), .int v] e h') else (if (nI 3) < ((zI (aH h R (s + j)) R 11) - nI s) then zbd (ev z d 196 0 [.ref R, .int (nI s)] [] (aH h R (s + j))) (fun v' h' => ev z d 198 124 [.ref R, .int lo, .int hi, .int (nI s), .int v] (v'.toList ++ []) h') (fun e h' => evx z d 198 121 [.ref R, .int lo, .int hi, .int (nI s), .int v] e h') else (if v < lo then zbd (ev z d 196 0 [.ref R, .int (nI s)] [] (aH h R (s + j))) (fun v' h' => ev z d 198 124 [.ref R, .int lo, .int hi, .int (nI s), .int v] (v'.toList ++ []) h') (fun e h' => evx z d 198 121 [.ref R, .int lo, .int hi, .int (nI s), .int v] e h') else (if v ≤ hi then some (.inl (some (.int v)), (aH h R (s + j))) else zbd (ev z d 196 0 [.ref R, .int (nI s)] [] (aH h R (s + j))) (fun v' h' => ev z d 198 124 [.ref R, .int lo, .int hi, .int (nI s), .int v] (v'.toList ++ []) h') (fun e h' => evx z d 198 121 [.ref R, .int lo, .int hi, .int (nI s), .int v] e h'))))) = if j ≠ 0 ∧ j ≤ 3 ∧ lo ≤ v ∧ v ≤ hi then some (.inl (some (.int v)), aH h R (s + j)) else some (.inl (some (.int v)), fH h R (s + j) s) := by
  have hE := M.e
  have hw : ev z d 196 0 [.ref R, .int (nI s)] [] (aH h R (s + j)) = some (.inl none, fH h R (s + j) s) := T_M_wrong (MT_a M).r ((aj (by decide)).trans hf)
  rw [hw]
  simp only [zbd_i, tl_n, S_M_figures_124]
  rw [a11]
  by_cases h0 : j = 0
  · subst h0
    rw [if_pos (by rw [Nat.add_zero]), if_neg (fun q => q.1 rfl)]
  · rw [if_neg (fun q => h0 (by have := (nI_eq (by omega) (by omega)).mp q; omega)), pk_sub (by omega), show s + j - s = j by omega]
    by_cases h3 : j ≤ 3
    · rw [if_neg (nI_nlt h3 (by omega))]
      by_cases h4 : v < lo
      · rw [if_pos h4, if_neg (fun q => Int32.not_le.mpr h4 q.2.2.1)]
      · rw [if_neg h4]
        by_cases h5 : v ≤ hi
        · rw [if_pos h5, if_pos ⟨h0, h3, Int32.not_lt.mp h4, h5⟩]
        · rw [if_neg h5, if_neg (fun q => h5 q.2.2.2)]
    · rw [if_pos (nI_lt (by omega) (by omega)), if_neg (fun q => h3 q.2.1)]
theorem T_M_fig_l (M : MT h R T E) (hf : zI h R 12 = -1) (hs : s ≤ E) {J : Nat} (hJ : J = min (rn cD T E s - s) 4) : ∀ n j, j + n = J → ev z d 198 18 [.ref R, .int lo, .int hi, .int (nI s), .int (vl T s j)] [] (aH h R (s + j)) = if J ≠ 0 ∧ J ≤ 3 ∧ lo ≤ vl T s J ∧ vl T s J ≤ hi then some (.inl (some (.int (vl T s J))), aH h R (s + J)) else some (.inl (some (.int (vl T s J))), fH h R (s + J) s) := by
  have hE := M.e
  have g1 : s ≤ rn cD T E s := rn_ge
  have g2 : rn cD T E s ≤ E := rn_le hs
  intro n
  induction n with
  | zero =>
    intro j hj
    obtain rfl : j = J := by omega
    rw [S_M_figures_18 (MT_a M).r, (MT_a M).e10]
    by_cases hq : nI E ≤ zI (aH h R (s + j)) R 11
    · rw [if_pos hq]
      exact T_M_fig_e M hf (by omega)
    · rw [if_neg hq]
      rw [a11] at hq ⊢
      have hlt : s + j < E := by
        rcases Nat.lt_or_ge (s + j) E with q | q
        · exact q
        · exact absurd (nI_le q (by omega)) hq
      rw [T_M_letter (MT_a M) hlt]
      simp only [zbd_i, tl_s, S_M_figures_37, T_M_isIn]
      rw [S_M_figures_44 (MT_a M).r]
      by_cases hc : cD (T (s + j)) = true
      · have h4 : j = 4 := by
          rcases Nat.lt_or_ge (s + j) (rn cD T E s) with q | q
          · omega
          · have e : rn cD T E s = s + j := by omega
            have := rn_stop (p := cD) (T := T) (E := E) (s := s)
            rw [e] at this
            exact absurd ⟨hlt, hc⟩ this
        have hc2 : isin (T (s + j)) (nI 48) (nI 57) := by unfold cD at hc; exact of_decide_eq_true hc
        have h3 : nI 3 < zI (aH h R (s + j)) R 11 - nI s := by rw [a11, pk_sub (by omega)]; exact nI_lt (by omega) (by omega)
        have e1 : (bI (isin (T (s + j)) (nI 48) (nI 57)) = 0) = ¬ isin (T (s + j)) (nI 48) (nI 57) := bI_0
        rw [if_neg (by rw [e1]; exact fun q => q hc2), if_pos h3]
        exact T_M_fig_e M hf (by omega)
      · have hc2 : ¬ isin (T (s + j)) (nI 48) (nI 57) := by unfold cD at hc; exact fun q => hc (decide_eq_true q)
        rw [if_pos (by rw [bI_0]; exact hc2)]
        exact T_M_fig_e M hf (by omega)
  | succ n ih =>
    intro j hj
    have hin := rn_in (p := cD) (T := T) (E := E) (s := s) (k := s + j) (by omega) (by omega)
    have hc2 : isin (T (s + j)) (nI 48) (nI 57) := by have := hin.2; unfold cD at this; exact of_decide_eq_true this
    rw [S_M_figures_18 (MT_a M).r, (MT_a M).e10, a11, if_neg (nI_ge hin.1 (by omega)), T_M_letter (MT_a M) hin.1]
    simp only [zbd_i, tl_s, S_M_figures_37, T_M_isIn]
    rw [S_M_figures_44 (MT_a M).r]
    have e1 : (bI (isin (T (s + j)) (nI 48) (nI 57)) = 0) = ¬ isin (T (s + j)) (nI 48) (nI 57) := bI_0
    have h3 : ¬ nI 3 < zI (aH h R (s + j)) R 11 - nI s := by rw [a11, pk_sub (by omega)]; exact nI_nlt (by omega) (by omega)
    rw [if_neg (by rw [e1]; exact fun q => q hc2), if_neg h3, a11, T_M_letter (MT_a M) hin.1]
    simp only [zbd_i, tl_s]
    rw [S_M_figures_70 (MT_a M).r, a11, nI_add]
    show ev z d 198 18 [.ref R, .int lo, .int hi, .int (nI s), .int (vl T s (j + 1))] [] (aH (aH h R (s + j)) R (s + j + 1)) = _
    rw [aa]
    exact ih (j + 1) (by omega)
theorem T_M_figures (M : MT h R T E) (hf : zI h R 12 = -1) (hlo : ¬ lo < 0) (ha : a ≤ E) (hs : rn cS T E a = s) : MR h R T E (ev z d 198 0 [.ref R, .int lo, .int hi, zu, zu] [] (aH h R a)) (pN T E lo hi s) := by
  have hE := M.e
  have hsE : s ≤ E := by rw [← hs]; exact rn_le ha
  have g1 : s ≤ rn cD T E s := rn_ge
  have g2 : rn cD T E s ≤ E := rn_le hsE
  have hq : ev z d 198 0 [.ref R, .int lo, .int hi, zu, zu] [] (aH h R a) = ev z d 198 18 [.ref R, .int lo, .int hi, .int (nI s), .int (vl T s 0)] [] (aH h R (s + 0)) := by
    rw [S_M_figures_0 (MT_a M).r, if_pos ((aj (by decide)).trans hf), T_M_here M (by omega), hs]
    simp only [zbd_i, tl_s, S_M_figures_14]
    rfl
  rw [hq, T_M_fig_l M hf hsE rfl _ 0 (Nat.zero_add _)]
  generalize hJ : min (rn cD T E s - s) 4 = J
  unfold pN
  by_cases hn : isN T E s lo hi = true
  · rw [if_pos hn]
    unfold isN at hn
    obtain ⟨k2, v1, v2⟩ := of_decide_eq_true hn
    have kk := tkK_2.mp k2
    have gt : s < rn cD T E s := by rw [rn_go kk.1 kk.2]; exact Nat.lt_of_lt_of_le (Nat.lt_succ_self s) rn_ge
    have ev1 : tkV T E s = vv T s (rn cD T E s - s) := by unfold tkV; rw [if_pos kk.1, if_neg (cDL kk.2), if_pos kk.2]
    have en : tkN T E s = rn cD T E s := by unfold tkN; rw [if_pos kk.1, if_neg (cDL kk.2), if_pos kk.2]
    by_cases h3 : rn cD T E s - s ≤ 3
    · have eJ : J = rn cD T E s - s := by omega
      have ev2 : tkV T E s = vl T s J := by rw [ev1, eJ]; unfold vv; rw [if_pos h3]
      rw [ev2] at v1 v2
      rw [if_pos ⟨by omega, by omega, v1, v2⟩]
      refine ⟨s + J, by omega, ?_, ?_⟩
      · rw [show s + J = tkN T E s by rw [en]; omega]; rfl
      · rw [ev2]
    · rw [ev1] at v1
      unfold vv at v1
      rw [if_neg h3] at v1
      exact absurd (Int32.lt_of_lt_of_le (show (-1 : Int32) < 0 by decide) (Int32.not_lt.mp hlo)) (Int32.not_lt.mpr v1)
  · rw [if_neg hn, if_neg]
    · exact ⟨_, s + J, by omega, hsE, rfl⟩
    · intro ⟨q0, q3, q4, q5⟩
      have hin := rn_in (p := cD) (T := T) (E := E) (s := s) (k := s) (Nat.le_refl s) (by omega)
      have ev1 : tkV T E s = vl T s J := by
        unfold tkV
        rw [if_pos hin.1, if_neg (cDL hin.2), if_pos hin.2]
        unfold vv
        rw [if_pos (by omega)]
        congr 1
        omega
      apply hn
      unfold isN
      refine decide_eq_true ⟨tkK_2.mpr hin, ?_, ?_⟩
      · rw [ev1]; exact q4
      · rw [ev1]; exact q5
theorem T_M_figures_f (hR : RSk h R) (hf : ¬ zI h R 12 = -1) : ev z d 198 0 [.ref R, .int lo, .int hi, zu, zu] [] h = some (.inl (some (.int (nI 0))), h) := by rw [S_M_figures_0 hR, if_neg hf]
theorem fH_12 {e : Nat} : zI (fH h R a e) R 12 = nI e := zI_wa
theorem fH_f {e : Nat} (he : e ≤ 400) : ¬ zI (fH h R a e) R 12 = -1 := by rw [fH_12]; exact nI_ne1 (by omega)
theorem fH_R {e : Nat} (hR : RSk h R) : RSk (fH h R a e) R := RSk_w (RSk_w hR)
theorem T_M_after (M : MT h R T E) (hf : zI h R 12 = -1) (W : WSk h w tx) (h0 : 0 < tx.length) (hlo : ¬ lo < 0) (ha : a ≤ E) (hs : rn cS T E a = s) : MR h R T E (ev z d 199 0 [.ref R, .ref w, .int lo, .int hi] [] (aH h R a)) (pA T E tx lo hi s) := by
  have hE := M.e
  have hsE : s ≤ E := by rw [← hs]; exact rn_le ha
  rw [S_M_after_0 (MT_a M).r, if_pos ((aj (by decide)).trans hf), T_M_has M W h0 ha hs]
  unfold pA pW
  by_cases hc : isW T E s tx = true
  · rw [if_pos hc, if_pos hc]
    simp only [zbd_i, tl_s]
    rw [S_M_after_13 (MT_a M).r, if_neg (by decide)]
    have := T_M_figures (z := z) (d := d) (lo := lo) (hi := hi) M hf hlo (tkN_le hsE) (show rn cS T E (tkN T E s) = adv T E s from rfl)
    show MR h R T E _ (pN T E lo hi (adv T E s))
    revert this
    cases pN T E lo hi (adv T E s) with
    | inl e =>
      rintro ⟨v, a', g1, g2, g3⟩
      rw [g3]
      simp only [zbd_i, tl_s, S_M_after_30]
      exact ⟨v, a', g1, g2, rfl⟩
    | inr q =>
      rintro ⟨a', g1, g2, g3⟩
      rw [g3]
      simp only [zbd_i, tl_s, S_M_after_30]
      exact ⟨a', g1, g2, rfl⟩
  · rw [if_neg hc, if_neg hc]
    simp only [zbd_i, tl_s]
    have hw : ev z d 196 0 [.ref R, .int (nI s)] [] (aH h R s) = some (.inl none, fH h R s s) := T_M_wrong (MT_a M).r ((aj (by decide)).trans hf)
    rw [S_M_after_13 (MT_a M).r, if_pos (by decide), a11, hw]
    simp only [zbd_i, tl_n]
    rw [S_M_after_24 (fH_R M.r), T_M_figures_f (fH_R M.r) (fH_f (by omega))]
    simp only [zbd_i, tl_s, S_M_after_30]
    exact ⟨_, s, hsE, hsE, rfl⟩
theorem T_M_after_f (hR : RSk h R) (hf : ¬ zI h R 12 = -1) : ev z d 199 0 [.ref R, .ref w, .int lo, .int hi] [] h = some (.inl (some (.int (nI 0))), h) := by
  rw [S_M_after_0 hR, if_neg hf, T_M_figures_f hR hf]
  simp only [zbd_i, tl_s, S_M_after_30]
theorem T_M_maybe (M : MT h R T E) (hf : zI h R 12 = -1) (W : WSk h w tx) (h0 : 0 < tx.length) (hlo : ¬ lo < 0) {df : Int32} (ha : a ≤ E) (hs : rn cS T E a = s) : MR h R T E (ev z d 201 0 [.ref R, .ref w, .int lo, .int hi, .int df] [] (aH h R a)) (pM T E tx lo hi df s) := by
  have hE := M.e
  have hsE : s ≤ E := by rw [← hs]; exact rn_le ha
  rw [S_M_maybe_0 (MT_a M).r, if_pos ((aj (by decide)).trans hf), T_M_has M W h0 ha hs]
  unfold pM
  by_cases hc : isW T E s tx = true
  · rw [if_pos hc, if_pos hc]
    simp only [zbd_i, tl_s]
    rw [S_M_maybe_13 (MT_a M).r, if_neg (by decide)]
    have := T_M_figures (z := z) (d := d) (lo := lo) (hi := hi) M hf hlo (tkN_le hsE) (show rn cS T E (tkN T E s) = adv T E s from rfl)
    revert this
    cases pN T E lo hi (adv T E s) with
    | inl e =>
      rintro ⟨v, a', g1, g2, g3⟩
      rw [g3]
      simp only [zbd_i, tl_s, S_M_maybe_22]
      exact ⟨v, a', g1, g2, rfl⟩
    | inr q =>
      rintro ⟨a', g1, g2, g3⟩
      rw [g3]
      simp only [zbd_i, tl_s, S_M_maybe_22]
      exact ⟨a', g1, g2, rfl⟩
  · rw [if_neg hc, if_neg hc]
    simp only [zbd_i, tl_s]
    rw [S_M_maybe_13 (MT_a M).r, if_pos (by decide)]
    exact ⟨s, hsE, by rw [← hs]; exact rn_rn, rfl⟩
theorem T_M_maybe_f (hR : RSk h R) (hf : ¬ zI h R 12 = -1) {df : Int32} : ev z d 201 0 [.ref R, .ref w, .int lo, .int hi, .int df] [] h = some (.inl (some (.int df)), h) := by rw [S_M_maybe_0 hR, if_neg hf]
theorem T_M_expects (M : MT h R T E) (hf : zI h R 12 = -1) (W : WSk h w tx) (h0 : 0 < tx.length) (ha : a ≤ E) (hs : rn cS T E a = s) : ev z d 203 0 [.ref R, .ref w, zu] [] (aH h R a) = if isW T E s tx = true then some (.inl (some (.int (nI 1))), aH h R (tkN T E s)) else some (.inl (some (.int (nI 0))), fH h R s s) := by
  rw [S_M_expects_0 (MT_a M).r, if_pos ((aj (by decide)).trans hf), T_M_has M W h0 ha hs]
  by_cases hc : isW T E s tx = true
  · rw [if_pos hc, if_pos hc]
    simp only [zbd_i, tl_s]
    rw [S_M_expects_15 (s0 := nI 1) (MT_a M).r zisL_r (Or.inr rfl), if_neg (by decide)]
  · rw [if_neg hc, if_neg hc]
    simp only [zbd_i, tl_s]
    have hw : ev z d 196 0 [.ref R, .int (nI s)] [] (aH h R s) = some (.inl none, fH h R s s) := T_M_wrong (MT_a M).r ((aj (by decide)).trans hf)
    rw [S_M_expects_15 (s0 := nI 0) (MT_a M).r zisL_r (Or.inl rfl), if_pos (by decide), a11, hw]
    simp only [zbd_i, tl_n]
    rw [S_M_expects_28 (v2 := nI 0) (Or.inl rfl)]
theorem T_M_expects_f (hR : RSk h R) (hf : ¬ zI h R 12 = -1) : ev z d 203 0 [.ref R, .ref w, zu] [] h = some (.inl (some (.int (nI 0))), h) := by rw [S_M_expects_0 hR, if_neg hf]
end
