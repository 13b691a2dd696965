/-! LINES AND THE TEXT OF A LAW as the reference reads them, its end -/
section
variable {z : ZE} {d : Nat} {h : Hp} {R E a s r : Nat} {T : Row} {F : Nat → Int32} {x y : Int32}
theorem T_M_ln_n (M : MT h R T E) (hf : zI h R 12 = -1) (hW : WA z h) (hF : FA h R F) (hr : zI h R 13 = nI 0) {k : Int32} (hk : k = nI 0 ∨ k = nI 1 ∨ k = nI 2) {w2 w3 : Value} {G : Nat → Hp → Option (zO × Hp)} (ha : a ≤ E) (hs : rn cS T E a = s) : LnR F h R T E x y (zbd (ev z (d + 7) 198 0 [.ref R, .int (nI 0), .int (nI 40), zu, zu] [] (aH (rcH h R x y) R a)) (fun v h' => ev z (d + 7) 220 63 [.ref R, .int k, w2, w3] (v.toList ++ []) h') G) (pB (pN T E (nI 0) (nI 40) s) (fun n => if isW T E n.2 (wt 29) = true then pB (smy T E (atm T E 6) (adv T E n.2)) (fun c => .inr ((k, n.1, c.1), c.2)) else .inr ((k, n.1, []), n.2))) := by
  have hE := M.e
  have M' : MT (rcH h R x y) R T E := MT_rc M
  have hf' : zI (rcH h R x y) R 12 = -1 := (rcj (by decide) (by decide)).trans hf
  have hW' : WA z (rcH h R x y) := WA_rc hW (RSk_K M.r)
  have hF' : FA (rcH h R x y) R F := FA_rc hF
  have hr' : zI (rcH h R x y) R 13 = nI (6 - 6) := (rcj (by decide) (by decide)).trans hr
  have := T_M_figures (z := z) (d := d + 7) (lo := nI 0) (hi := nI 40) M' hf' (by decide) ha hs
  revert this
  cases pN T E (nI 0) (nI 40) s with
  | inl e =>
    rintro ⟨v, a', g1, g2, g3⟩
    rw [g3]
    simp only [zbd_i, tl_s]
    rw [S_M_lawLine_63 (rfH M'.r), if_neg (fH_f (by omega))]
    exact ⟨a', by omega, g2, rfl⟩
  | inr n =>
    rintro ⟨a', g1, g2, g3⟩
    have hE1 : n.2 ≤ E := by rw [← g2]; exact rn_le g1
    have hs1 : rn cS T E n.2 = n.2 := by rw [← g2]; exact rn_rn
    rw [g3]
    simp only [zbd_i, tl_s]
    rw [S_M_lawLine_63 (MT_a M').r, if_pos ((aj (by decide)).trans hf'), T_M_has M' (hW' 29 (by decide)) (by decide) g1 g2]
    show LnR F h R T E x y _ (if isW T E n.2 (wt 29) = true then _ else _)
    by_cases c : isW T E n.2 (wt 29) = true
    · rw [if_pos c, if_pos c]
      simp only [zbd_i, tl_s]
      rw [S_M_lawLine_80 (MT_a M').r, if_neg (by decide)]
      have := T_M_some (z := z) (d := d) (a := tkN T E n.2) (s := adv T E n.2) (T_M_atom 6 (Nat.le_refl 6)) M' hf' hW' hF' hr' (tkN_le hE1) rfl
      revert this
      cases smy T E (atm T E 6) (adv T E n.2) with
      | inl e =>
        rintro ⟨u, b, k0, k1, k2, k3⟩
        rw [k3]
        simp only [zbd_i, tl_s]
        rw [S_M_lawLine_87 (rfH M'.r), if_neg (fH_f (by omega)), if_neg (fH_f (by omega)), ite_self]
        exact ⟨b, k1, k2, rfl⟩
      | inr q =>
        rintro ⟨u, b, k0, k1, k2, k3, k4⟩
        have ev1 : evv F q.1 = u := evv_e k4 (by decide)
        rw [k3]
        simp only [zbd_i, tl_s]
        rw [S_M_lawLine_87 (MT_a M').r, if_pos ((aj (by decide)).trans hf'), if_pos ((aj (by decide)).trans hf'), if_pos (show nI 0 = 0 from rfl), if_neg (show ¬ nI 1 = 0 by decide)]
        by_cases c2 : u = 0
        · rw [if_pos c2]
          have l0 := lnR_0 (F := F) (x := x) (y := y) (k := k) (n := n.1) (c := q.1) (ev1.trans c2)
          refine ⟨b, k1, k2, ?_⟩
          rw [l0.1, l0.2]
        · rw [if_neg c2, lnR_k hk (c := q.1) (by rw [ev1]; exact c2) rfl]
          exact ⟨b, k1, k2, rfl⟩
    · rw [if_neg c, if_neg c]
      simp only [zbd_i, tl_s]
      rw [S_M_lawLine_80 (MT_a M').r, if_pos (by decide), if_pos ((aj (by decide)).trans hf'), if_neg (show ¬ nI 1 = 0 by decide), lnR_k (F := F) hk (c := []) (by rw [evv_nil]; decide) rfl]
      exact ⟨n.2, hE1, hs1, rfl⟩
theorem T_M_lawLine (M : MT h R T E) (hf : zI h R 12 = -1) (hW : WA z h) (hF : FA h R F) (hr : zI h R 13 = nI 0) (ha : a ≤ E) (hs : rn cS T E a = s) : LnR F h R T E x y (ev z (d + 7) 220 0 [.ref R, zu, zu, zu] [] (aH (rcH h R x y) R a)) (lwL T E s) := by
  have hE := M.e
  have hsE : s ≤ E := by rw [← hs]; exact rn_le ha
  have hss : rn cS T E s = s := by rw [← hs]; exact rn_rn
  have M' : MT (rcH h R x y) R T E := MT_rc M
  have hf' : zI (rcH h R x y) R 12 = -1 := (rcj (by decide) (by decide)).trans hf
  have hW' : WA z (rcH h R x y) := WA_rc hW (RSk_K M.r)
  unfold lwL lwK
  rw [S_M_lawLine_0 (MT_a M').r, T_M_has M' (hW' 20 (by decide)) (by decide) ha hs]
  by_cases c1 : isW T E s (wt 20) = true
  · rw [if_pos c1, if_pos c1]
    simp only [zbd_i, tl_s]
    rw [S_M_lawLine_6 (MT_a M').r, if_neg (by decide), if_neg (by decide)]
    exact T_M_ln_n M hf hW hF hr (Or.inl rfl) (tkN_le hsE) rfl
  · rw [if_neg c1, if_neg c1]
    simp only [zbd_i, tl_s]
    rw [S_M_lawLine_6 (MT_a M').r, if_pos (by decide), T_M_has M' (hW' 27 (by decide)) (by decide) hsE hss]
    by_cases c2 : isW T E s (wt 27) = true
    · rw [if_pos c2, if_pos c2]
      simp only [zbd_i, tl_s]
      rw [S_M_lawLine_19 (MT_a M').r, if_neg (by decide), if_neg (by decide)]
      exact T_M_ln_n M hf hW hF hr (Or.inr (Or.inl rfl)) (tkN_le hsE) rfl
    · rw [if_neg c2, if_neg c2]
      simp only [zbd_i, tl_s]
      rw [S_M_lawLine_19 (MT_a M').r, if_pos (by decide), T_M_has M' (hW' 28 (by decide)) (by decide) hsE hss]
      by_cases c3 : isW T E s (wt 28) = true
      · rw [if_pos c3, if_pos c3]
        simp only [zbd_i, tl_s]
        rw [S_M_lawLine_33 (MT_a M').r, if_neg (by decide), if_neg (by decide)]
        exact T_M_ln_n M hf hW hF hr (Or.inr (Or.inr rfl)) (tkN_le hsE) rfl
      · have hx : ev z (d + 7) 196 0 [.ref R, .int (nI s)] [] (aH (rcH h R x y) R s) = some (.inl none, fH (rcH h R x y) R s s) := T_M_wrong (MT_a M').r ((aj (by decide)).trans hf')
        rw [if_neg c3, if_neg c3]
        simp only [zbd_i, tl_s]
        rw [S_M_lawLine_33 (MT_a M').r, if_pos (by decide), if_pos rfl, a11, hx]
        simp only [zbd_i, tl_n, S_M_lawLine_55]
        exact ⟨s, by omega, hsE, rfl⟩
/-- what a law's text gives, from a line on -/
def TxR (F : Nat → Int32) (h : Hp) (R E k : Nat) (x y : Int32) (o : Option (zO × Hp)) (w : Nat ⊕ List LN) : Prop := match w with
  | .inr ls => ∃ a, o = some (.inl (some (.int (nI (k + ls.length)))), aH (rcH h R (rpS F ls x) (cpS F ls y)) R a)
  | .inl e => ∃ v a x' y', e ≤ E ∧ o = some (.inl (some (.int v)), fH (rcH h R x' y') R a e)
theorem lwL_g {q : LN × Nat} (hs : s ≤ E) (hq : lwL T E s = .inr q) : q.2 ≤ E := by
  unfold lwL at hq
  obtain ⟨k, h1, h2⟩ := pB_inv hq
  obtain ⟨n, h3, h4⟩ := pB_inv h2
  have hk : k.2 ≤ E := by
    unfold lwK at h1
    repeat' split at h1
    all_goals first | (cases h1; exact adv_le hs) | cases h1
  have hn : n.2 ≤ E := by
    have := pN_g (T := T) (lo := nI 0) (hi := nI 40) hk
    rw [h3] at this
    exact this.2
  split at h4
  · obtain ⟨c, h5, h6⟩ := pB_inv h4
    have := smy_g (T := T) (fun s hs => atm_g (T := T) 6 s hs) (adv_le (T := T) hn)
    rw [h5] at this
    cases h6
    exact this.2.2
  · cases h4; exact hn
theorem T_M_readL (M : MT h R T E) (hf : zI h R 12 = -1) (hW : WA z h) (hF : FA h R F) (hr : zI h R 13 = nI 0) : ∀ n k, k + n = 12 → ∀ (x y : Int32) (a s : Nat), a ≤ E → rn cS T E a = s → TxR F h R E k x y (ev z (d + 7) 210 23 [.ref R, .int (nI 1), .int (nI 1), .int (nI k)] [] (aH (rcH h R x y) R a)) (lwR T E n s) := by
  have hE := M.e
  intro n
  induction n with
  | zero =>
    intro k hk x y a s ha hs
    obtain rfl : k = 12 := by omega
    have M' : MT (rcH h R x y) R T E := MT_rc M
    have hf' : zI (rcH h R x y) R 12 = -1 := (rcj (by decide) (by decide)).trans hf
    have hsE : s ≤ E := by rw [← hs]; exact rn_le ha
    have hss : rn cS T E s = s := by rw [← hs]; exact rn_rn
    have hx : ev z (d + 7) 196 0 [.ref R, .int (nI s)] [] (aH (rcH h R x y) R s) = some (.inl none, fH (rcH h R x y) R s s) := T_M_wrong (MT_a M').r ((aj (by decide)).trans hf')
    rw [S_M_read_23 (MT_a M').r, if_neg (by decide), if_pos ((aj (by decide)).trans hf'), T_M_sk M' (by omega), hs]
    simp only [zbd_i, tl_n]
    rw [S_M_read_39 (MT_a M').r, if_neg (by decide), if_pos rfl, a11, hx]
    simp only [zbd_i, tl_n]
    rw [S_M_read_62 (rfH M'.r), T_M_sk_f M' (by omega), hss]
    simp only [zbd_i, tl_n]
    rw [S_M_read_87 (rfH M'.r), if_neg (fH_f (by omega)), S_M_read_23 (rfH M'.r), if_pos (by decide)]
    exact ⟨_, s, x, y, hsE, rfl⟩
  | succ n ih =>
    intro k hk x y a s ha hs
    have M' : MT (rcH h R x y) R T E := MT_rc M
    have hf' : zI (rcH h R x y) R 12 = -1 := (rcj (by decide) (by decide)).trans hf
    have hsE : s ≤ E := by rw [← hs]; exact rn_le ha
    have hss : rn cS T E s = s := by rw [← hs]; exact rn_rn
    rw [S_M_read_23 (MT_a M').r, if_neg (by decide), if_pos ((aj (by decide)).trans hf'), T_M_sk M' (by omega), hs]
    simp only [zbd_i, tl_n]
    rw [S_M_read_39 (MT_a M').r, if_neg (by decide), if_neg (fun q => absurd ((nI_eq (by omega) (by decide)).mp q) (by omega)), if_neg (by decide)]
    have := T_M_lawLine (z := z) (d := d) (x := x) (y := y) M hf hW hF hr hsE hss
    have lg := fun (q : LN × Nat) => lwL_g (T := T) (q := q) hsE
    unfold lwR
    revert this lg
    cases lwL T E s with
    | inl e =>
      rintro ⟨a', g1, g2, g3⟩ -
      rw [g3]
      simp only [zbd_i, tl_n]
      rw [S_M_read_73 (rfH M'.r), T_M_sk_f M' (by omega)]
      simp only [zbd_i, tl_n]
      rw [S_M_read_87 (rfH M'.r), if_neg (fH_f (by omega)), S_M_read_23 (rfH M'.r), if_pos (by decide)]
      exact ⟨_, _, x, y, g2, rfl⟩
    | inr q =>
      obtain ⟨l, s'⟩ := q
      rintro ⟨a', g1, g2, g3⟩ lg
      dsimp only at g2 g3
      have hsE' : s' ≤ E := lg (l, s') rfl
      have hss' : rn cS T E s' = s' := by rw [← g2]; exact rn_rn
      generalize hx2 : rpS F [l] x = x2 at g3
      generalize hy2 : cpS F [l] y = y2 at g3
      have ex : ∀ ls, rpS F (l :: ls) x = rpS F ls x2 := fun ls => by rw [← hx2]; rfl
      have ey : ∀ ls, cpS F (l :: ls) y = cpS F ls y2 := fun ls => by rw [← hy2]; rfl
      have M2 : MT (rcH h R x2 y2) R T E := MT_rc M
      have hf2 : zI (rcH h R x2 y2) R 12 = -1 := (rcj (by decide) (by decide)).trans hf
      rw [g3]
      simp only [zbd_i, tl_n]
      rw [S_M_read_73 (MT_a M2).r, T_M_sk M2 (by omega), g2]
      simp only [zbd_i, tl_n]
      rw [S_M_read_87 (MT_a M2).r, if_pos ((aj (by decide)).trans hf2), a11, (MT_a M2).e10]
      show TxR F h R E k x y _ (if s' < E then _ else _)
      by_cases c1 : s' < E
      · rw [if_pos c1, if_neg (fun q => by have := (nI_eq (by omega) (by omega)).mp q; omega), T_M_isSign M2 (by omega), hss']
        simp only [zbd_i, tl_s]
        rw [S_M_read_117 (MT_a M2).r]
        simp only [bI_0]
        by_cases c2 : isS T E s' (nI 59) = true
        · have c3 := (isS_iff (by decide) (by decide)).mp c2
          rw [if_pos c2, if_neg (fun q => q c3), a11, nI_add, nI_add, show zwI (aH (rcH h R x2 y2) R s') R 11 (nI (s' + 1)) = aH (rcH h R x2 y2) R (s' + 1) from aa]
          have := ih (k + 1) (by omega) x2 y2 (s' + 1) _ (by omega) (adv_S c2)
          revert this
          cases lwR T E n (adv T E s') with
          | inl e =>
            rintro ⟨v, b, x', y', k1, k2⟩
            exact ⟨v, b, x', y', k1, k2⟩
          | inr ls =>
            rintro ⟨b, k1⟩
            refine ⟨b, ?_⟩
            rw [k1, ex, ey, List.length_cons, show k + 1 + ls.length = k + (ls.length + 1) by omega]
        · have c3 : ¬ (s' < E ∧ T s' = nI 59) := fun q => c2 ((isS_iff (by decide) (by decide)).mpr q)
          have hx : ev z (d + 7) 196 0 [.ref R, .int (nI s')] [] (aH (rcH h R x2 y2) R s') = some (.inl none, fH (rcH h R x2 y2) R s' s') := T_M_wrong (MT_a M2).r ((aj (by decide)).trans hf2)
          rw [if_neg c2, if_pos c3, a11, hx]
          simp only [zbd_i, tl_n]
          rw [S_M_read_141, S_M_read_23 (rfH M2.r), if_neg (by decide), if_neg (fH_f (by omega))]
          exact ⟨_, _, x2, y2, hsE', rfl⟩
      · rw [if_neg c1, if_pos (by congr 1; omega), S_M_read_23 (MT_a M2).r, if_pos (by decide)]
        refine ⟨s', ?_⟩
        rw [ex, ey, nI_add]
        rfl
theorem T_M_readT (M : MT h R T E) (hf : zI h R 12 = -1) (hW : WA z h) (hF : FA h R F) (hr : zI h R 13 = nI 0) : TxR F h R E 0 x y (ev z (d + 7) 210 0 [.ref R, .int (nI 1), zu, zu] [] (aH (rcH h R x y) R 0)) (lwT T E) := by
  have hE := M.e
  have M' : MT (rcH h R x y) R T E := MT_rc M
  rw [S_M_read_0 (MT_a M').r, T_M_sk M' (by omega)]
  simp only [zbd_i, tl_n]
  have hsE : rn cS T E 0 ≤ E := rn_le (by omega)
  rw [S_M_read_4 (MT_a M').r, (MT_a M').e10, a11]
  unfold lwT
  by_cases c : rn cS T E 0 < E
  · rw [if_neg (nI_ge c (by omega)), if_pos c]
    exact T_M_readL M hf hW hF hr 12 0 (by decide) x y _ _ hsE rn_rn
  · rw [if_pos (nI_le (by omega) (by omega)), if_neg c, S_M_read_23 (MT_a M').r, if_pos (by decide)]
    exact ⟨_, rfl⟩
end
