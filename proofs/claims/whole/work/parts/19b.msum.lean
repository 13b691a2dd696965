/-! THE LAW'S TEXT as the reference reads it -/
def FA (h : Hp) (R : Nat) (F : Nat → Int32) : Prop := (∀ k, k < 7 → zI h (R + 6) k = F k) ∧ (zI h R 15 = F 7 ∧ zI h R 16 = F 8) ∧ (F 7 = 0 ∨ F 7 = 1) ∧ (F 8 = 0 ∨ F 8 = 1)
/-- a value read, or where it is wrong -/
def SR (F : Nat → Int32) (h : Hp) (R : Nat) (T : Row) (E m : Nat) (pre : List Int32) (o : Option (zO × Hp)) (x : CR) : Prop := match x with
  | .inr q => ∃ v a, a ≤ E ∧ rn cS T E a = q.2 ∧ o = some (.inl (some (.int v)), aH h R a) ∧ Evl F (pre ++ q.1) v m
  | .inl e => ∃ v a, a ≤ E ∧ e ≤ E ∧ o = some (.inl (some (.int v)), fH h R a e)
def BR (F : Nat → Int32) (h : Hp) (R : Nat) (T : Row) (E B m : Nat) (pre : List Int32) (o : Option (zO × Hp)) (x : CR) : Prop := match x with
  | .inr q => ∃ v a, (v = 0 ∨ v = 1) ∧ a ≤ E ∧ rn cS T E a = q.2 ∧ o = some (.inl (some (.int v)), aH h R a) ∧ Evl F (pre ++ q.1) v m
  | .inl e => ∃ v a, (v = 0 ∨ v = 1) ∧ a ≤ E + B ∧ e ≤ E ∧ o = some (.inl (some (.int v)), fH h R a e)
theorem tkN_S {T : Row} {E s : Nat} {c : Int32} (h : isS T E s c = true) : tkN T E s = s + 1 := by
  have h1 := isS_lt h
  unfold isS at h
  have h2 := (of_decide_eq_true h).1
  unfold tkN
  rw [if_pos h1]
  by_cases c1 : cL (T s) = true
  · rw [tkK_1.mpr ⟨h1, c1⟩] at h2
    exact absurd h2 (by decide)
  · rw [if_neg c1]
    by_cases c2 : cD (T s) = true
    · rw [tkK_2.mpr ⟨h1, c2⟩] at h2
      exact absurd h2 (by decide)
    · rw [if_neg c2]
theorem adv_S {T : Row} {E s : Nat} {c : Int32} (h : isS T E s c = true) : rn cS T E (s + 1) = adv T E s := by unfold adv; rw [tkN_S h]
theorem pPt_pc {T : Row} {E s : Nat} {q : Int32 × Nat} (h : pPt T E s = .inr q) : isPc q.1 := by
  unfold pPt at h
  split at h
  · obtain ⟨k, -, hk, e⟩ := pN_ok h (by decide) (by decide)
    rw [e]
    exact Or.inl (nI_pos (by omega))
  · split at h
    · rename_i k hk
      have e := Sum.inr.inj h
      rw [← e]
      refine Or.inr ⟨k, ?_, rfl⟩
      unfold fW at hk
      repeat' split at hk
      all_goals first | (cases hk; decide) | cases hk
    · cases h
section
variable {z : ZE} {d : Nat} {h : Hp} {R E a s : Nat} {T : Row} {F : Nat → Int32}
theorem FA_w {j : Nat} {v : Int32} (H : FA h R F) (h1 : j ≠ 15) (h2 : j ≠ 16) : FA (zwI h R j v) R F := ⟨fun k hk => (zI_wb (by omega)).trans (H.1 k hk), ⟨(zI_wj (Ne.symm h1)).trans H.2.1.1, (zI_wj (Ne.symm h2)).trans H.2.1.2⟩, H.2.2⟩
theorem WA_w {j : Nat} {v : Int32} (hW : WA z h) (hk : zK h R = 11) : WA z (zwI h R j v) := fun q hq => WSk_w (hW q hq) hk
theorem rfH {e : Nat} (hR : RSk h R) : RSk (fH h R a e) R := hR
theorem T_M_factw (M : MT h R T E) (hf : zI h R 12 = -1) (hW : WA z h) (hF : FA h R F) (hsE : s ≤ E) (hss : rn cS T E s = s) {w1 : Value} {G : Nat → Hp → Option (zO × Hp)} : MR h R T E (zbd (ev z d 195 0 [.ref R, .ref (z.1 15), zu, zu] [] (aH h R s)) (fun v h' => ev z d 214 58 [.ref R, w1] (v.toList ++ []) h') G) (match fW T E s with
    | some k => .inr (F k, adv T E s)
    | none => .inl s) := by
  have hE := M.e
  have hi : ∀ k, k < 7 → ∀ x, zI (aH h R x) (R + 6) k = F k := fun k hk x => (zI_wb (by omega)).trans (hF.1 k hk)
  unfold fW
  rw [T_M_has M (hW 15 (by decide)) (by decide) hsE hss]
  by_cases c0 : isW T E s (wt 15) = true
  · rw [if_pos c0, if_pos c0]
    simp only [zbd_i, tl_s]
    rw [S_M_part_58 (MT_a M).r, if_neg (by decide), if_neg (by decide), hi 0 (by decide)]
    exact ⟨_, tkN_le hsE, rfl, rfl⟩
  rw [if_neg c0, if_neg c0]
  simp only [zbd_i, tl_s]
  rw [S_M_part_58 (MT_a M).r, if_pos (by decide)]
  rw [T_M_has M (hW 3 (by decide)) (by decide) hsE hss]
  by_cases c1 : isW T E s (wt 3) = true
  · rw [if_pos c1, if_pos c1]
    simp only [zbd_i, tl_s]
    rw [S_M_part_71 (MT_a M).r, if_neg (by decide), if_neg (by decide), hi 1 (by decide)]
    exact ⟨_, tkN_le hsE, rfl, rfl⟩
  rw [if_neg c1, if_neg c1]
  simp only [zbd_i, tl_s]
  rw [S_M_part_71 (MT_a M).r, if_pos (by decide)]
  rw [T_M_has M (hW 6 (by decide)) (by decide) hsE hss]
  by_cases c2 : isW T E s (wt 6) = true
  · rw [if_pos c2, if_pos c2]
    simp only [zbd_i, tl_s]
    rw [S_M_part_84 (MT_a M).r, if_neg (by decide), if_neg (by decide), hi 2 (by decide)]
    exact ⟨_, tkN_le hsE, rfl, rfl⟩
  rw [if_neg c2, if_neg c2]
  simp only [zbd_i, tl_s]
  rw [S_M_part_84 (MT_a M).r, if_pos (by decide)]
  rw [T_M_has M (hW 20 (by decide)) (by decide) hsE hss]
  by_cases c3 : isW T E s (wt 20) = true
  · rw [if_pos c3, if_pos c3]
    simp only [zbd_i, tl_s]
    rw [S_M_part_97 (MT_a M).r, if_neg (by decide), if_neg (by decide), hi 3 (by decide)]
    exact ⟨_, tkN_le hsE, rfl, rfl⟩
  rw [if_neg c3, if_neg c3]
  simp only [zbd_i, tl_s]
  rw [S_M_part_97 (MT_a M).r, if_pos (by decide)]
  rw [T_M_has M (hW 21 (by decide)) (by decide) hsE hss]
  by_cases c4 : isW T E s (wt 21) = true
  · rw [if_pos c4, if_pos c4]
    simp only [zbd_i, tl_s]
    rw [S_M_part_110 (MT_a M).r, if_neg (by decide), if_neg (by decide), hi 4 (by decide)]
    exact ⟨_, tkN_le hsE, rfl, rfl⟩
  rw [if_neg c4, if_neg c4]
  simp only [zbd_i, tl_s]
  rw [S_M_part_110 (MT_a M).r, if_pos (by decide)]
  rw [T_M_has M (hW 16 (by decide)) (by decide) hsE hss]
  by_cases c5 : isW T E s (wt 16) = true
  · rw [if_pos c5, if_pos c5]
    simp only [zbd_i, tl_s]
    rw [S_M_part_123 (MT_a M).r, if_neg (by decide), if_neg (by decide), hi 5 (by decide)]
    exact ⟨_, tkN_le hsE, rfl, rfl⟩
  rw [if_neg c5, if_neg c5]
  simp only [zbd_i, tl_s]
  rw [S_M_part_123 (MT_a M).r, if_pos (by decide)]
  rw [T_M_has M (hW 17 (by decide)) (by decide) hsE hss]
  by_cases c6 : isW T E s (wt 17) = true
  · rw [if_pos c6, if_pos c6]
    simp only [zbd_i, tl_s]
    rw [S_M_part_136 (MT_a M).r, if_neg (by decide), if_neg (by decide), hi 6 (by decide)]
    exact ⟨_, tkN_le hsE, rfl, rfl⟩
  rw [if_neg c6, if_neg c6]
  simp only [zbd_i, tl_s]
  have hx : ev z d 196 0 [.ref R, .int (nI s)] [] (aH h R s) = some (.inl none, fH h R s s) := T_M_wrong (MT_a M).r ((aj (by decide)).trans hf)
  rw [S_M_part_136 (MT_a M).r, if_pos (by decide), if_pos rfl, a11, hx]
  simp only [zbd_i, tl_n, S_M_part_159]
  exact ⟨_, s, hsE, hsE, rfl⟩
theorem T_M_part (M : MT h R T E) (hf : zI h R 12 = -1) (hW : WA z h) (hF : FA h R F) (ha : a ≤ E) (hs : rn cS T E a = s) : MR h R T E (ev z d 214 0 [.ref R, zu] [] (aH h R a)) (pB (pPt T E s) (fun q => .inr (vc F q.1, q.2))) := by
  have hE := M.e
  have hsE : s ≤ E := by rw [← hs]; exact rn_le ha
  have hss : rn cS T E s = s := by rw [← hs]; exact rn_rn
  rw [S_M_part_0 (MT_a M).r, if_pos ((aj (by decide)).trans hf), T_M_sk M (by omega), hs]
  simp only [zbd_i, tl_n]
  rw [S_M_part_14 (MT_a M).r, (MT_a M).e10, a11]
  have fin : ∀ {w1 : Value} {G : Nat → Hp → Option (zO × Hp)}, ¬ tkK T E s = nI 2 → MR h R T E (zbd (ev z d 195 0 [.ref R, .ref (z.1 15), zu, zu] [] (aH h R s)) (fun v h' => ev z d 214 58 [.ref R, w1] (v.toList ++ []) h') G) (pB (pPt T E s) (fun q => .inr (vc F q.1, q.2))) := by
    intro w1 G hk
    have t := T_M_factw (d := d) M hf hW hF hsE hss (w1 := w1) (G := G)
    unfold pPt
    rw [if_neg hk]
    have k9 : ∀ k, fW T E s = some k → k < 9 := by
      intro k hk
      unfold fW at hk
      repeat' split at hk
      all_goals first | (cases hk; decide) | cases hk
    revert t k9
    cases fW T E s with
    | none => exact fun t _ => t
    | some k =>
      intro t k9
      show MR h R T E _ (.inr (vc F ((-1) - nI k), adv T E s))
      rw [vc_k (k9 k rfl)]
      exact t
  by_cases h1 : s < E
  · rw [if_neg (nI_ge h1 (by omega)), T_M_letter (MT_a M) h1]
    simp only [zbd_i, tl_s, S_M_part_33, T_M_isIn]
    rw [S_M_part_40 (MT_a M).r]
    simp only [bI_0]
    by_cases hc : cD (T s) = true
    · have hc2 : isin (T s) (nI 48) (nI 57) := by unfold cD at hc; exact of_decide_eq_true hc
      have hk : tkK T E s = nI 2 := tkK_2.mpr ⟨h1, hc⟩
      rw [if_neg (fun q => q hc2)]
      have := T_M_figures (z := z) (d := d) (lo := nI 0) (hi := nI 999) M hf (by decide) hsE hss
      unfold pPt
      rw [if_pos hk]
      have ok := fun (q : Int32 × Nat) => pN_ok (T := T) (E := E) (s := s) (l := 0) (m := 999) (q := q)
      revert this ok
      cases pN T E (nI 0) (nI 999) s with
      | inl e =>
        rintro ⟨v, a', g1, g2, g3⟩ -
        rw [g3]
        simp only [zbd_i, tl_s, S_M_part_51]
        exact ⟨v, a', g1, g2, rfl⟩
      | inr q =>
        rintro ⟨a', g1, g2, g3⟩ ok
        obtain ⟨k, -, hk, ek⟩ := ok q rfl (by decide) (by decide)
        rw [g3]
        simp only [zbd_i, tl_s, S_M_part_51]
        refine ⟨a', g1, g2, ?_⟩
        unfold vc
        rw [ek, if_neg (nI_pos (by omega))]
    · have hc2 : ¬ isin (T s) (nI 48) (nI 57) := by unfold cD at hc; exact fun q => hc (decide_eq_true q)
      rw [if_pos hc2]
      exact fin (fun q => hc (tkK_2.mp q).2)
  · rw [if_pos (nI_le (by omega) (by omega))]
    exact fin (fun q => h1 (tkK_2.mp q).1)
theorem T_M_sum_l (M : MT h R T E) (hf : zI h R 12 = -1) (hW : WA z h) (hF : FA h R F) : ∀ f s a v pre, E - s ≤ f → a ≤ E → rn cS T E a = s → Evl F pre v 3 → SR F h R T E 3 pre (ev z d 215 5 [.ref R, .int v] [] (aH h R a)) (sumL T E f s) := by
  have hE := M.e
  intro f
  induction f with
  | zero =>
    intro s a v pre hn ha hs hp
    have hsE : s ≤ E := by rw [← hs]; exact rn_le ha
    have hss : rn cS T E s = s := by rw [← hs]; exact rn_rn
    rw [S_M_sum_5 (MT_a M).r, if_pos ((aj (by decide)).trans hf), T_M_isSign M (by omega), hs]
    simp only [zbd_i, tl_s]
    rw [S_M_sum_19 (MT_a M).r]
    simp only [bI_0]
    rw [if_pos (fun q => by omega)]
    exact ⟨v, s, hsE, hss, rfl, by rw [List.append_nil]; exact hp⟩
  | succ f ih =>
    intro s a v pre hn ha hs hp
    have hsE : s ≤ E := by rw [← hs]; exact rn_le ha
    have hss : rn cS T E s = s := by rw [← hs]; exact rn_rn
    rw [S_M_sum_5 (MT_a M).r, if_pos ((aj (by decide)).trans hf), T_M_isSign M (by omega), hs]
    simp only [zbd_i, tl_s]
    rw [S_M_sum_19 (MT_a M).r]
    simp only [bI_0]
    unfold sumL
    by_cases c : isS T E s (nI 43) = true
    · have c3 := (isS_iff (by decide) (by decide)).mp c
      rw [if_neg (fun q => q c3), if_pos c, a11, nI_add]
      have := T_M_part (z := z) (d := d) (a := s + 1) M hf hW hF (by have := isS_lt c; omega) (adv_S c)
      have pg := pPt_g (T := T) (adv_le (T := T) hsE)
      have gt := adv_gt (T := T) (isS_lt c)
      have pc := fun (q : Int32 × Nat) => pPt_pc (T := T) (E := E) (s := adv T E s) (q := q)
      rw [show zwI (aH h R s) R 11 (nI (s + 1)) = aH h R (s + 1) from aa]
      revert this pg pc
      cases pPt T E (adv T E s) with
      | inl e =>
        rintro ⟨w, a', g1, g2, g3⟩ - -
        rw [g3]
        simp only [zbd_i, tl_s, S_M_sum_37]
        rw [S_M_sum_5 (rfH M.r), if_neg (fH_f (by omega))]
        exact ⟨_, a', g1, g2, rfl⟩
      | inr q =>
        rintro ⟨a', g1, g2, g3⟩ pg pc
        have pg' : adv T E s < q.2 ∧ q.2 ≤ E := pg
        rw [g3]
        simp only [zbd_i, tl_s, S_M_sum_37]
        have hp2 : Evl F (pre ++ ([q.1] ++ [-11])) (v + vc F q.1) 3 := hp.bin ((Evl.pc (pc q rfl)).mo (show 1 ≤ 2 by decide)) (by decide) (by decide) (Or.inl rfl)
        have := ih q.2 a' (v + vc F q.1) _ (by omega) g1 g2 hp2
        show SR F h R T E 3 pre _ (pB (sumL T E f q.2) _)
        revert this
        cases sumL T E f q.2 with
        | inl e => exact fun t => t
        | inr r =>
          rintro ⟨w, a2, k1, k2, k3, k4⟩
          refine ⟨w, a2, k1, k2, k3, ?_⟩
          rw [List.append_assoc] at k4
          exact k4
    · rw [if_pos (fun q => c ((isS_iff (by decide) (by decide)).mpr q)), if_neg c]
      exact ⟨v, s, hsE, hss, rfl, by rw [List.append_nil]; exact hp⟩
theorem T_M_sum (M : MT h R T E) (hf : zI h R 12 = -1) (hW : WA z h) (hF : FA h R F) (ha : a ≤ E) (hs : rn cS T E a = s) : SR F h R T E 3 [] (ev z d 215 0 [.ref R, zu] [] (aH h R a)) (pSm T E s) := by
  have hE := M.e
  have hsE : s ≤ E := by rw [← hs]; exact rn_le ha
  rw [S_M_sum_0 (MT_a M).r]
  have := T_M_part (z := z) (d := d) M hf hW hF ha hs
  have pg := pPt_g (T := T) hsE
  have pc := fun (q : Int32 × Nat) => pPt_pc (T := T) (E := E) (s := s) (q := q)
  unfold pSm
  revert this pg pc
  cases pPt T E s with
  | inl e =>
    rintro ⟨w, a', g1, g2, g3⟩ - -
    rw [g3]
    simp only [zbd_i, tl_s, S_M_sum_4]
    rw [S_M_sum_5 (rfH M.r), if_neg (fH_f (by omega))]
    exact ⟨_, a', g1, g2, rfl⟩
  | inr q =>
    rintro ⟨a', g1, g2, g3⟩ pg pc
    rw [g3]
    simp only [zbd_i, tl_s, S_M_sum_4]
    have := T_M_sum_l (z := z) (d := d) M hf hW hF E q.2 a' _ [q.1] (by omega) g1 g2 ((Evl.pc (pc q rfl)).mo (show 1 ≤ 3 by decide))
    show SR F h R T E 3 [] _ (pB (sumL T E E q.2) _)
    revert this
    cases sumL T E E q.2 with
    | inl e => exact fun t => t
    | inr r =>
      rintro ⟨w, a2, k1, k2, k3, k4⟩
      exact ⟨w, a2, k1, k2, k3, k4⟩
end
