/-! CONDITIONS as the reference reads them -/
section
variable {z : ZE} {d : Nat} {h : Hp} {R E a s : Nat} {T : Row} {F : Nat → Int32}
theorem e8 : (-8 : Int32) = (-1) - nI 7 := by decide
theorem e9 : (-9 : Int32) = (-1) - nI 8 := by decide
theorem isPc_k {k : Nat} (hk : k < 9) : isPc ((-1) - nI k) := Or.inr ⟨k, hk, rfl⟩
theorem lt_bI {x y : Int32} {α : Type} {f : Int32 → α} : (if y ≤ x then f (nI 0) else f (nI 1)) = f (bI (x < y)) := by
  unfold bI
  by_cases c : y ≤ x
  · rw [if_pos c, if_neg (Int32.not_lt.mpr c)]
  · rw [if_neg c, if_pos (Int32.not_le.mp c)]
theorem T_M_plain_c (M : MT h R T E) (hf : zI h R 12 = -1) (hW : WA z h) (hF : FA h R F) {s1 : Nat} {op v1 : Int32} {c1 : List Int32} {v2 : Int32} {w3 : Value} {G : Nat → Hp → Option (zO × Hp)} (ho : (op = -12 ∧ ¬ v2 = 0) ∨ (op = -13 ∧ v2 = 0)) (h1 : Evl F c1 v1 3) (hs1 : s1 < E) {cc : Int32} (hsg : isS T E s1 cc = true) : BR F h R T E 0 4 [] (zbd (ev z d 215 0 [.ref R, zu] [] (aH h R (s1 + 1))) (fun v h' => ev z d 216 87 [.ref R, .int v1, .int v2, w3] (v.toList ++ []) h') G) (pB (pSm T E (adv T E s1)) (fun r => .inr (c1 ++ (r.1 ++ [op]), r.2))) := by
  have hE := M.e
  have := T_M_sum (z := z) (d := d) (a := s1 + 1) M hf hW hF (by omega) (adv_S hsg)
  revert this
  have q : ∀ (x : Int32) (g : Hp), (if v2 = 0 then (if v1 ≤ x then some ((.inl (some (.int (nI 0))) : zO), g) else some (.inl (some (.int (nI 1))), g)) else (if x ≤ v1 then some (.inl (some (.int (nI 0))), g) else some (.inl (some (.int (nI 1))), g))) = some (.inl (some (.int (jn op v1 x))), g) := by
    intro x g
    rcases ho with ⟨rfl, hv⟩ | ⟨rfl, hv⟩
    · rw [if_neg hv]
      exact lt_bI (f := fun i => some ((.inl (some (.int i)) : zO), g))
    · rw [if_pos hv]
      exact lt_bI (f := fun i => some ((.inl (some (.int i)) : zO), g))
  have jb : ∀ x, jn op v1 x = 0 ∨ jn op v1 x = 1 := by
    intro x
    rcases ho with ⟨rfl, hv⟩ | ⟨rfl, hv⟩
    · exact bI_01
    · exact bI_01
  cases pSm T E (adv T E s1) with
  | inl e =>
    rintro ⟨w, a', g1, g2, g3⟩
    rw [g3]
    simp only [zbd_i, tl_s, S_M_plain_87]
    rw [q]
    exact ⟨_, a', jb w, g1, g2, rfl⟩
  | inr r =>
    rintro ⟨w, a', g1, g2, g3, g4⟩
    rw [g3]
    simp only [zbd_i, tl_s, S_M_plain_87]
    rw [q]
    refine ⟨_, a', jb w, g1, g2, rfl, ?_⟩
    exact (h1.mo (by decide)).bin g4 (by decide) (by decide) (by rcases ho with ⟨rfl, -⟩ | ⟨rfl, -⟩ <;> decide)
theorem T_M_plain (M : MT h R T E) (hf : zI h R 12 = -1) (hW : WA z h) (hF : FA h R F) (ha : a ≤ E) (hs : rn cS T E a = s) : BR F h R T E 0 4 [] (ev z d 216 0 [.ref R, zu, zu, zu] [] (aH h R a)) (pln T E s) := by
  have hE := M.e
  have hsE : s ≤ E := by rw [← hs]; exact rn_le ha
  have hss : rn cS T E s = s := by rw [← hs]; exact rn_rn
  have b15 : ∀ x, zI (aH h R x) R 15 = F 7 := fun x => (aj (by decide)).trans hF.2.1.1
  have b16 : ∀ x, zI (aH h R x) R 16 = F 8 := fun x => (aj (by decide)).trans hF.2.1.2
  rw [S_M_plain_0 (MT_a M).r, T_M_has M (hW 22 (by decide)) (by decide) ha hs]
  unfold pln
  by_cases c1 : isW T E s (wt 22) = true
  · rw [if_pos c1, if_pos c1]
    simp only [zbd_i, tl_s]
    rw [S_M_plain_6 (MT_a M).r (by rw [b15]; exact hF.2.2.1), if_neg (by decide), b15]
    refine ⟨_, _, hF.2.2.1, tkN_le hsE, rfl, rfl, ?_⟩
    have := (Evl.pc (F := F) (isPc_k (show 7 < 9 by decide))).mo (show 1 ≤ 4 by decide)
    rw [vc_k (by decide), ← e8] at this
    exact this
  · rw [if_neg c1, if_neg c1]
    simp only [zbd_i, tl_s]
    rw [S_M_plain_6 (MT_a M).r (by rw [b15]; exact hF.2.2.1), if_pos (by decide), T_M_has M (hW 23 (by decide)) (by decide) hsE hss]
    by_cases c2 : isW T E s (wt 23) = true
    · rw [if_pos c2, if_pos c2]
      simp only [zbd_i, tl_s]
      rw [S_M_plain_20 (MT_a M).r (by rw [b16]; exact hF.2.2.2), if_neg (by decide), b16]
      refine ⟨_, _, hF.2.2.2, tkN_le hsE, rfl, rfl, ?_⟩
      have := (Evl.pc (F := F) (isPc_k (show 8 < 9 by decide))).mo (show 1 ≤ 4 by decide)
      rw [vc_k (by decide), ← e9] at this
      exact this
    · rw [if_neg c2, if_neg c2]
      simp only [zbd_i, tl_s]
      rw [S_M_plain_20 (MT_a M).r (by rw [b16]; exact hF.2.2.2), if_pos (by decide)]
      have := T_M_sum (z := z) (d := d) M hf hW hF hsE hss
      revert this
      cases pSm T E s with
      | inl e =>
        rintro ⟨w, a', g1, g2, g3⟩
        rw [g3]
        simp only [zbd_i, tl_s]
        rw [S_M_plain_32 (rfH M.r), if_neg (fH_f (by omega))]
        exact ⟨_, a', Or.inl rfl, g1, g2, rfl⟩
      | inr q =>
        rintro ⟨v1, a1, g1, g2, g3, g4⟩
        have hE1 : q.2 ≤ E := by rw [← g2]; exact rn_le g1
        have hs1 : rn cS T E q.2 = q.2 := by rw [← g2]; exact rn_rn
        rw [g3]
        simp only [zbd_i, tl_s]
        rw [S_M_plain_32 (MT_a M).r, if_pos ((aj (by decide)).trans hf), T_M_isSign M (by omega), g2]
        simp only [zbd_i, tl_s]
        rw [S_M_plain_49 (MT_a M).r]
        show BR F h R T E 0 4 [] _ (if isS T E q.2 (nI 60) = true then _ else _)
        by_cases c3 : isS T E q.2 (nI 60) = true
        · have c4 := (isS_iff (by decide) (by decide)).mp c3
          have c5 : bI (q.2 < E ∧ T q.2 = nI 60) = nI 1 := bI_t c4
          rw [c5, if_neg (by decide), if_pos c3, a11, nI_add, show zwI (aH h R q.2) R 11 (nI (q.2 + 1)) = aH h R (q.2 + 1) from aa]
          exact T_M_plain_c M hf hW hF (Or.inl ⟨rfl, by decide⟩) g4 c4.1 c3
        · have c5 : bI (q.2 < E ∧ T q.2 = nI 60) = nI 0 := bI_f (fun x => c3 ((isS_iff (by decide) (by decide)).mpr x))
          rw [c5, if_pos (by decide), if_neg c3, T_M_isSign M (by omega), hs1]
          simp only [zbd_i, tl_s]
          rw [S_M_plain_60 (MT_a M).r]
          by_cases c6 : isS T E q.2 (nI 62) = true
          · have c7 := (isS_iff (by decide) (by decide)).mp c6
            rw [if_neg (by rw [bI_0]; exact fun x => x c7), if_pos c6, a11, nI_add, show zwI (aH h R q.2) R 11 (nI (q.2 + 1)) = aH h R (q.2 + 1) from aa]
            exact T_M_plain_c M hf hW hF (Or.inr ⟨rfl, rfl⟩) g4 c7.1 c6
          · have hx : ev z d 196 0 [.ref R, .int (nI q.2)] [] (aH h R q.2) = some (.inl none, fH h R q.2 q.2) := T_M_wrong (MT_a M).r ((aj (by decide)).trans hf)
            rw [if_pos (by rw [bI_0]; exact fun x => c6 ((isS_iff (by decide) (by decide)).mpr x)), if_neg c6, a11, hx]
            simp only [zbd_i, tl_n, S_M_plain_71]
            exact ⟨_, q.2, Or.inl rfl, hE1, hE1, rfl⟩
end
/-- an atom of so much depth left, by the reference -/
def AtR (z : ZE) (F : Nat → Int32) (R : Nat) (T : Row) (E r : Nat) : Prop := ∀ (d : Nat) (h : Hp) (a s : Nat), MT h R T E → zI h R 12 = -1 → WA z h → FA h R F → zI h R 13 = nI (6 - r) → a ≤ E → rn cS T E a = s → BR F h R T E r (4 + 2 * r) [] (ev z (d + r + 1) 217 0 [.ref R, zu, zu, zu] [] (aH h R a)) (atm T E r s)
section
variable {z : ZE} {d : Nat} {h : Hp} {R E a s r : Nat} {T : Row} {F : Nat → Int32}
theorem and_v {v u : Int32} (hv : v = 0 ∨ v = 1) (hu : u = 0 ∨ u = 1) : (v &&& u = 0 ∨ v &&& u = 1) ∧ ∀ {α : Type} (f : Int32 → α), (if v = 0 then f (nI 0) else if u = 0 then f (nI 0) else f (nI 1)) = f (v &&& u) := by
  rcases hv with rfl | rfl <;> rcases hu with rfl | rfl
  · exact ⟨by decide, fun f => by rw [if_pos rfl]; rfl⟩
  · exact ⟨by decide, fun f => by rw [if_pos rfl]; rfl⟩
  · exact ⟨by decide, fun f => by rw [if_neg (by decide), if_pos rfl]; rfl⟩
  · exact ⟨by decide, fun f => by rw [if_neg (by decide), if_neg (by decide)]; rfl⟩
theorem or_v {v u : Int32} (hv : v = 0 ∨ v = 1) (hu : u = 0 ∨ u = 1) : (v ||| u = 0 ∨ v ||| u = 1) ∧ ∀ {α : Type} (f : Int32 → α), (if v = 0 then (if u = 0 then f (nI 0) else f (nI 1)) else f (nI 1)) = f (v ||| u) := by
  rcases hv with rfl | rfl <;> rcases hu with rfl | rfl
  · exact ⟨by decide, fun f => by rw [if_pos rfl, if_pos rfl]; rfl⟩
  · exact ⟨by decide, fun f => by rw [if_pos rfl, if_neg (by decide)]; rfl⟩
  · exact ⟨by decide, fun f => by rw [if_neg (by decide)]; rfl⟩
  · exact ⟨by decide, fun f => by rw [if_neg (by decide)]; rfl⟩
theorem T_M_every_f (hR : RSk h R) {e : Nat} (he : e ≤ 400) {v u : Int32} (hv : v = 0 ∨ v = 1) (hu : u = 0 ∨ u = 1) {w2 : Value} : ev z d 218 26 [.ref R, .int v, w2] [.int u] (fH h R a e) = some (.inl (some (.int (v &&& u))), fH h R a e) := by
  have q := and_v hv hu
  rw [S_M_every_26]
  refine (q.2 (fun x => ev z d 218 5 [.ref R, .int x, .int u] [] (fH h R a e))).trans ?_
  rw [S_M_every_5 (rfH hR) q.1, if_neg (fH_f he)]
theorem T_M_every_l (A : AtR z F R T E r) (M : MT h R T E) (hf : zI h R 12 = -1) (hW : WA z h) (hF : FA h R F) (hr : zI h R 13 = nI (6 - r)) : ∀ f s a v pre w2, E - s ≤ f → a ≤ E → rn cS T E a = s → (v = 0 ∨ v = 1) → Evl F pre v (5 + 2 * r) → BR F h R T E r (5 + 2 * r) pre (ev z (d + r + 1) 218 5 [.ref R, .int v, w2] [] (aH h R a)) (andL T E (atm T E r) f s) := by
  have hE := M.e
  intro f
  induction f with
  | zero =>
    intro s a v pre w2 hn ha hs hv hp
    have hsE : s ≤ E := by rw [← hs]; exact rn_le ha
    have hss : rn cS T E s = s := by rw [← hs]; exact rn_rn
    rw [S_M_every_5 (MT_a M).r hv, if_pos ((aj (by decide)).trans hf), T_M_has M (hW 25 (by decide)) (by decide) ha hs, if_neg (fun q => by have := isW_lt q; omega)]
    simp only [zbd_i, tl_s]
    rw [S_M_every_19 (MT_a M).r hv, if_pos (by decide)]
    exact ⟨v, s, hv, hsE, hss, rfl, by rw [List.append_nil]; exact hp⟩
  | succ f ih =>
    intro s a v pre w2 hn ha hs hv hp
    have hsE : s ≤ E := by rw [← hs]; exact rn_le ha
    have hss : rn cS T E s = s := by rw [← hs]; exact rn_rn
    rw [S_M_every_5 (MT_a M).r hv, if_pos ((aj (by decide)).trans hf), T_M_has M (hW 25 (by decide)) (by decide) ha hs]
    unfold andL
    by_cases c : isW T E s (wt 25) = true
    · rw [if_pos c, if_pos c]
      simp only [zbd_i, tl_s]
      rw [S_M_every_19 (MT_a M).r hv, if_neg (by decide)]
      have := A d h (tkN T E s) (adv T E s) M hf hW hF hr (tkN_le hsE) rfl
      have pg := atm_g (T := T) r (adv T E s) (adv_le (T := T) hsE)
      have gt := adv_gt (T := T) (isW_lt c)
      revert this pg
      cases atm T E r (adv T E s) with
      | inl e =>
        rintro ⟨u, a', g0, g1, g2, g3⟩ -
        rw [g3]
        simp only [zbd_i, tl_s]
        rw [T_M_every_f M.r (by omega) hv g0]
        exact ⟨_, a', (and_v hv g0).1, g1, g2, rfl⟩
      | inr q =>
        rintro ⟨u, a', g0, g1, g2, g3, g4⟩ pg
        obtain ⟨p1, p2, p3⟩ : adv T E s + q.1.length ≤ q.2 ∧ adv T E s < q.2 ∧ q.2 ≤ E := pg
        rw [g3]
        simp only [zbd_i, tl_s, S_M_every_26]
        rw [(and_v hv g0).2 (fun x => ev z (d + r + 1) 218 5 [.ref R, .int x, .int u] [] (aH h R a'))]
        have hp2 : Evl F (pre ++ (q.1 ++ [-14])) (v &&& u) (5 + 2 * r) := hp.bin g4 (by omega) (by omega) (by decide)
        have := ih q.2 a' (v &&& u) _ (.int u) (by omega) g1 g2 (and_v hv g0).1 hp2
        show BR F h R T E r (5 + 2 * r) pre _ (pB (andL T E (atm T E r) f q.2) _)
        revert this
        cases andL T E (atm T E r) f q.2 with
        | inl e => exact fun t => t
        | inr x =>
          rintro ⟨w, a2, k0, k1, k2, k3, k4⟩
          refine ⟨w, a2, k0, k1, k2, k3, ?_⟩
          rw [List.append_assoc, List.append_assoc] at k4
          exact k4
    · rw [if_neg c, if_neg c]
      simp only [zbd_i, tl_s]
      rw [S_M_every_19 (MT_a M).r hv, if_pos (by decide)]
      exact ⟨v, s, hv, hsE, hss, rfl, by rw [List.append_nil]; exact hp⟩
theorem T_M_every (A : AtR z F R T E r) (M : MT h R T E) (hf : zI h R 12 = -1) (hW : WA z h) (hF : FA h R F) (hr : zI h R 13 = nI (6 - r)) (ha : a ≤ E) (hs : rn cS T E a = s) : BR F h R T E r (5 + 2 * r) [] (ev z (d + r + 1) 218 0 [.ref R, zu, zu] [] (aH h R a)) (evy T E (atm T E r) s) := by
  have hE := M.e
  rw [S_M_every_0 (MT_a M).r]
  have := A d h a s M hf hW hF hr ha hs
  unfold evy
  revert this
  cases atm T E r s with
  | inl e =>
    rintro ⟨u, a', g0, g1, g2, g3⟩
    rw [g3]
    simp only [zbd_i, tl_s, S_M_every_4]
    rw [S_M_every_5 (rfH M.r) g0, if_neg (fH_f (by omega))]
    exact ⟨_, a', g0, g1, g2, rfl⟩
  | inr q =>
    rintro ⟨u, a', g0, g1, g2, g3, g4⟩
    rw [g3]
    simp only [zbd_i, tl_s, S_M_every_4]
    have := T_M_every_l (d := d) A M hf hW hF hr E q.2 a' u q.1 zu (by omega) g1 g2 g0 (Evl.mo g4 (by omega))
    show BR F h R T E r (5 + 2 * r) [] _ (pB (andL T E (atm T E r) E q.2) _)
    revert this
    cases andL T E (atm T E r) E q.2 with
    | inl e => exact fun t => t
    | inr x => exact fun t => t
theorem T_M_some_f (hR : RSk h R) {e : Nat} (he : e ≤ 400) {v u : Int32} (hv : v = 0 ∨ v = 1) (hu : u = 0 ∨ u = 1) {w2 : Value} : ev z d 219 26 [.ref R, .int v, w2] [.int u] (fH h R a e) = some (.inl (some (.int (v ||| u))), fH h R a e) := by
  have q := or_v hv hu
  rw [S_M_some_26]
  refine (q.2 (fun x => ev z d 219 5 [.ref R, .int x, .int u] [] (fH h R a e))).trans ?_
  rw [S_M_some_5 (rfH hR) q.1, if_neg (fH_f he)]
theorem T_M_some_l (A : AtR z F R T E r) (M : MT h R T E) (hf : zI h R 12 = -1) (hW : WA z h) (hF : FA h R F) (hr : zI h R 13 = nI (6 - r)) : ∀ f s a v pre w2, E - s ≤ f → a ≤ E → rn cS T E a = s → (v = 0 ∨ v = 1) → Evl F pre v (6 + 2 * r) → BR F h R T E r (6 + 2 * r) pre (ev z (d + r + 1) 219 5 [.ref R, .int v, w2] [] (aH h R a)) (orL T E (atm T E r) f s) := by
  have hE := M.e
  intro f
  induction f with
  | zero =>
    intro s a v pre w2 hn ha hs hv hp
    have hsE : s ≤ E := by rw [← hs]; exact rn_le ha
    have hss : rn cS T E s = s := by rw [← hs]; exact rn_rn
    rw [S_M_some_5 (MT_a M).r hv, if_pos ((aj (by decide)).trans hf), T_M_has M (hW 26 (by decide)) (by decide) ha hs, if_neg (fun q => by have := isW_lt q; omega)]
    simp only [zbd_i, tl_s]
    rw [S_M_some_19 (MT_a M).r hv, if_pos (by decide)]
    exact ⟨v, s, hv, hsE, hss, rfl, by rw [List.append_nil]; exact hp⟩
  | succ f ih =>
    intro s a v pre w2 hn ha hs hv hp
    have hsE : s ≤ E := by rw [← hs]; exact rn_le ha
    have hss : rn cS T E s = s := by rw [← hs]; exact rn_rn
    rw [S_M_some_5 (MT_a M).r hv, if_pos ((aj (by decide)).trans hf), T_M_has M (hW 26 (by decide)) (by decide) ha hs]
    unfold orL
    by_cases c : isW T E s (wt 26) = true
    · rw [if_pos c, if_pos c]
      simp only [zbd_i, tl_s]
      rw [S_M_some_19 (MT_a M).r hv, if_neg (by decide)]
      have := T_M_every (d := d) (a := tkN T E s) (s := adv T E s) A M hf hW hF hr (tkN_le hsE) rfl
      have pg := evy_g (T := T) (fun s hs => atm_g (T := T) r s hs) (adv_le (T := T) hsE)
      have gt := adv_gt (T := T) (isW_lt c)
      revert this pg
      cases evy T E (atm T E r) (adv T E s) with
      | inl e =>
        rintro ⟨u, a', g0, g1, g2, g3⟩ -
        rw [g3]
        simp only [zbd_i, tl_s]
        rw [T_M_some_f M.r (by omega) hv g0]
        exact ⟨_, a', (or_v hv g0).1, g1, g2, rfl⟩
      | inr q =>
        rintro ⟨u, a', g0, g1, g2, g3, g4⟩ pg
        obtain ⟨p1, p2, p3⟩ : adv T E s + q.1.length ≤ q.2 ∧ adv T E s < q.2 ∧ q.2 ≤ E := pg
        rw [g3]
        simp only [zbd_i, tl_s, S_M_some_26]
        rw [(or_v hv g0).2 (fun x => ev z (d + r + 1) 219 5 [.ref R, .int x, .int u] [] (aH h R a'))]
        have hp2 : Evl F (pre ++ (q.1 ++ [-15])) (v ||| u) (6 + 2 * r) := hp.bin g4 (by omega) (by omega) (by decide)
        have := ih q.2 a' (v ||| u) _ (.int u) (by omega) g1 g2 (or_v hv g0).1 hp2
        show BR F h R T E r (6 + 2 * r) pre _ (pB (orL T E (atm T E r) f q.2) _)
        revert this
        cases orL T E (atm T E r) f q.2 with
        | inl e => exact fun t => t
        | inr x =>
          rintro ⟨w, a2, k0, k1, k2, k3, k4⟩
          refine ⟨w, a2, k0, k1, k2, k3, ?_⟩
          rw [List.append_assoc, List.append_assoc] at k4
          exact k4
    · rw [if_neg c, if_neg c]
      simp only [zbd_i, tl_s]
      rw [S_M_some_19 (MT_a M).r hv, if_pos (by decide)]
      exact ⟨v, s, hv, hsE, hss, rfl, by rw [List.append_nil]; exact hp⟩
theorem T_M_some (A : AtR z F R T E r) (M : MT h R T E) (hf : zI h R 12 = -1) (hW : WA z h) (hF : FA h R F) (hr : zI h R 13 = nI (6 - r)) (ha : a ≤ E) (hs : rn cS T E a = s) : BR F h R T E r (6 + 2 * r) [] (ev z (d + r + 1) 219 0 [.ref R, zu, zu] [] (aH h R a)) (smy T E (atm T E r) s) := by
  have hE := M.e
  rw [S_M_some_0 (MT_a M).r]
  have := T_M_every (d := d) (a := a) (s := s) A M hf hW hF hr ha hs
  unfold smy
  revert this
  cases evy T E (atm T E r) s with
  | inl e =>
    rintro ⟨u, a', g0, g1, g2, g3⟩
    rw [g3]
    simp only [zbd_i, tl_s, S_M_some_4]
    rw [S_M_some_5 (rfH M.r) g0, if_neg (fH_f (by omega))]
    exact ⟨_, a', g0, g1, g2, rfl⟩
  | inr q =>
    rintro ⟨u, a', g0, g1, g2, g3, g4⟩
    rw [g3]
    simp only [zbd_i, tl_s, S_M_some_4]
    have := T_M_some_l (d := d) A M hf hW hF hr E q.2 a' u q.1 zu (by omega) g1 g2 g0 (Evl.mo g4 (by omega))
    show BR F h R T E r (6 + 2 * r) [] _ (pB (orL T E (atm T E r) E q.2) _)
    revert this
    cases orL T E (atm T E r) E q.2 with
    | inl e => exact fun t => t
    | inr x => exact fun t => t
end
