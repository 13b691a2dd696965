/-! THE LAW'S CODES, RUN -/
section
variable {z : ZE} {d : Nat} {g g' h : Hp} {r b Nb E s L N t : Nat} {T : Row} {F : Nat → Int32} {ls : List LN}
theorem T_readLaw (C : CX z g r b Nb E T L) (hr : ¬ Ly L r) (hb : ¬ Ly L b) (H : LL g L E []) : LR2 g r T E L [] (ev z (d + 7) 24 0 [.ref L, .ref r, zu, zu, zu] [] (rdH g r T E (rn cS T E 0))) (lwT T E) := by
  rw [S_LTx_readInto_0 (N := 0) C.1.sk, rd_2]
  unfold lwT
  by_cases c : rn cS T E 0 < E
  · rw [if_neg (fun q => tkK_0.mp q c), if_pos c]
    exact T_readL C hr hb 12 g _ [] (by decide) C H (rn_le (by omega)) (by simp [cdL]) zu zu
  · rw [if_pos (tkK_0.mpr c), if_neg c]
    exact ⟨g, _, Fr.rf, rfl, H⟩
/-! what parses runs -/
def Gd (F : Nat → Int32) (m : Nat) (pre : List Int32) (x : CR) : Prop := match x with
  | .inr q => ∃ v, Evl F (pre ++ q.1) v m
  | .inl _ => True
theorem sumL_v : ∀ f s pre v, Evl F pre v 3 → Gd F 3 pre (sumL T E f s)
  | 0, s, pre, v, h => ⟨v, by rw [List.append_nil]; exact h⟩
  | f + 1, s, pre, v, h => by
    unfold sumL
    split
    · have pc := fun (q : Int32 × Nat) => pPt_pc (T := T) (E := E) (s := adv T E s) (q := q)
      revert pc
      cases pPt T E (adv T E s) with
      | inl e => exact fun _ => trivial
      | inr q =>
        intro pc
        have h2 : Evl F (pre ++ ([q.1] ++ [-11])) (jn (-11) v (vc F q.1)) 3 := h.bin ((Evl.pc (pc q rfl)).mo (show 1 ≤ 2 by decide)) (by decide) (by decide) (Or.inl rfl)
        have := sumL_v f q.2 _ _ h2
        show Gd F 3 pre (pB (sumL T E f q.2) _)
        revert this
        cases sumL T E f q.2 with
        | inl e => exact fun _ => trivial
        | inr x =>
          rintro ⟨v', k⟩
          rw [List.append_assoc] at k
          exact ⟨v', k⟩
    · exact ⟨v, by rw [List.append_nil]; exact h⟩
theorem pSm_v : Gd F 3 [] (pSm T E s) := by
  unfold pSm
  have pc := fun (q : Int32 × Nat) => pPt_pc (T := T) (E := E) (s := s) (q := q)
  revert pc
  cases pPt T E s with
  | inl e => exact fun _ => trivial
  | inr q =>
    intro pc
    have := sumL_v (T := T) (E := E) E q.2 [q.1] _ ((Evl.pc (F := F) (pc q rfl)).mo (show 1 ≤ 3 by decide))
    show Gd F 3 [] (pB (sumL T E E q.2) _)
    revert this
    cases sumL T E E q.2 with
    | inl e => exact fun _ => trivial
    | inr x => exact fun k => k
theorem andL_v {a : Nat → CR} {m : Nat} (hm : 2 ≤ m) (ha : ∀ s, Gd F m [] (a s)) : ∀ f s pre v, Evl F pre v (m + 1) → Gd F (m + 1) pre (andL T E a f s)
  | 0, s, pre, v, h => ⟨v, by rw [List.append_nil]; exact h⟩
  | f + 1, s, pre, v, h => by
    unfold andL
    split
    · have := ha (adv T E s)
      revert this
      cases a (adv T E s) with
      | inl e => exact fun _ => trivial
      | inr q =>
        rintro ⟨u, k⟩
        have h2 : Evl F (pre ++ (q.1 ++ [-14])) (jn (-14) v u) (m + 1) := h.bin k (by omega) (by omega) (by decide)
        have := andL_v hm ha f q.2 _ _ h2
        show Gd F (m + 1) pre (pB (andL T E a f q.2) _)
        revert this
        cases andL T E a f q.2 with
        | inl e => exact fun _ => trivial
        | inr x =>
          rintro ⟨v', k⟩
          rw [List.append_assoc, List.append_assoc] at k
          exact ⟨v', k⟩
    · exact ⟨v, by rw [List.append_nil]; exact h⟩
theorem evy_v {a : Nat → CR} {m : Nat} (hm : 2 ≤ m) (ha : ∀ s, Gd F m [] (a s)) : Gd F (m + 1) [] (evy T E a s) := by
  unfold evy
  have := ha s
  revert this
  cases a s with
  | inl e => exact fun _ => trivial
  | inr q =>
    rintro ⟨u, k⟩
    have := andL_v (T := T) (E := E) hm ha E q.2 q.1 u (Evl.mo k (by omega))
    show Gd F (m + 1) [] (pB (andL T E a E q.2) _)
    revert this
    cases andL T E a E q.2 with
    | inl e => exact fun _ => trivial
    | inr x => exact fun k => k
theorem orL_v {a : Nat → CR} {m : Nat} (hm : 2 ≤ m) (ha : ∀ s, Gd F m [] (a s)) : ∀ f s pre v, Evl F pre v (m + 2) → Gd F (m + 2) pre (orL T E a f s)
  | 0, s, pre, v, h => ⟨v, by rw [List.append_nil]; exact h⟩
  | f + 1, s, pre, v, h => by
    unfold orL
    split
    · have := evy_v (T := T) (E := E) (s := adv T E s) hm ha
      revert this
      cases evy T E a (adv T E s) with
      | inl e => exact fun _ => trivial
      | inr q =>
        rintro ⟨u, k⟩
        have h2 : Evl F (pre ++ (q.1 ++ [-15])) (jn (-15) v u) (m + 2) := h.bin k (by omega) (by omega) (by decide)
        have := orL_v hm ha f q.2 _ _ h2
        show Gd F (m + 2) pre (pB (orL T E a f q.2) _)
        revert this
        cases orL T E a f q.2 with
        | inl e => exact fun _ => trivial
        | inr x =>
          rintro ⟨v', k⟩
          rw [List.append_assoc, List.append_assoc] at k
          exact ⟨v', k⟩
    · exact ⟨v, by rw [List.append_nil]; exact h⟩
theorem smy_v {a : Nat → CR} {m : Nat} (hm : 2 ≤ m) (ha : ∀ s, Gd F m [] (a s)) : Gd F (m + 2) [] (smy T E a s) := by
  unfold smy
  have := evy_v (T := T) (E := E) (s := s) hm ha
  revert this
  cases evy T E a s with
  | inl e => exact fun _ => trivial
  | inr q =>
    rintro ⟨u, k⟩
    have := orL_v (T := T) (E := E) hm ha E q.2 q.1 u (Evl.mo k (by omega))
    show Gd F (m + 2) [] (pB (orL T E a E q.2) _)
    revert this
    cases orL T E a E q.2 with
    | inl e => exact fun _ => trivial
    | inr x => exact fun k => k
theorem pln_v : Gd F 4 [] (pln T E s) := by
  unfold pln
  split
  · have := (Evl.pc (F := F) (isPc_k (show 7 < 9 by decide))).mo (show 1 ≤ 4 by decide)
    rw [← e8] at this
    exact ⟨_, this⟩
  · split
    · have := (Evl.pc (F := F) (isPc_k (show 8 < 9 by decide))).mo (show 1 ≤ 4 by decide)
      rw [← e9] at this
      exact ⟨_, this⟩
    · have := pSm_v (F := F) (T := T) (E := E) (s := s)
      revert this
      cases pSm T E s with
      | inl e => exact fun _ => trivial
      | inr q =>
        rintro ⟨v, k⟩
        have t2 := pSm_v (F := F) (T := T) (E := E) (s := adv T E q.2)
        show Gd F 4 [] (if isS T E q.2 (nI 60) = true then _ else _)
        split
        · revert t2
          cases pSm T E (adv T E q.2) with
          | inl e => exact fun _ => trivial
          | inr x =>
            rintro ⟨u, k2⟩
            exact ⟨_, (Evl.mo k (show 3 ≤ 4 by decide)).bin (op := -12) k2 (by decide) (by decide) (by decide)⟩
        · split
          · revert t2
            cases pSm T E (adv T E q.2) with
            | inl e => exact fun _ => trivial
            | inr x =>
              rintro ⟨u, k2⟩
              exact ⟨_, (Evl.mo k (show 3 ≤ 4 by decide)).bin (op := -13) k2 (by decide) (by decide) (by decide)⟩
          · trivial
theorem Gd.mo {m n : Nat} {pre : List Int32} {x : CR} (h : Gd F m pre x) (e : m ≤ n) : Gd F n pre x := by
  cases x with
  | inl e => trivial
  | inr q => obtain ⟨v, k⟩ := h; exact ⟨v, k.mo e⟩
theorem atm_v : ∀ r s, Gd F (4 + 2 * r) [] (atm T E r s)
  | 0, s => by
    unfold atm
    split
    · trivial
    · split
      · trivial
      · exact pln_v
  | r + 1, s => by
    unfold atm
    split
    · have := atm_v r (adv T E s)
      revert this
      cases atm T E r (adv T E s) with
      | inl e => exact fun _ => trivial
      | inr q =>
        rintro ⟨v, k⟩
        exact ⟨_, (Evl.nt k (by omega)).mo (by omega)⟩
    · split
      · have := smy_v (T := T) (E := E) (s := adv T E s) (m := 4 + 2 * r) (by omega) (fun s => atm_v r s)
        revert this
        cases smy T E (atm T E r) (adv T E s) with
        | inl e => exact fun _ => trivial
        | inr q =>
          rintro ⟨v, k⟩
          show Gd F _ [] (if isS T E q.2 (nI 41) = true then _ else _)
          split
          · exact ⟨v, Evl.mo k (by omega)⟩
          · trivial
      · exact pln_v.mo (by omega)
/-- a line's condition, if there is one, lays one value -/
def okL (l : LN) : Prop := (l.1 = nI 0 ∨ l.1 = nI 1 ∨ l.1 = nI 2) ∧ (l.2.2 = [] ∨ ∀ F, ∃ v, Evl F l.2.2 v 18)
theorem lwL_ok {q : LN × Nat} (h : lwL T E s = .inr q) : okL q.1 := by
  unfold lwL at h
  obtain ⟨k, h1, h2⟩ := pB_inv h
  obtain ⟨n, h3, h4⟩ := pB_inv h2
  have hk : k.1 = nI 0 ∨ k.1 = nI 1 ∨ k.1 = nI 2 := by
    unfold lwK at h1
    split at h1
    · cases h1; exact Or.inl rfl
    · split at h1
      · cases h1; exact Or.inr (Or.inl rfl)
      · split at h1
        · cases h1; exact Or.inr (Or.inr rfl)
        · cases h1
  split at h4
  · obtain ⟨c, h5, h6⟩ := pB_inv h4
    cases h6
    refine ⟨hk, Or.inr (fun F => ?_)⟩
    have := smy_v (F := F) (T := T) (E := E) (s := adv T E n.2) (m := 4 + 2 * 6) (by decide) (fun s => atm_v (T := T) (E := E) 6 s)
    rw [h5] at this
    exact this
  · cases h4
    exact ⟨hk, Or.inl rfl⟩
theorem lwR_ok : ∀ n s ls, lwR T E n s = .inr ls → ls.length ≤ n ∧ ∀ l, l ∈ ls → okL l
  | 0, s, ls, h => by cases h
  | n + 1, s, ls, h => by
    unfold lwR at h
    obtain ⟨q, h1, h2⟩ := pB_inv h
    have ok := lwL_ok h1
    split at h2
    · split at h2
      · obtain ⟨l2, h3, h4⟩ := pB_inv h2
        cases h4
        have := lwR_ok n _ l2 h3
        refine ⟨by rw [List.length_cons]; omega, fun l hl => ?_⟩
        rcases List.mem_cons.mp hl with rfl | hl
        · exact ok
        · exact this.2 l hl
      · cases h2
    · cases h2
      refine ⟨by simp, fun l hl => ?_⟩
      rcases List.mem_cons.mp hl with rfl | hl
      · exact ok
      · cases hl
theorem lwT_ok {ls : List LN} (h : lwT T E = .inr ls) : ls.length ≤ 12 ∧ ∀ l, l ∈ ls → okL l := by
  unfold lwT at h
  split at h
  · exact lwR_ok 12 _ ls h
  · cases h
    exact ⟨by simp, fun l hl => by cases hl⟩
/-! the stack in the heap -/
def SK (h : Hp) (a : Nat) : List Int32 → Prop
  | [] => True
  | x :: st => zI h a st.length = x ∧ SK h a st
theorem SK_w {a k : Nat} {v : Int32} : ∀ st, SK h a st → st.length ≤ k → SK (zwI h a k v) a st
  | [], _, _ => trivial
  | x :: st, H, hk => by
    rw [List.length_cons] at hk
    exact ⟨(zI_wj (by omega)).trans H.1, SK_w st H.2 (by omega)⟩
theorem T_joined {c x y : Int32} : ev z d 23 0 [.int c, .int x, .int y] [] h = some (.inl (some (.int (jn c x y))), h) := by
  rw [S_Law_joined_0]
  unfold jn
  by_cases c1 : c = -11
  · subst c1; rw [if_pos rfl, T_Law_joined_1_m11, S_Law_joined_32]
  · rw [if_neg c1]
    by_cases c2 : c = -12
    · subst c2
      rw [if_pos rfl, T_Law_joined_1_m12, S_Law_joined_36]
      exact lt_bI (f := fun i => some ((.inl (some (.int i)) : zO), h))
    · rw [if_neg c2]
      by_cases c3 : c = -13
      · subst c3
        rw [if_pos rfl, T_Law_joined_1_m13, S_Law_joined_47]
        exact lt_bI (f := fun i => some ((.inl (some (.int i)) : zO), h))
      · rw [if_neg c3]
        by_cases c4 : c = -14
        · subst c4; rw [if_pos rfl, T_Law_joined_1_m14, S_Law_joined_58]
        · rw [if_neg c4, T_Law_joined_1_d, S_Law_joined_62]
          have q : ∀ k : Int32, c ≠ k → c.toInt ≠ k.toInt := fun k hk e => hk (Int32.toInt_inj.mp e)
          have h1 := q _ c1
          have h2 := q _ c2
          have h3 := q _ c3
          have h4 := q _ c4
          rw [show (-11 : Int32).toInt = -11 by decide] at h1
          rw [show (-12 : Int32).toInt = -12 by decide] at h2
          rw [show (-13 : Int32).toInt = -13 by decide] at h3
          rw [show (-14 : Int32).toInt = -14 by decide] at h4
          omega
theorem m1_neg {c : Int32} (hc : c < 0) : ¬ (-1) - c < 0 := by
  have h1 := Int32.lt_iff_toInt_lt.mp hc
  rw [Int32.toInt_zero] at h1
  have h2 := Int32.le_toInt c
  rw [Int32.lt_iff_toInt_lt, Int32.toInt_sub, Int32.toInt_zero, show (-1 : Int32).toInt = -1 by decide, Int.bmod_eq_of_le (by omega) (by omega)]
  omega
theorem ix_r {j : Int32} {M : Nat} {f : Nat → Option (zO × Hp)} (h1 : ¬ j < 0) (h2 : ¬ nI M ≤ j) (hM : M < 2 ^ 31) : ix j M f = f (cN j) ∧ cN j < M := by
  obtain ⟨k, hk, rfl⟩ := (inR_iff hM).mp ⟨h1, Int32.not_le.mp h2⟩
  rw [cN_nI (by omega), ix_n hk hM]
  exact ⟨rfl, hk⟩
/-- the facts at an address -/
def FT (h : Hp) (t : Nat) (F : Nat → Int32) : Prop := zK h t = 20 ∧ zN h t = 9 ∧ ∀ k, k < 9 → zI h t k = F k
def hvl (st : List Int32) : Int32 := match st with
  | [] => nI 1
  | x :: _ => if x = 0 then nI 0 else nI 1
theorem FT_fr {A : Nat → Prop} (f : Fr A h g) (ht : ¬ A t) (H : FT h t F) : FT g t F := ⟨by rw [f.k]; exact H.1, by rw [f.n]; exact H.2.1, fun k hk => by rw [f.i ht]; exact H.2.2 k hk⟩
theorem T_holds_l (hN : N < 2 ^ 31) (ht : t ≠ L + 4) {en : Nat} (he : en ≤ N) {w1 : Value} {st' : List Int32} : ∀ cs i st h w6, LSk h L N → FT h t F → (∀ j, j < cs.length → zI h (L + 5) (i + j) = cs.getD j 0) → i + cs.length = en → SK h (L + 4) st → st.length ≤ 40 → xs F cs st = some st' → ∃ h', Fr (fun x => x = L + 4) h h' ∧ ev z d 22 6 [.ref L, w1, .int (nI en), .ref t, .int (nI st.length), .int (nI i), w6] [] h = some (.inl (some (.int (hvl st'))), h') := by
  intro cs
  induction cs with
  | nil =>
    intro i st h w6 hL hF hc hi hS hl hx
    obtain rfl := Option.some.inj hx
    refine ⟨h, Fr.rf, ?_⟩
    rw [S_Law_holds_6 hL hF.1 hF.2.1, if_pos (nI_le (by simp at hi; omega) (by simp at hi; omega))]
    cases st with
    | nil => rw [if_pos (by rfl)]; rfl
    | cons x r =>
      rw [List.length_cons] at hl ⊢
      rw [if_neg (nI_ne0 (by omega) (by omega)), pk_sub (by omega), Nat.add_sub_cancel, ix_n (by omega) (by decide), hS.1]
      unfold hvl
      dsimp only
      by_cases c : x = 0
      · rw [if_pos c, if_pos c]
      · rw [if_neg c, if_neg c]
  | cons c cs ih =>
    intro i st h w6 hL hF hc hi hS hl hx
    rw [List.length_cons] at hi
    have h40 : st.length < 40 := by
      unfold xs at hx
      split at hx
      · assumption
      · cases hx
    have hx2 : xs F cs (stp F c st) = some st' := by
      unfold xs at hx
      rw [if_pos h40] at hx
      exact hx
    have e0 : zI h (L + 5) i = c := hc 0 (by simp)
    have hc2 : ∀ j, j < cs.length → zI h (L + 5) (i + 1 + j) = cs.getD j 0 := fun j hj => by
      have := hc (j + 1) (by rw [List.length_cons]; omega)
      rw [show i + 1 + j = i + (j + 1) by omega, this]
      rfl
    have nx : ∀ h1 : Hp, Fr (fun x => x = L + 4) h h1 → ∀ st1 w6, stp F c st = st1 → SK h1 (L + 4) st1 → st1.length ≤ 40 → ∃ h', Fr (fun x => x = L + 4) h h' ∧ ev z d 22 6 [.ref L, w1, .int (nI en), .ref t, .int (nI st1.length), .int (nI (i + 1)), w6] [] h1 = some (.inl (some (.int (hvl st'))), h') := by
      intro h1 f st1 w6 e1 S1 l1
      obtain ⟨h', f', e'⟩ := ih (i + 1) st1 h1 w6 (LSk_fr f hL) (FT_fr f ht hF) (fun j hj => by rw [f.i (by omega)]; exact hc2 j hj) (by omega) S1 l1 (by rw [← e1]; exact hx2)
      exact ⟨h', f.tr f', e'⟩
    have fw : ∀ k v, Fr (fun x => x = L + 4) h (zwI h (L + 4) k v) := fun k v => Fr.w rfl
    rw [S_Law_holds_6 hL hF.1 hF.2.1, if_neg (nI_ge (by omega) (by omega)), if_neg (nI_ge h40 (by decide)), ix_n (by omega) hN, e0]
    unfold stp at nx
    by_cases c1 : c < 0
    · rw [if_pos c1] at nx ⊢
      by_cases c2 : nI 9 ≤ (-1) - c
      · rw [if_pos c2] at nx ⊢
        by_cases c3 : c = -16
        · rw [if_pos c3] at nx ⊢
          cases st with
          | nil =>
            rw [if_pos (by decide), if_pos (by decide), nI_add]
            exact nx h Fr.rf [] _ rfl trivial (by simp)
          | cons x r =>
            rw [List.length_cons] at h40 ⊢
            rw [if_neg (nI_nlt (by omega) (by omega)), pk_sub (by omega), Nat.add_sub_cancel, ix_n (by omega) (by decide), ix_n (by omega) (by decide), nI_add, hS.1]
            exact nx _ (fw _ _) ((nI 1 - x) :: r) _ rfl ⟨zI_wa, SK_w r hS.2 (Nat.le_refl _)⟩ (by rw [List.length_cons]; omega)
        · rw [if_neg c3] at nx ⊢
          cases st with
          | nil =>
            rw [if_pos (by decide), nI_add]
            exact nx h Fr.rf [] _ rfl trivial (by simp)
          | cons y r =>
            cases r with
            | nil =>
              rw [if_pos (show nI [y].length < nI 2 from (by decide : nI 1 < nI 2)), nI_add]
              exact nx h Fr.rf [y] _ rfl hS (by simp)
            | cons x r =>
              obtain ⟨s1, s2, s3⟩ := hS
              simp only [List.length_cons] at h40 s1 ⊢
              rw [if_neg (nI_nlt (by omega) (by omega)), pk_m1, pk_sub (by omega), Nat.add_sub_cancel, ix_n (by omega) (by decide), ix_n (by omega) (by decide), s1, s2, T_joined]
              simp only [zbd_i, tl_s]
              rw [S_Law_holds_150 hL, ix_n (by omega) (by decide), nI_add]
              exact nx _ (fw _ _) (jn c x y :: r) _ rfl ⟨zI_wa, SK_w r s3 (Nat.le_refl _)⟩ (by rw [List.length_cons]; omega)
      · rw [if_neg c2] at nx ⊢
        have q := ix_r (f := fun k10 => ix (nI st.length) 40 (fun k11 => ev z d 22 6 [.ref L, w1, .int (nI en), .ref t, .int (nI st.length + nI 1), .int (nI i + nI 1), .int c] [] (zwI h (L + 4) k11 (zI h t k10)))) (m1_neg c1) c2 (by decide)
        rw [q.1, ix_n h40 (by decide), nI_add, nI_add, hF.2.2 _ q.2]
        exact nx _ (fw _ _) (F (cN ((-1) - c)) :: st) _ rfl ⟨zI_wa, SK_w st hS (Nat.le_refl _)⟩ (by rw [List.length_cons]; omega)
    · rw [if_neg c1] at nx ⊢
      rw [ix_n h40 (by decide), nI_add, nI_add]
      exact nx _ (fw _ _) (c :: st) _ rfl ⟨zI_wa, SK_w st hS (Nat.le_refl _)⟩ (by rw [List.length_cons]; omega)
end
