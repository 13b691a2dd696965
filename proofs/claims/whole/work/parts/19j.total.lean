/-! WHAT A LAW ADDS -/
/-- a law that lies at L: its lines, each one's condition good -/
def LawAt (h : Hp) (L E : Nat) (ls : List LN) : Prop := LL h L E ls ∧ E ≤ 400 ∧ ls.length ≤ 12 ∧ (∀ l, l ∈ ls → okL l) ∧ (cdL ls).length ≤ E
def tlS (F : Nat → Int32) (k : Int32) : List LN → Int32 → Int32
  | [], a => a
  | l :: ls, a => tlS F k ls (if l.1 = k then (if evv F l.2.2 = 0 then a else a + l.2.1) else a)
section
variable {z : ZE} {d : Nat} {h g : Hp} {E L t : Nat} {F : Nat → Int32} {ls : List LN}
theorem LB_f4 {cl : List Int32} {A : Nat → Prop} (f : Fr A h g) (hA : ∀ x, A x → x < L ∨ L + 5 < x ∨ x = L + 4) (B : LB h L E cl) : LB g L E cl := by
  have q : ∀ i, i ≤ 5 → i ≠ 4 → ¬ A (L + i) := fun i h1 h2 e => by have := hA _ e; omega
  have q0 : ¬ A L := q 0 (by decide) (by decide)
  exact ⟨LSk_fr f B.1, by rw [f.i q0]; exact B.2.1, fun j hj => by rw [f.i (q 5 (by decide) (by decide))]; exact B.2.2 j hj⟩
theorem LL_f4 {A : Nat → Prop} (f : Fr A h g) (hA : ∀ x, A x → x < L ∨ L + 5 < x ∨ x = L + 4) (H : LL h L E ls) : LL g L E ls := by
  have q : ∀ i, i ≤ 5 → i ≠ 4 → ¬ A (L + i) := fun i h1 h2 e => by have := hA _ e; omega
  have q0 : ¬ A L := q 0 (by decide) (by decide)
  refine ⟨LB_f4 f hA H.1, by rw [f.i q0]; exact H.2.1, fun j hj => ?_⟩
  rw [f.i (q 1 (by decide) (by decide)), f.i (q 2 (by decide) (by decide)), f.i (q 3 (by decide) (by decide))]
  exact H.2.2 j hj
theorem LawAt.fr {A : Nat → Prop} (H : LawAt h L E ls) (f : Fr A h g) (hA : ∀ x, A x → x < L ∨ L + 5 < x ∨ x = L + 4) : LawAt g L E ls := ⟨LL_f4 f hA H.1, H.2⟩
theorem okL_xs {l : LN} (ok : okL l) : ∃ st, xs F l.2.2 [] = some st ∧ hvl st = bI (¬ evv F l.2.2 = 0) := by
  rcases ok.2 with e | e
  · rw [e]
    refine ⟨[], rfl, ?_⟩
    rw [evv_nil]
    exact (bI_t (by decide)).symm
  · obtain ⟨v, k⟩ := e F
    have := k [] (by decide) []
    rw [List.append_nil] at this
    refine ⟨[v], this, ?_⟩
    rw [evv_e k (by decide)]
    unfold hvl bI
    dsimp only
    by_cases c : v = 0
    · rw [if_pos c, if_neg (fun q => q c)]
    · rw [if_neg c, if_pos c]
theorem T_holds (H : LawAt h L E ls) (hF : FT h t F) (ht : t ≠ L + 4) {pre post : List LN} {l : LN} (e : ls = pre ++ l :: post) : ∃ h', Fr (fun x => x = L + 4) h h' ∧ ev z d 22 0 [.ref L, .int (nI (cdL pre).length), .int (nI (cdL (pre ++ [l])).length), .ref t, zu, zu, zu] [] h = some (.inl (some (.int (bI (¬ evv F l.2.2 = 0)))), h') := by
  obtain ⟨⟨⟨hL, b1, b2⟩, -⟩, hE, -, ok, hcap⟩ := H
  have okl := ok l (by rw [e]; simp)
  obtain ⟨st, hx, hv⟩ := okL_xs (F := F) okl
  have e1 : cdL (pre ++ [l]) = cdL pre ++ l.2.2 := by
    rw [cdL_a]
    show cdL pre ++ (l.2.2 ++ []) = _
    rw [List.append_nil]
  have e2 : cdL ls = cdL pre ++ (l.2.2 ++ cdL post) := by rw [e, cdL_a]; rfl
  rw [S_Law_holds_0]
  have ln : (cdL ls).length = (cdL pre).length + (l.2.2.length + (cdL post).length) := by rw [e2, List.length_append, List.length_append]
  have := T_holds_l (z := z) (d := d) (N := E) (L := L) (en := (cdL (pre ++ [l])).length) (w1 := .int (nI (cdL pre).length)) (st' := st) (by omega) ht (by rw [e1, List.length_append]; omega) l.2.2 (cdL pre).length [] h zu hL hF (fun j hj => ?_) (by rw [e1, List.length_append]) trivial (by simp) hx
  · rw [hv] at this
    exact this
  · rw [b2 _ (by omega), e2]
    simp only [List.getD_eq_getElem?_getD]
    rw [List.getElem?_append_right (by omega), Nat.add_sub_cancel_left, List.getElem?_append_left hj]
theorem T_total_l {k : Int32} (ht : t ≠ L + 4) : ∀ post pre h a, ls = pre ++ post → LawAt h L E ls → FT h t F → ∃ h', Fr (fun x => x = L + 4) h h' ∧ ev z d 21 8 [.ref L, .int k, .ref t, .int a, .int (nI (cdL pre).length), .int (nI pre.length)] [] h = some (.inl (some (.int (tlS F k post a))), h') := by
  intro post
  induction post with
  | nil =>
    intro pre h a e H hF
    have el : ls.length = pre.length := by rw [e, List.append_nil]
    have h12 := H.2.2.1
    refine ⟨h, Fr.rf, ?_⟩
    rw [S_Law_total_8 H.1.1.1, H.1.2.1, if_pos (nI_le (by omega) (by omega))]
    rfl
  | cons l post ih =>
    intro pre h a e H hF
    have el : ls.length = pre.length + (post.length + 1) := by rw [e, List.length_append, List.length_cons]
    have h12 := H.2.2.1
    have gl : ls.getD pre.length ln0 = l := by rw [e]; simp [List.getD_eq_getElem?_getD]
    have gt : ls.take (pre.length + 1) = pre ++ [l] := by rw [e]; simp [List.take_append]; exact List.take_of_length_le (by omega)
    have lj := H.1.2.2 pre.length (by omega)
    rw [gl, gt] at lj
    have e' : ls = (pre ++ [l]) ++ post := by rw [e]; simp
    have pl : (pre ++ [l]).length = pre.length + 1 := by simp
    have nx : ∀ h1 a1, Fr (fun x => x = L + 4) h h1 → ∃ h', Fr (fun x => x = L + 4) h h' ∧ ev z d 21 8 [.ref L, .int k, .ref t, .int a1, .int (nI (cdL (pre ++ [l])).length), .int (nI (pre.length + 1))] [] h1 = some (.inl (some (.int (tlS F k post a1))), h') := by
      intro h1 a1 f
      obtain ⟨h', f', e1⟩ := ih (pre ++ [l]) h1 a1 e' (H.fr f (fun x q => by omega)) (FT_fr f ht hF)
      rw [pl] at e1
      exact ⟨h', f.tr f', e1⟩
    rw [S_Law_total_8 H.1.1.1, H.1.2.1, if_neg (nI_ge (by omega) (by omega)), ix_n (by omega) (by decide), lj.1]
    unfold tlS
    by_cases c1 : l.1 = k
    · obtain ⟨h1, f1, e1⟩ := T_holds (z := z) (d := d) H hF ht e
      have H1 := H.fr f1 (fun x q => by omega)
      rw [if_pos c1, if_pos c1, ix_n (by omega) (by decide), lj.2.2, e1]
      simp only [zbd_i, tl_s]
      rw [S_Law_total_42 H1.1.1.1]
      have lj1 := H1.1.2.2 pre.length (by omega)
      rw [gl, gt] at lj1
      rw [ix_n (by omega) (by decide), ix_n (by omega) (by decide), ix_n (by omega) (by decide), lj1.2.1, lj1.2.2, nI_add]
      by_cases c2 : evv F l.2.2 = 0
      · rw [if_pos (by rw [bI_0]; exact fun q => q c2), if_pos c2]
        exact nx h1 a f1
      · rw [if_neg (by rw [bI_0]; exact fun q => q c2), if_neg c2]
        exact nx h1 _ f1
    · rw [if_neg c1, if_neg c1, ix_n (by omega) (by decide), lj.2.2, nI_add]
      exact nx h a Fr.rf
theorem T_total {k : Int32} (H : LawAt h L E ls) (hF : FT h t F) (ht : t ≠ L + 4) : ∃ h', Fr (fun x => x = L + 4) h h' ∧ ev z d 21 0 [.ref L, .int k, .ref t, zu, zu, zu] [] h = some (.inl (some (.int (tlS F k ls (nI 0)))), h') := by
  rw [S_Law_total_0]
  exact T_total_l ht ls [] h (nI 0) rfl H hF
end
/-! sums over lines, in either way -/
theorem rp_tl {F : Nat → Int32} : ∀ (ls : List LN) (x a b : Int32), (∀ l, l ∈ ls → okL l) → rpS F ls (x + (a - b)) = x + (tlS F (nI 0) ls a - tlS F (nI 1) ls b)
  | [], x, a, b, _ => rfl
  | l :: ls, x, a, b, ok => by
    have ih := fun a b => rp_tl (F := F) ls x a b (fun l hl => ok l (List.mem_cons_of_mem _ hl))
    have ol := (ok l List.mem_cons_self).1
    unfold rpS tlS
    by_cases c : evv F l.2.2 = 0
    · rw [if_pos c, if_pos c, if_pos c, ite_self, ite_self]
      exact ih a b
    · rw [if_neg c, if_neg c, if_neg c]
      unfold rpk
      rcases ol with e | e | e
      · rw [e, if_pos rfl, if_pos rfl, if_neg (by decide), ← ih]
        congr 1
        grind
      · rw [e, if_neg (by decide), if_pos rfl, if_neg (by decide), if_pos rfl, ← ih]
        congr 1
        grind
      · rw [e, if_neg (by decide), if_neg (by decide), if_neg (by decide), if_neg (by decide), add_n0, ← ih]
theorem cp_tl {F : Nat → Int32} : ∀ (ls : List LN) (x a : Int32), (∀ l, l ∈ ls → okL l) → cpS F ls (x + a) = x + tlS F (nI 2) ls a
  | [], x, a, _ => rfl
  | l :: ls, x, a, ok => by
    have ih := fun a => cp_tl (F := F) ls x a (fun l hl => ok l (List.mem_cons_of_mem _ hl))
    have ol := (ok l List.mem_cons_self).1
    unfold cpS tlS
    by_cases c : evv F l.2.2 = 0
    · rw [if_pos c, if_pos c, ite_self]
      exact ih a
    · rw [if_neg c, if_neg c]
      unfold cpk
      rcases ol with e | e | e
      · rw [e, if_neg (by decide), if_neg (by decide), add_n0, ← ih]
      · rw [e, if_neg (by decide), if_neg (by decide), add_n0, ← ih]
      · rw [e, if_pos rfl, if_pos rfl, ← ih]
        congr 1
        grind
theorem rp_0 {F : Nat → Int32} {ls : List LN} {x : Int32} (ok : ∀ l, l ∈ ls → okL l) : rpS F ls x = x + (tlS F (nI 0) ls (nI 0) - tlS F (nI 1) ls (nI 0)) := by
  rw [← rp_tl ls x (nI 0) (nI 0) ok]
  congr 1
  rw [show nI 0 - nI 0 = nI 0 from by decide, add_n0]
theorem cp_0 {F : Nat → Int32} {ls : List LN} {x : Int32} (ok : ∀ l, l ∈ ls → okL l) : cpS F ls x = x + tlS F (nI 2) ls (nI 0) := by
  rw [← cp_tl ls x (nI 0) ok, add_n0]
/-! room for the codes -/
theorem lwL_n {T : Row} {E s : Nat} {q : LN × Nat} (hs : s ≤ E) (hq : lwL T E s = .inr q) : s + q.1.2.2.length ≤ q.2 ∧ q.2 ≤ E := by
  unfold lwL at hq
  obtain ⟨k, h1, h2⟩ := pB_inv hq
  obtain ⟨n, h3, h4⟩ := pB_inv h2
  have hk : s ≤ k.2 ∧ k.2 ≤ E := by
    unfold lwK at h1
    repeat' split at h1
    all_goals first | (cases h1; exact ⟨Nat.le_of_lt (adv_gt (isW_lt ‹_›)), adv_le hs⟩) | cases h1
  have hn : k.2 < n.2 ∧ n.2 ≤ E := by
    have := pN_g (T := T) (lo := nI 0) (hi := nI 40) hk.2
    rw [h3] at this
    exact this
  split at h4
  · obtain ⟨c, h5, h6⟩ := pB_inv h4
    have := smy_g (T := T) (fun s hs => atm_g (T := T) 6 s hs) (adv_le (T := T) hn.2)
    rw [h5] at this
    have gt := adv_gt (T := T) (isW_lt ‹_›)
    cases h6
    exact ⟨by have := this.1; dsimp only at this ⊢; omega, this.2.2⟩
  · cases h4
    exact ⟨by simp; omega, hn.2⟩
theorem lwR_n {T : Row} {E : Nat} : ∀ n s ls, s ≤ E → lwR T E n s = .inr ls → s + (cdL ls).length ≤ E
  | 0, s, ls, _, h => by cases h
  | n + 1, s, ls, hs, h => by
    unfold lwR at h
    obtain ⟨q, h1, h2⟩ := pB_inv h
    have k := lwL_n hs h1
    split at h2
    · split at h2
      · obtain ⟨l2, h3, h4⟩ := pB_inv h2
        cases h4
        have := lwR_n n _ l2 (adv_le k.2) h3
        have gt := adv_gt (T := T) (isS_lt ‹_›)
        show s + (q.1.2.2 ++ cdL l2).length ≤ E
        rw [List.length_append]
        omega
      · cases h2
    · cases h2
      show s + (q.1.2.2 ++ []).length ≤ E
      rw [List.append_nil]
      omega
theorem lwT_n {T : Row} {E : Nat} {ls : List LN} (h : lwT T E = .inr ls) : (cdL ls).length ≤ E := by
  unfold lwT at h
  split at h
  · have := lwR_n 12 _ ls (rn_le (by omega)) h
    omega
  · cases h
    simp [cdL]
