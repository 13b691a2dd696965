/-! THE LAW'S TEXT: what it reads, as codes -/
abbrev CR : Type := Nat ⊕ (List Int32 × Nat)
def fW (T : Row) (E s : Nat) : Option Nat := if isW T E s (wt 15) = true then some 0 else if isW T E s (wt 3) = true then some 1 else if isW T E s (wt 6) = true then some 2 else if isW T E s (wt 20) = true then some 3 else if isW T E s (wt 21) = true then some 4 else if isW T E s (wt 16) = true then some 5 else if isW T E s (wt 17) = true then some 6 else none
def pPt (T : Row) (E s : Nat) : Nat ⊕ (Int32 × Nat) := if tkK T E s = nI 2 then pN T E (nI 0) (nI 999) s else match fW T E s with
  | some k => .inr ((-1) - nI k, adv T E s)
  | none => .inl s
def sumL (T : Row) (E : Nat) : Nat → Nat → CR
  | 0, s => .inr ([], s)
  | f + 1, s => if isS T E s (nI 43) = true then pB (pPt T E (adv T E s)) (fun q => pB (sumL T E f q.2) (fun r => .inr (q.1 :: (-11) :: r.1, r.2))) else .inr ([], s)
def pSm (T : Row) (E s : Nat) : CR := pB (pPt T E s) (fun q => pB (sumL T E E q.2) (fun r => .inr (q.1 :: r.1, r.2)))
def andL (T : Row) (E : Nat) (a : Nat → CR) : Nat → Nat → CR
  | 0, s => .inr ([], s)
  | f + 1, s => if isW T E s (wt 25) = true then pB (a (adv T E s)) (fun q => pB (andL T E a f q.2) (fun r => .inr (q.1 ++ ((-14) :: r.1), r.2))) else .inr ([], s)
def evy (T : Row) (E : Nat) (a : Nat → CR) (s : Nat) : CR := pB (a s) (fun q => pB (andL T E a E q.2) (fun r => .inr (q.1 ++ r.1, r.2)))
def orL (T : Row) (E : Nat) (a : Nat → CR) : Nat → Nat → CR
  | 0, s => .inr ([], s)
  | f + 1, s => if isW T E s (wt 26) = true then pB (evy T E a (adv T E s)) (fun q => pB (orL T E a f q.2) (fun r => .inr (q.1 ++ ((-15) :: r.1), r.2))) else .inr ([], s)
def smy (T : Row) (E : Nat) (a : Nat → CR) (s : Nat) : CR := pB (evy T E a s) (fun q => pB (orL T E a E q.2) (fun r => .inr (q.1 ++ r.1, r.2)))
def pln (T : Row) (E s : Nat) : CR := if isW T E s (wt 22) = true then .inr ([-8], adv T E s) else if isW T E s (wt 23) = true then .inr ([-9], adv T E s) else pB (pSm T E s) (fun q => if isS T E q.2 (nI 60) = true then pB (pSm T E (adv T E q.2)) (fun r => .inr (q.1 ++ (r.1 ++ [-12]), r.2)) else if isS T E q.2 (nI 62) = true then pB (pSm T E (adv T E q.2)) (fun r => .inr (q.1 ++ (r.1 ++ [-13]), r.2)) else .inl q.2)
def atm (T : Row) (E : Nat) : Nat → Nat → CR
  | 0 => fun s => if isW T E s (wt 24) = true then .inl s else if isS T E s (nI 40) = true then .inl s else pln T E s
  | r + 1 => fun s => if isW T E s (wt 24) = true then pB (atm T E r (adv T E s)) (fun q => .inr (q.1 ++ [-16], q.2)) else if isS T E s (nI 40) = true then pB (smy T E (atm T E r) (adv T E s)) (fun q => if isS T E q.2 (nI 41) = true then .inr (q.1, adv T E q.2) else .inl q.2) else pln T E s
/-! each step goes on, and lays no more codes than bytes -/
theorem isW_lt {T : Row} {E s : Nat} {tx : List Nat} (h : isW T E s tx = true) : s < E := by
  unfold isW at h
  exact (of_decide_eq_true (Bool.and_eq_true_iff.mp h).1).1
theorem isS_lt {T : Row} {E s : Nat} {c : Int32} (h : isS T E s c = true) : s < E := by
  unfold isS at h
  have := (of_decide_eq_true h).1
  by_cases q : s < E
  · exact q
  · have e := (tkK_0 (T := T)).mpr q
    rw [this] at e
    exact absurd e (by decide)
theorem isN_lt {T : Row} {E s : Nat} {lo hi : Int32} (h : isN T E s lo hi = true) : s < E := by
  unfold isN at h
  exact (tkK_2.mp (of_decide_eq_true h).1).1
/-- a step from s: what it gives -/
def Pg (E s : Nat) (x : CR) : Prop := match x with
  | .inr q => s + q.1.length ≤ q.2 ∧ s < q.2 ∧ q.2 ≤ E
  | .inl e => e ≤ E
def Pg0 (E s : Nat) (x : CR) : Prop := match x with
  | .inr q => s + q.1.length ≤ q.2 ∧ s ≤ q.2 ∧ q.2 ≤ E
  | .inl e => e ≤ E
def Pg1 (E s : Nat) (x : Nat ⊕ (Int32 × Nat)) : Prop := match x with
  | .inr q => s < q.2 ∧ q.2 ≤ E
  | .inl e => e ≤ E
section
variable {T : Row} {E s : Nat} {a : Nat → CR}
theorem pN_g {lo hi : Int32} (hs : s ≤ E) : Pg1 E s (pN T E lo hi s) := by
  unfold pN
  split
  · rename_i c
    exact ⟨adv_gt (isN_lt c), adv_le hs⟩
  · exact hs
theorem pPt_g (hs : s ≤ E) : Pg1 E s (pPt T E s) := by
  unfold pPt
  split
  · exact pN_g hs
  · have q : ∀ tx, isW T E s tx = true → s < adv T E s ∧ adv T E s ≤ E := fun tx h => ⟨adv_gt (isW_lt h), adv_le hs⟩
    unfold fW
    split
    · rename_i h
      split at h
      · rename_i c; exact q _ c
      · split at h
        · rename_i c; exact q _ c
        · split at h
          · rename_i c; exact q _ c
          · split at h
            · rename_i c; exact q _ c
            · split at h
              · rename_i c; exact q _ c
              · split at h
                · rename_i c; exact q _ c
                · split at h
                  · rename_i c; exact q _ c
                  · cases h
    · exact hs
theorem sumL_g : ∀ f s, s ≤ E → Pg0 E s (sumL T E f s)
  | 0, s, hs => ⟨by simp, Nat.le_refl s, hs⟩
  | f + 1, s, hs => by
    unfold sumL
    split
    · rename_i c
      have h1 := adv_gt (T := T) (isS_lt c)
      have := pPt_g (T := T) (adv_le (T := T) hs)
      revert this
      cases pPt T E (adv T E s) with
      | inl e => exact fun h => h
      | inr q =>
        intro h2
        have h2' : adv T E s < q.2 ∧ q.2 ≤ E := h2
        have := sumL_g f q.2 h2'.2
        revert this
        show _ → Pg0 E s (pB (sumL T E f q.2) _)
        cases sumL T E f q.2 with
        | inl e => exact fun h => h
        | inr r =>
          intro h3
          obtain ⟨h4, h5, h6⟩ : q.2 + r.1.length ≤ r.2 ∧ q.2 ≤ r.2 ∧ r.2 ≤ E := h3
          refine ⟨?_, ?_, h6⟩
          · simp only [List.length_cons]; omega
          · show s ≤ r.2; omega
    · exact ⟨by simp, Nat.le_refl s, hs⟩
theorem pSm_g (hs : s ≤ E) : Pg E s (pSm T E s) := by
  unfold pSm
  have := pPt_g (T := T) hs
  revert this
  cases pPt T E s with
  | inl e => exact fun h => h
  | inr q =>
    intro h2
    have h2' : s < q.2 ∧ q.2 ≤ E := h2
    have := sumL_g (T := T) E q.2 h2'.2
    revert this
    show _ → Pg E s (pB (sumL T E E q.2) _)
    cases sumL T E E q.2 with
    | inl e => exact fun h => h
    | inr r =>
      intro h3
      obtain ⟨h4, h5, h6⟩ : q.2 + r.1.length ≤ r.2 ∧ q.2 ≤ r.2 ∧ r.2 ≤ E := h3
      refine ⟨?_, ?_, h6⟩
      · simp only [List.length_cons]; omega
      · show s < r.2; omega
theorem andL_g (ha : ∀ s, s ≤ E → Pg E s (a s)) : ∀ f s, s ≤ E → Pg0 E s (andL T E a f s)
  | 0, s, hs => ⟨by simp, Nat.le_refl s, hs⟩
  | f + 1, s, hs => by
    unfold andL
    split
    · rename_i c
      have h1 := adv_gt (T := T) (isW_lt c)
      have := ha _ (adv_le (T := T) hs)
      revert this
      cases a (adv T E s) with
      | inl e => exact fun h => h
      | inr q =>
        intro h2
        obtain ⟨k1, k2, k3⟩ : adv T E s + q.1.length ≤ q.2 ∧ adv T E s < q.2 ∧ q.2 ≤ E := h2
        have := andL_g ha f q.2 k3
        revert this
        show _ → Pg0 E s (pB (andL T E a f q.2) _)
        cases andL T E a f q.2 with
        | inl e => exact fun h => h
        | inr r =>
          intro h3
          obtain ⟨h4, h5, h6⟩ : q.2 + r.1.length ≤ r.2 ∧ q.2 ≤ r.2 ∧ r.2 ≤ E := h3
          refine ⟨?_, ?_, h6⟩
          · simp only [List.length_append, List.length_cons]; omega
          · show s ≤ r.2; omega
    · exact ⟨by simp, Nat.le_refl s, hs⟩
theorem evy_g (ha : ∀ s, s ≤ E → Pg E s (a s)) (hs : s ≤ E) : Pg E s (evy T E a s) := by
  unfold evy
  have := ha s hs
  revert this
  cases a s with
  | inl e => exact fun h => h
  | inr q =>
    intro h2
    obtain ⟨k1, k2, k3⟩ : s + q.1.length ≤ q.2 ∧ s < q.2 ∧ q.2 ≤ E := h2
    have := andL_g (T := T) ha E q.2 k3
    revert this
    show _ → Pg E s (pB (andL T E a E q.2) _)
    cases andL T E a E q.2 with
    | inl e => exact fun h => h
    | inr r =>
      intro h3
      obtain ⟨h4, h5, h6⟩ : q.2 + r.1.length ≤ r.2 ∧ q.2 ≤ r.2 ∧ r.2 ≤ E := h3
      refine ⟨?_, ?_, h6⟩
      · simp only [List.length_append]; omega
      · show s < r.2; omega
theorem orL_g (ha : ∀ s, s ≤ E → Pg E s (a s)) : ∀ f s, s ≤ E → Pg0 E s (orL T E a f s)
  | 0, s, hs => ⟨by simp, Nat.le_refl s, hs⟩
  | f + 1, s, hs => by
    unfold orL
    split
    · rename_i c
      have h1 := adv_gt (T := T) (isW_lt c)
      have := evy_g (T := T) ha (adv_le (T := T) hs)
      revert this
      cases evy T E a (adv T E s) with
      | inl e => exact fun h => h
      | inr q =>
        intro h2
        obtain ⟨k1, k2, k3⟩ : adv T E s + q.1.length ≤ q.2 ∧ adv T E s < q.2 ∧ q.2 ≤ E := h2
        have := orL_g ha f q.2 k3
        revert this
        show _ → Pg0 E s (pB (orL T E a f q.2) _)
        cases orL T E a f q.2 with
        | inl e => exact fun h => h
        | inr r =>
          intro h3
          obtain ⟨h4, h5, h6⟩ : q.2 + r.1.length ≤ r.2 ∧ q.2 ≤ r.2 ∧ r.2 ≤ E := h3
          refine ⟨?_, ?_, h6⟩
          · simp only [List.length_append, List.length_cons]; omega
          · show s ≤ r.2; omega
    · exact ⟨by simp, Nat.le_refl s, hs⟩
theorem smy_g (ha : ∀ s, s ≤ E → Pg E s (a s)) (hs : s ≤ E) : Pg E s (smy T E a s) := by
  unfold smy
  have := evy_g (T := T) ha hs
  revert this
  cases evy T E a s with
  | inl e => exact fun h => h
  | inr q =>
    intro h2
    obtain ⟨k1, k2, k3⟩ : s + q.1.length ≤ q.2 ∧ s < q.2 ∧ q.2 ≤ E := h2
    have := orL_g (T := T) ha E q.2 k3
    revert this
    show _ → Pg E s (pB (orL T E a E q.2) _)
    cases orL T E a E q.2 with
    | inl e => exact fun h => h
    | inr r =>
      intro h3
      obtain ⟨h4, h5, h6⟩ : q.2 + r.1.length ≤ r.2 ∧ q.2 ≤ r.2 ∧ r.2 ≤ E := h3
      refine ⟨?_, ?_, h6⟩
      · simp only [List.length_append]; omega
      · show s < r.2; omega
theorem pln_g (hs : s ≤ E) : Pg E s (pln T E s) := by
  unfold pln
  split
  · rename_i c
    have := adv_gt (T := T) (isW_lt c)
    exact ⟨this, this, adv_le hs⟩
  · split
    · rename_i c
      have := adv_gt (T := T) (isW_lt c)
      exact ⟨this, this, adv_le hs⟩
    · have := pSm_g (T := T) hs
      revert this
      cases pSm T E s with
      | inl e => exact fun h => h
      | inr q =>
        intro h2
        obtain ⟨k1, k2, k3⟩ : s + q.1.length ≤ q.2 ∧ s < q.2 ∧ q.2 ≤ E := h2
        show Pg E s (if isS T E q.2 (nI 60) = true then _ else _)
        split
        · rename_i c
          have h1 := adv_gt (T := T) (isS_lt c)
          have := pSm_g (T := T) (adv_le (T := T) k3)
          revert this
          cases pSm T E (adv T E q.2) with
          | inl e => exact fun h => h
          | inr r =>
            intro h3
            obtain ⟨h4, h5, h6⟩ : adv T E q.2 + r.1.length ≤ r.2 ∧ adv T E q.2 < r.2 ∧ r.2 ≤ E := h3
            refine ⟨?_, ?_, h6⟩
            · simp only [List.length_append, List.length_cons, List.length_nil]; omega
            · show s < r.2; omega
        · split
          · rename_i c
            have h1 := adv_gt (T := T) (isS_lt c)
            have := pSm_g (T := T) (adv_le (T := T) k3)
            revert this
            cases pSm T E (adv T E q.2) with
            | inl e => exact fun h => h
            | inr r =>
              intro h3
              obtain ⟨h4, h5, h6⟩ : adv T E q.2 + r.1.length ≤ r.2 ∧ adv T E q.2 < r.2 ∧ r.2 ≤ E := h3
              refine ⟨?_, ?_, h6⟩
              · simp only [List.length_append, List.length_cons, List.length_nil]; omega
              · show s < r.2; omega
          · exact k3
theorem atm_g : ∀ r s, s ≤ E → Pg E s (atm T E r s)
  | 0, s, hs => by
    unfold atm
    split
    · exact hs
    · split
      · exact hs
      · exact pln_g hs
  | r + 1, s, hs => by
    unfold atm
    split
    · rename_i c
      have h1 := adv_gt (T := T) (isW_lt c)
      have := atm_g r (adv T E s) (adv_le hs)
      revert this
      cases atm T E r (adv T E s) with
      | inl e => exact fun h => h
      | inr q =>
        intro h2
        obtain ⟨k1, k2, k3⟩ : adv T E s + q.1.length ≤ q.2 ∧ adv T E s < q.2 ∧ q.2 ≤ E := h2
        refine ⟨?_, ?_, k3⟩
        · simp only [List.length_append, List.length_cons, List.length_nil]; omega
        · show s < q.2; omega
    · split
      · rename_i c
        have h1 := adv_gt (T := T) (isS_lt c)
        have := smy_g (T := T) (fun s hs => atm_g r s hs) (adv_le (T := T) hs)
        revert this
        cases smy T E (atm T E r) (adv T E s) with
        | inl e => exact fun h => h
        | inr q =>
          intro h2
          obtain ⟨k1, k2, k3⟩ : adv T E s + q.1.length ≤ q.2 ∧ adv T E s < q.2 ∧ q.2 ≤ E := h2
          show Pg E s (if isS T E q.2 (nI 41) = true then _ else _)
          split
          · rename_i c2
            have h5 := adv_gt (T := T) (isS_lt c2)
            exact ⟨show s + q.1.length ≤ adv T E q.2 by omega, show s < adv T E q.2 by omega, adv_le k3⟩
          · exact k3
      · exact pln_g hs
end
/-! the stack of codes -/
def jn (c x y : Int32) : Int32 := if c = -11 then x + y else if c = -12 then bI (x < y) else if c = -13 then bI (y < x) else if c = -14 then x &&& y else x ||| y
def stp (F : Nat → Int32) (c : Int32) (st : List Int32) : List Int32 := if c < 0 then (if nI 9 ≤ (-1) - c then (if c = -16 then (match st with
    | [] => []
    | x :: r => (nI 1 - x) :: r) else (match st with
    | y :: x :: r => jn c x y :: r
    | l => l)) else F (cN ((-1) - c)) :: st) else c :: st
def xs (F : Nat → Int32) : List Int32 → List Int32 → Option (List Int32)
  | [], st => some st
  | c :: cs, st => if st.length < 40 then xs F cs (stp F c st) else none
/-- codes that lay one value more, within so much room -/
def Evl (F : Nat → Int32) (cs : List Int32) (v : Int32) (m : Nat) : Prop := ∀ st : List Int32, st.length + m ≤ 40 → ∀ cs', xs F (cs ++ cs') st = xs F cs' (v :: st)
def vc (F : Nat → Int32) (c : Int32) : Int32 := if c < 0 then F (cN ((-1) - c)) else c
def isPc (c : Int32) : Prop := ¬ c < 0 ∨ ∃ k, k < 9 ∧ c = (-1) - nI k
section
variable {F : Nat → Int32} {cs cs' : List Int32} {v u : Int32} {m n : Nat}
theorem Evl.mo (h : Evl F cs v m) (e : m ≤ n) : Evl F cs v n := fun st hs => h st (by omega)
theorem m1k : ∀ k, k < 9 → ((-1) - nI k < 0 ∧ ¬ nI 9 ≤ (-1) - ((-1) - nI k)) ∧ cN ((-1) - ((-1) - nI k)) = k := by decide +kernel
theorem vc_k {k : Nat} (hk : k < 9) : vc F ((-1) - nI k) = F k := by
  unfold vc
  rw [if_pos (m1k k hk).1.1, (m1k k hk).2]
theorem Evl.pc {c : Int32} (hc : isPc c) : Evl F [c] (vc F c) 1 := by
  intro st hs cs'
  show xs F (c :: cs') st = _
  conv => lhs; unfold xs
  rw [if_pos (by omega)]
  congr 1
  unfold stp vc
  rcases hc with hc | ⟨k, hk, rfl⟩
  · rw [if_neg hc, if_neg hc]
  · have q := m1k k hk
    rw [if_pos q.1.1, if_neg q.1.2, if_pos q.1.1]
theorem opk : ∀ c : Int32, (c = -11 ∨ c = -12 ∨ c = -13 ∨ c = -14 ∨ c = -15) → c < 0 ∧ nI 9 ≤ (-1) - c ∧ ¬ c = -16 := by
  intro c h
  rcases h with rfl | rfl | rfl | rfl | rfl <;> decide
theorem Evl.bin {c1 c2 : List Int32} {op : Int32} (h1 : Evl F c1 v n) (h2 : Evl F c2 u m) (hm : m + 1 ≤ n) (hn : 3 ≤ n) (ho : op = -11 ∨ op = -12 ∨ op = -13 ∨ op = -14 ∨ op = -15) : Evl F (c1 ++ (c2 ++ [op])) (jn op v u) n := by
  intro st hs cs'
  rw [List.append_assoc, List.append_assoc, h1 st (by omega), h2 (v :: st) (by simp only [List.length_cons]; omega)]
  show xs F (op :: cs') (u :: v :: st) = _
  have q := opk op ho
  conv => lhs; unfold xs
  rw [if_pos (by simp only [List.length_cons]; omega)]
  congr 1
  unfold stp
  rw [if_pos q.1, if_pos q.2.1, if_neg q.2.2]
theorem Evl.nt (h : Evl F cs v m) (hm : 2 ≤ m) : Evl F (cs ++ [-16]) (nI 1 - v) m := by
  intro st hs cs'
  rw [List.append_assoc, h st hs]
  show xs F ((-16) :: cs') (v :: st) = _
  conv => lhs; unfold xs
  rw [if_pos (by simp only [List.length_cons]; omega)]
  rfl
end
