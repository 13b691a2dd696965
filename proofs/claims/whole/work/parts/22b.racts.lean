/-! THE REFERENCE: what is put aside, remembered, undone, kept -/
def vH (h : Hp) (a : Nat) (f : Row) : Hp := hI h (fun x y => if x = a then f y else zI h x y)
def cp (P f : Row) (o k : Nat) : Row := fun y => if o ≤ y ∧ y < o + k then P (y - o) else f y
section
variable {z : ZE} {d : Nat} {h h' : Hp} {X R a o k : Nat} {S : PSt} {P f : Row} {K : Option Img} {A : List PSt} {tl : Nat} {T : Row} {ft : Int32}
theorem v_1 : zI (vH h a f) a = f := funext fun y => if_pos rfl
theorem v_o {x : Nat} (hx : x ≠ a) : zI (vH h a f) x = zI h x := funext fun y => if_neg hx
theorem v_w {v : Int32} : zwI (vH h a f) a k v = vH h a (up f k v) := by
  unfold vH
  simp only [zw_hI, hIhI, zIhI]
  refine hI_ext (fun x y => ?_)
  unfold zup up
  by_cases hx : x = a
  · subst hx
    by_cases hy : y = k
    · simp [hy]
    · simp [hy]
  · simp [hx]
theorem v_id : vH h a (zI h a) = h := by
  unfold vH
  conv => rhs; rw [← hI_id (h := h)]
  refine hI_ext (fun x y => ?_)
  by_cases c : x = a
  · rw [if_pos c, c]
  · rw [if_neg c]
theorem v_f {B : Nat → Prop} (ha : B a) : Fr B h (vH h a f) := ⟨⟨rfl, rfl, rfl, rfl, rfl, rfl⟩, fun x hx => v_o (fun e => hx (by rw [e]; exact ha)), fun _ _ _ => rfl⟩
theorem vr (hR : RSk h R) : RSk (vH h a f) R := hR
theorem mv : mH h R P = vH h (R + 1) P := rfl
theorem cpy_0 : cp P f o 0 = f := funext fun y => if_neg (by omega)
theorem cpy_s : up (cp P f o k) (o + k) (P k) = cp P f o (k + 1) := by
  refine up_cg (fun i => ?_)
  unfold up cp
  by_cases c : i = o + k
  · rw [if_pos c, if_pos (by omega), c, Nat.add_sub_cancel_left]
  · rw [if_neg c]
    by_cases c2 : o ≤ i ∧ i < o + k
    · rw [if_pos c2, if_pos (by omega)]
    · rw [if_neg c2, if_neg (by omega)]
theorem T_M_putsAside (hR : RSk h R) : ev z d 211 0 [.ref R, zu] [] h = some (.inl none, vH h (R + 3) (cp (zI h (R + 1)) (zI h (R + 3)) 0 381)) := by
  rw [S_M_putsAside_0]
  have e0 : h = vH h (R + 3) (cp (zI h (R + 1)) (zI h (R + 3)) 0 0) := by rw [cpy_0, v_id]
  conv => lhs; rw [e0]
  refine (lp (E := fun k => ev z d 211 2 [.ref R, .int (nI k)] [] (vH h (R + 3) (cp (zI h (R + 1)) (zI h (R + 3)) 0 k))) 381 ?_).trans ?_
  · intro k hk
    have := cpy_s (P := zI h (R + 1)) (f := zI h (R + 3)) (o := 0) (k := k)
    rw [Nat.zero_add] at this
    rw [S_M_putsAside_2 (vr hR), if_neg (nI_ge hk (by decide)), ix_n (by omega) (by decide), ix_n hk (by decide), v_o (by omega), v_w, this, nI_add]
  · rw [S_M_putsAside_2 (vr hR), if_pos (by decide)]
theorem T_M_comesBack (hR : RSk h R) : ev z d 212 0 [.ref R, zu] [] h = some (.inl none, vH h (R + 1) (cp (zI h (R + 3)) (zI h (R + 1)) 0 381)) := by
  rw [S_M_comesBack_0]
  have e0 : h = vH h (R + 1) (cp (zI h (R + 3)) (zI h (R + 1)) 0 0) := by rw [cpy_0, v_id]
  conv => lhs; rw [e0]
  refine (lp (E := fun k => ev z d 212 2 [.ref R, .int (nI k)] [] (vH h (R + 1) (cp (zI h (R + 3)) (zI h (R + 1)) 0 k))) 381 ?_).trans ?_
  · intro k hk
    have := cpy_s (P := zI h (R + 3)) (f := zI h (R + 1)) (o := 0) (k := k)
    rw [Nat.zero_add] at this
    rw [S_M_comesBack_2 (vr hR), if_neg (nI_ge hk (by decide)), ix_n hk (by decide), ix_n (by omega) (by decide), v_o (by omega), v_w, this, nI_add]
  · rw [S_M_comesBack_2 (vr hR), if_pos (by decide)]
/-- put aside, something done, brought back: the row is as it was -/
theorem aside_row {Q : Row} (hQ : ∀ i, 381 ≤ i → Q i = P i) : cp (cp P f 0 381) Q 0 381 = P := by
  refine up_cg (fun i => ?_)
  unfold cp
  by_cases c : 0 ≤ i ∧ i < 0 + 381
  · rw [if_pos c, if_pos (by omega)]
    rfl
  · rw [if_neg c]; exact hQ i (by omega)
/-- remembering -/
def rmA (S : PSt) (A : List PSt) : List PSt := S :: A.take 11
def shA (f : Row) (k : Nat) : Row := fun y => if y < k then f (y + 381) else f y
theorem shA_s : up (shA f k) k (shA f k (k + 381)) = shA f (k + 1) := by
  refine up_cg (fun i => ?_)
  unfold up shA
  by_cases c : i = k
  · rw [if_pos c, if_neg (by omega), if_pos (by omega), c]
  · rw [if_neg c]
    by_cases c2 : i < k
    · rw [if_pos c2, if_pos (by omega)]
    · rw [if_neg c2, if_neg (by omega)]
theorem shA_0 : shA f 0 = f := funext fun y => if_neg (by omega)
theorem T_M_rem_s (hR : RSk h R) (h6 : zI h R 6 = nI 12) : ev z d 239 11 [.ref R, .int (nI 0)] [] h = ev z d 239 52 [.ref R, .int (nI 0)] [] (zwI (vH h (R + 4) (shA (zI h (R + 4)) 4191)) R 6 (nI 11)) := by
  have e0 : h = vH h (R + 4) (shA (zI h (R + 4)) 0) := by rw [shA_0, v_id]
  conv => lhs; rw [e0]
  refine (lp (E := fun k => ev z d 239 11 [.ref R, .int (nI k)] [] (vH h (R + 4) (shA (zI h (R + 4)) k))) 4191 ?_).trans ?_
  · intro k hk
    rw [S_M_remembers_11 (vr hR), if_neg (nI_ge hk (by decide)), nI_add, ix_n (by omega) (by decide), ix_n (by omega) (by decide), v_1, v_w, shA_s, nI_add]
  · rw [S_M_remembers_11 (vr hR), if_pos (by decide), v_o (by omega), h6, pk_sub (by decide)]
theorem T_M_rem_c (hR : RSk h R) {n : Nat} (hn : n < 12) (h6 : zI h R 6 = nI n) : ev z d 239 52 [.ref R, .int (nI 0)] [] h = some (.inl none, zwI (vH h (R + 4) (cp (zI h (R + 1)) (zI h (R + 4)) (381 * n) 381)) R 6 (nI (n + 1))) := by
  have e0 : h = vH h (R + 4) (cp (zI h (R + 1)) (zI h (R + 4)) (381 * n) 0) := by rw [cpy_0, v_id]
  conv => lhs; rw [e0]
  refine (lp (E := fun k => ev z d 239 52 [.ref R, .int (nI k)] [] (vH h (R + 4) (cp (zI h (R + 1)) (zI h (R + 4)) (381 * n) k))) 381 ?_).trans ?_
  · intro k hk
    rw [S_M_remembers_52 (vr hR), if_neg (nI_ge hk (by decide)), ix_n (by omega) (by decide), v_o (show R ≠ R + 4 by omega), h6, pk_mul, nI_add, ix_n (by omega) (by decide), v_o (by omega), v_w, cpy_s, nI_add]
  · rw [S_M_remembers_52 (vr hR), if_pos (by decide), v_o (by omega), h6, nI_add]
end
