/-! MORE RULES: stores beside a dead local, loops, conditions -/
section
variable {z : ZE} {d n pc : Nat} {ls st r : List Value} {h : Hp}
theorem e_stw {i : Instr} {len k pc' : Nat} {v : Value} {ls' st' : List Value} (hf : zfetch n pc = some (i, len)) (hs : zsA z n pc i len ls st h = zstore ls (k + 1) v (fun l => zgo pc' l st' h)) (hb : Nat.blt (k + 1) ls.length = true) (hw : zisL (ls.getD k zu) = false) (hl : ls.set (k + 1) v = ls') : ev z d n pc ls st h = ev z d n pc' ls' st' h := ev_Ag hf (by
  rw [hs]
  unfold zstore zput
  rw [hb]
  dsimp only
  rw [hw]
  dsimp only
  rw [hl]
  rfl)
theorem evx_nil {e : Nat} (hh : zhh n = []) : evx z d n pc ls e h = some (.inr e, h) := by unfold evx; rw [hh]
theorem e_copyK {k a b sp dp c A B : Nat} (hf : zfetch n pc = some (.invokestatic k, 3)) (hm : zmr n k = some 1001) (ha : zK h a = 20) (hb : zK h b = 20) (hab : a ≠ b) (hA : zN h a = A) (hB : zN h b = B) (hl : (sp + c ≤ A ∧ dp + c ≤ B) ∧ A < 2147483648 ∧ B < 2147483648) (hr : r.length ≤ 4) : ev z d n pc ls (.int (nI c) :: .int (nI dp) :: .ref b :: .int (nI sp) :: .ref a :: r) h = ev z d n (pc + 3) ls r (zcpy h a sp b dp c) := by
  have h1 : sp < 2 ^ 31 := by omega
  have h2 : dp < 2 ^ 31 := by omega
  have h3 : c < 2 ^ 31 := by omega
  have := e_copy (z := z) (d := d) (ls := ls) (r := r) (a := a) (b := b) (sp := nI sp) (dp := nI dp) (c := nI c) hf hm ha hb hab ⟨nI_pos h1, nI_pos h2, nI_pos h3⟩ (by rw [nI_clamp h1, nI_clamp h3, hA]; omega) (by rw [nI_clamp h2, nI_clamp h3, hB]; omega) hr
  rw [nI_clamp h1, nI_clamp h2, nI_clamp h3] at this
  exact this
end
/-- loops -/
theorem lp {α : Type} {E : Nat → α} (n : Nat) (hs : ∀ k, k < n → E k = E (k + 1)) : E 0 = E n := by
  induction n with
  | zero => rfl
  | succ n ih => rw [ih (fun k hk => hs k (by omega))]; exact hs n (by omega)
theorem lpw {α W : Type} {E : Nat → W → α} {r : α} (n : Nat) (hs : ∀ k w, k < n → ∃ w', E k w = E (k + 1) w') (he : ∀ w, E n w = r) (w : W) : E 0 w = r := by
  have : ∀ j, j ≤ n → ∀ w, E (n - j) w = r := by
    intro j
    induction j with
    | zero => intro _ w; exact he w
    | succ j ih =>
      intro hj w
      obtain ⟨w', e⟩ := hs (n - (j + 1)) w (by omega)
      rw [e, show n - (j + 1) + 1 = n - j by omega]
      exact ih (by omega) w'
  have := this n (Nat.le_refl n) w
  rwa [Nat.sub_self] at this
/-- conditions as ints -/
theorem n1_0 : (nI 1 = 0) = False := by decide
theorem n0_0 : (nI 0 = 0) = True := by decide
theorem n0_1 : (nI 0 = nI 1) = False := by decide
theorem n1_1 : (nI 1 = 1) = True := by decide
theorem n0_01 : (nI 0 = 1) = False := by decide
def bI (c : Prop) [Decidable c] : Int32 := if c then nI 1 else nI 0
theorem bI_0 {c : Prop} [Decidable c] : (bI c = 0) = ¬ c := by unfold bI; split <;> simp [*, n1_0, n0_0]
theorem bI_n1 {c : Prop} [Decidable c] : (bI c = nI 1) = c := by unfold bI; split <;> simp [*, n0_1]
theorem bI_1 {c : Prop} [Decidable c] : (bI c = 1) = c := bI_n1
theorem bI_n0 {c : Prop} [Decidable c] : (bI c = nI 0) = ¬ c := bI_0
theorem bI_01 {c : Prop} [Decidable c] : bI c = 0 ∨ bI c = 1 := by
  unfold bI
  split
  · exact Or.inr rfl
  · exact Or.inl rfl
theorem bI_t {c : Prop} [Decidable c] (h : c) : bI c = nI 1 := if_pos h
theorem bI_f {c : Prop} [Decidable c] (h : ¬ c) : bI c = nI 0 := if_neg h
theorem zisL_u : zisL zu = false := rfl
theorem zisL_i {x : Int32} : zisL (.int x) = false := rfl
theorem zisL_r {x : Nat} : zisL (.ref x) = false := rfl
theorem tl_s {v : Value} {r : List Value} : (some v).toList ++ r = v :: r := rfl
theorem tl_n {r : List Value} : (none : Option Value).toList ++ r = r := rfl
theorem zbd_i {v : Option Value} {h2 : Hp} {F : Option Value → Hp → Option (zO × Hp)} {G : Nat → Hp → Option (zO × Hp)} : zbd (some (.inl v, h2)) F G = F v h2 := rfl
theorem zbd_e {x : Nat} {h2 : Hp} {F : Option Value → Hp → Option (zO × Hp)} {G : Nat → Hp → Option (zO × Hp)} : zbd (some (.inr x, h2)) F G = G x h2 := rfl
/-- the same skeleton with other ints -/
def hI (h : Hp) (f : Nat → Nat → Int32) : Hp := (zK h, zN h, f, zR h, zJ h, zT h, zC h, zS h)
theorem zwI_hI {h : Hp} {a j : Nat} {v : Int32} : zwI h a j v = hI h (zup (zI h) a j v) := rfl
theorem hI_hI {h : Hp} {f g : Nat → Nat → Int32} : hI (hI h f) g = hI h g := rfl
theorem zI_hI {h : Hp} {f : Nat → Nat → Int32} : zI (hI h f) = f := rfl
theorem zK_hI {h : Hp} {f : Nat → Nat → Int32} : zK (hI h f) = zK h := rfl
theorem hI_id {h : Hp} : hI h (zI h) = h := rfl
theorem RSk_hI {h : Hp} {f : Nat → Nat → Int32} {R : Nat} : RSk (hI h f) R = RSk h R := rfl
theorem RSk_wI {h : Hp} {a j : Nat} {v : Int32} {R : Nat} : RSk (zwI h a j v) R = RSk h R := rfl
theorem PSk_hI {h : Hp} {f : Nat → Nat → Int32} {p : Nat} : PSk (hI h f) p = PSk h p := rfl
theorem PSk_wI {h : Hp} {a j : Nat} {v : Int32} {p : Nat} : PSk (zwI h a j v) p = PSk h p := rfl
theorem zup_at {α : Type} {f : Nat → Nat → α} {a j : Nat} {v : α} : zup f a j v a j = v := if_pos ⟨rfl, rfl⟩
theorem zup_nt {α : Type} {f : Nat → Nat → α} {a j x y : Nat} {v : α} (h : ¬ (x = a ∧ y = j)) : zup f a j v x y = f x y := if_neg h
/-- indices that are known -/
theorem ix_n {k N : Nat} {f : Nat → Option (zO × Hp)} (hk : k < N) (hN : N < 2147483648) : ix (nI k) N f = f k := ix_at rfl hk hN
theorem zI_wa {h : Hp} {a j : Nat} {v : Int32} : zI (zwI h a j v) a j = v := if_pos ⟨rfl, rfl⟩
theorem zI_wj {h : Hp} {a j b k : Nat} {v : Int32} (e : k ≠ j) : zI (zwI h a j v) b k = zI h b k := if_neg (fun q => e q.2)
theorem zI_wb {h : Hp} {a j b k : Nat} {v : Int32} (e : b ≠ a) : zI (zwI h a j v) b k = zI h b k := if_neg (fun q => e q.1)
theorem e_getIv {z : ZE} {d n pc : Nat} {ls r : List Value} {h : Hp} {k c j a : Nat} {v : Int32} (hf : zfetch n pc = some (.getfield k, 3)) (hq : zfr n k = some (c, j)) (ht : ∀ v w : Value, (match zfty c j with
    | 2 => v
    | _ => w) = w) (hk : zK h a = c + 1) (hv : zI h a j = v) : ev z d n pc ls (.ref a :: r) h = ev z d n (pc + 3) ls (.int v :: r) h := by rw [← hv]; exact e_getI hf hq ht hk
theorem e_divV {z : ZE} {d n pc : Nat} {ls r : List Value} {h : Hp} {x y : Int32} (hf : zfetch n pc = some (.idiv, 1)) : ev z d n pc ls (.int y :: .int x :: r) h = if y = 0 then none else ev z d n (pc + 1) ls (.int (x / y) :: r) h := by
  by_cases hy : y = 0
  · rw [if_pos hy]
    exact ev_none_of hf (show (if y = 0 then none else zgo (pc + 1) ls (.int (x / y) :: r) h) = none from if_pos hy) rfl rfl
  · rw [if_neg hy]; exact e_div hf hy
theorem e_ldivV {z : ZE} {d n pc : Nat} {ls r : List Value} {h : Hp} {x y : Int64} (hf : zfetch n pc = some (.ldiv, 1)) : ev z d n pc ls (.long y :: .long x :: r) h = if y = 0 then none else ev z d n (pc + 1) ls (.long (x / y) :: r) h := by
  by_cases hy : y = 0
  · rw [if_pos hy]
    exact ev_none_of hf (show (if y = 0 then none else zgo (pc + 1) ls (.long (x / y) :: r) h) = none from if_pos hy) rfl rfl
  · rw [if_neg hy]; exact e_ldiv hf hy
