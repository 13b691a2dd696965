/-! OWES, CLEARED, PIVOT in both -/
def dvA (P : Row) (nd i : Nat) : Bool := vld P i (inS P (nI 1) nd) && decide (P (45 + 12 * i + 11) = nI 0)
def dvT (P : Row) (nd : Nat) (x y c : Int32) (i : Nat) : Int32 := if dvA P nd i = true ∧ P (45 + 12 * i + 1) ≠ c ∧ P (45 + 12 * i + 2) ≠ c then (if P (45 + 12 * i + 1) = x ∧ P (45 + 12 * i + 2) = y then P (45 + 12 * i + 3) else if P (45 + 12 * i + 1) = y ∧ P (45 + 12 * i + 2) = x then -P (45 + 12 * i + 3) else nI 0) else nI 0
def smS (f : Nat → Int32) : Nat → Int32
  | 0 => nI 0
  | k + 1 => smS f k + f k
def mx0 (a : Int32) : Int32 := if a < nI 0 then nI 0 else a
def dvV (P : Row) (nd : Nat) (x y c : Int32) : Int32 := mx0 (smS (dvT P nd x y c) nd)
def dcT (P : Row) (nd : Nat) (x c : Int32) (i : Nat) : Int32 := if dvA P nd i = true ∧ (P (45 + 12 * i + 1) = x ∨ P (45 + 12 * i + 2) = x) ∧ ¬ (P (45 + 12 * i + 1) = c ∨ P (45 + 12 * i + 2) = c) then (if P (45 + 12 * i + 1) = x then P (45 + 12 * i + 3) else -P (45 + 12 * i + 3)) else nI 0
def dcV (P : Row) (np nd : Nat) (c : Int32) : Int32 := smS (fun x => mx0 (smS (dcT P nd (nI x) c) nd)) np
theorem smS_u {f : Nat → Int32} {k : Nat} : smS f (k + 1) = smS f k + f k := rfl
theorem smS_cg {f g : Nat → Int32} : ∀ n, (∀ k, k < n → f k = g k) → smS f n = smS g n
  | 0, _ => rfl
  | n + 1, e => by rw [smS_u, smS_u, smS_cg n (fun k hk => e k (by omega)), e n (by omega)]
theorem smS_z {f : Nat → Int32} : ∀ n, (∀ k, k < n → f k = nI 0) → smS f n = nI 0
  | 0, _ => rfl
  | n + 1, e => by rw [smS_u, smS_z n (fun k hk => e k (by omega)), e n (by omega)]; rfl
theorem smS_o {f : Nat → Int32} {j : Nat} : ∀ n, j < n → (∀ k, k < n → k ≠ j → f k = nI 0) → smS f n = f j
  | 0, h, _ => by omega
  | n + 1, h, e => by
    rw [smS_u]
    by_cases c : j = n
    · subst c
      rw [smS_z j (fun k hk => e k (by omega) (by omega)), n0_add]
    · rw [smS_o n (by omega) (fun k hk => e k (by omega)), e n (by omega) (fun q => c q.symm), add_n0]
theorem smS_p {f g : Nat → Int32} : ∀ n, smS (fun k => f k + g k) n = smS f n + smS g n
  | 0 => rfl
  | n + 1 => by
    rw [smS_u, smS_u, smS_u, smS_p n]
    grind
theorem smS_w {f : Nat → Nat → Int32} {m : Nat} : ∀ n, smS (fun o => smS (f o) m) n = smS (fun i => smS (fun o => f o i) n) m
  | 0 => (smS_z m (fun _ _ => rfl)).symm
  | n + 1 => by
    rw [smS_u, smS_w n, ← smS_p]
    exact smS_cg m (fun k _ => rfl)
theorem smS_n {f g : Nat → Int32} : ∀ n, (∀ k, k < n → f k = - g k) → smS f n = - smS g n
  | 0, _ => show nI 0 = -nI 0 by decide
  | n + 1, e => by
    rw [smS_u, smS_u, smS_n n (fun k hk => e k (by omega)), e n (by omega)]
    grind
theorem tI_add {a b : Int32} (h1 : -2147483648 ≤ a.toInt + b.toInt) (h2 : a.toInt + b.toInt ≤ 2147483647) : (a + b).toInt = a.toInt + b.toInt := by
  rw [Int32.toInt_add, Int.bmod_eq_of_le (by omega) (by omega)]
theorem tI_neg {a : Int32} (h1 : -2147483647 ≤ a.toInt) (h2 : a.toInt ≤ 2147483647) : (-a).toInt = -a.toInt := by
  rw [Int32.toInt_neg, Int.bmod_eq_of_le (by omega) (by omega)]
theorem smS_b {f : Nat → Int32} : ∀ n, n ≤ 8 → (∀ k, k < n → -99 ≤ (f k).toInt ∧ (f k).toInt ≤ 99) → -(99 * (n : Int)) ≤ (smS f n).toInt ∧ (smS f n).toInt ≤ 99 * n
  | 0, _, _ => by
    have : (smS f 0).toInt = 0 := show (nI 0).toInt = 0 by decide
    omega
  | n + 1, hn, e => by
    have ih := smS_b n (by omega) (fun k hk => e k (by omega))
    have e1 := e n (by omega)
    rw [smS_u, tI_add (by omega) (by omega)]
    omega
theorem mx0_s {a : Int32} (h1 : -2147483647 ≤ a.toInt) (h2 : a.toInt ≤ 2147483647) : mx0 a - mx0 (-a) = a := by
  have hn := tI_neg h1 h2
  have z0 : (nI 0).toInt = 0 := by decide
  unfold mx0
  by_cases c : a < nI 0
  · have c' := Int32.lt_iff_toInt_lt.mp c
    rw [if_pos c, if_neg (fun q => by have := Int32.lt_iff_toInt_lt.mp q; omega)]
    show (0 : Int32) - -a = a
    grind
  · by_cases c2 : -a < nI 0
    · rw [if_neg c, if_pos c2]
      show a - 0 = a
      grind
    · have e : a = 0 := Int32.toInt_inj.mp (by
        have q1 : ¬ a.toInt < 0 := fun q => c (Int32.lt_iff_toInt_lt.mpr (by omega))
        have q2 : ¬ (-a).toInt < 0 := fun q => c2 (Int32.lt_iff_toInt_lt.mpr (by omega))
        rw [Int32.toInt_zero]
        omega)
      subst e
      decide
section
variable {z : ZE} {d : Nat} {h h' g : Hp} {X R p : Nat} {S S1 : PSt} {K : Option Img} {A : List PSt} {tl : Nat} {T : Row} {ft : Int32} {ls : List LN} {Lo : Option Nat} {P : Row} {np ni nd m k : Nat} {as : List Value} {es : List Nat} {sp u v w b c : Int32}
theorem ok_i (ok : Ok (P, np, ni, nd)) {i : Nat} (hi : i < nd) : ∃ a b, a < np ∧ b < np ∧ a ≠ b ∧ P (45 + 12 * i + 1) = nI a ∧ P (45 + 12 * i + 2) = nI b ∧ ∃ s, s ≤ 99 ∧ P (45 + 12 * i + 3) = nI s := by
  obtain ⟨a, ha, e1⟩ := (ok.2.1 i hi).2.1
  obtain ⟨b, hb, e2⟩ := (ok.2.1 i hi).2.2.1
  have hn := (ok.2.2.1 i hi).2.2.2.2.2.2
  refine ⟨a, b, ha, hb, ?_, e1, e2, (ok.2.2.1 i hi).1⟩
  rintro rfl
  exact hn (e1.trans e2.symm)
theorem ok_11 (ok : Ok (P, np, ni, nd)) {i : Nat} (hi : i < nd) : (P (45 + 12 * i + 11) = nI 1) = ¬ (P (45 + 12 * i + 11) = nI 0) := by
  have q : P (45 + 12 * i + 11) = nI 0 ∨ P (45 + 12 * i + 11) = nI 1 := (ok.2.1 i hi).2.2.2.2.2
  rcases q with e | e <;> rw [e] <;> decide
theorem dvT_b (ok : Ok (P, np, ni, nd)) {i : Nat} (hi : i < nd) : -99 ≤ (dvT P nd u v c i).toInt ∧ (dvT P nd u v c i).toInt ≤ 99 := by
  obtain ⟨a, b, ha, hb, hab, e1, e2, s, hs, e3⟩ := ok_i ok hi
  have z0 : (nI 0).toInt = 0 := by decide
  have t3 : (P (45 + 12 * i + 3)).toInt = s := by rw [e3, nI_toInt (by omega)]
  have t4 := tI_neg (a := P (45 + 12 * i + 3)) (by omega) (by omega)
  unfold dvT
  split
  · split
    · omega
    · split <;> omega
  · omega
theorem dvT_n (ok : Ok (P, np, ni, nd)) (huv : u ≠ v) {i : Nat} : dvT P nd v u c i = - dvT P nd u v c i := by
  have z0 : - nI 0 = nI 0 := by decide
  unfold dvT
  by_cases k1 : dvA P nd i = true ∧ P (45 + 12 * i + 1) ≠ c ∧ P (45 + 12 * i + 2) ≠ c
  · rw [if_pos k1, if_pos k1]
    by_cases k2 : P (45 + 12 * i + 1) = v ∧ P (45 + 12 * i + 2) = u
    · rw [if_pos k2, if_neg (fun q => huv (q.1.symm.trans k2.1)), if_pos k2]
      grind
    · rw [if_neg k2, if_neg k2]
      by_cases k3 : P (45 + 12 * i + 1) = u ∧ P (45 + 12 * i + 2) = v
      · rw [if_pos k3, if_pos k3]
      · rw [if_neg k3, if_neg k3, z0]
  · rw [if_neg k1, if_neg k1, z0]
theorem dvV_s (ok : Ok (P, np, ni, nd)) (huv : u ≠ v) : dvV P nd u v c - dvV P nd v u c = smS (dvT P nd u v c) nd := by
  have h8 : nd ≤ 8 := ok.1.2.2.2.2.2
  have b := smS_b (f := dvT P nd u v c) nd h8 (fun k hk => dvT_b (u := u) (v := v) (c := c) ok hk)
  unfold dvV
  rw [smS_n nd (fun k _ => dvT_n ok huv (i := k)), mx0_s (by omega) (by omega)]
theorem dc_x (ok : Ok (P, np, ni, nd)) {x : Nat} (hx : x < np) : smS (fun o => if o = x then nI 0 else dvV P nd (nI x) (nI o) c - dvV P nd (nI o) (nI x) c) np = smS (dcT P nd (nI x) c) nd := by
  have h6 : np ≤ 6 := ok.1.2.2.2.1
  refine (smS_cg (g := fun o => smS (fun i => if o = x then nI 0 else dvT P nd (nI x) (nI o) c i) nd) np ?_).trans ?_
  · intro o ho
    by_cases q : o = x
    · simp only [if_pos q]
      exact (smS_z nd (fun _ _ => rfl)).symm
    · simp only [if_neg q]
      exact dvV_s ok (fun e => q ((nI_eq (by omega) (by omega)).mp e).symm)
  · rw [smS_w]
    refine smS_cg nd (fun i hi => ?_)
    obtain ⟨a, b, ha, hb, hab, e1, e2, -⟩ := ok_i ok hi
    have ne : ∀ {s t : Nat}, s < np → t < np → s ≠ t → nI s ≠ nI t := fun hs ht q e => q ((nI_eq (by omega) (by omega)).mp e)
    unfold dvT dcT
    by_cases k1 : dvA P nd i = true ∧ P (45 + 12 * i + 1) ≠ c ∧ P (45 + 12 * i + 2) ≠ c
    · simp only [if_pos k1]
      rw [e1, e2] at k1
      simp only [e1, e2]
      by_cases qa : a = x
      · subst qa
        rw [if_pos ⟨k1.1, Or.inl rfl, fun q => q.elim k1.2.1 k1.2.2⟩, if_pos rfl]
        rw [smS_o (j := b) np hb]
        · rw [if_neg (fun q => hab q.symm), if_pos ⟨rfl, rfl⟩]
        · intro o ho hob
          by_cases qo : o = a
          · rw [if_pos qo]
          · rw [if_neg qo, if_neg (fun q => ne hb ho (fun e => hob e.symm) q.2), if_neg (fun q => ne ha ho (fun e => qo e.symm) q.1)]
      · by_cases qb : b = x
        · subst qb
          rw [if_pos ⟨k1.1, Or.inr rfl, fun q => q.elim k1.2.1 k1.2.2⟩, if_neg (ne ha hb hab)]
          rw [smS_o (j := a) np ha]
          · rw [if_neg hab, if_neg (fun q => ne ha hb hab q.1), if_pos ⟨rfl, rfl⟩]
          · intro o ho hoa
            by_cases qo : o = b
            · rw [if_pos qo]
            · rw [if_neg qo, if_neg (fun q => ne ha hb hab q.1), if_neg (fun q => ne ha ho (fun e => hoa e.symm) q.1)]
        · rw [if_neg (fun q => q.2.1.elim (ne ha hx qa) (ne hb hx qb))]
          refine smS_z np (fun o ho => ?_)
          by_cases qo : o = x
          · rw [if_pos qo]
          · rw [if_neg qo, if_neg (fun q => ne ha hx qa q.1), if_neg (fun q => ne hb hx qb q.2)]
    · rw [if_neg (fun q => k1 ⟨q.1, fun e => q.2.2 (Or.inl e), fun e => q.2.2 (Or.inr e)⟩)]
      refine smS_z np (fun o ho => ?_)
      rw [if_neg k1]
      split <;> rfl
end
