/-! TWO BOOLEAN FIELDS hold a boolean, whatever runs -/
def B15 (bb : Nat) (h : Hp) : Prop := ∀ a, bb ≤ a → zK h a = 11 → ∀ y, (y = 15 ∨ y = 16) → zI h a y = 0 ∨ zI h a y = 1
def GdB (bb : Nat) (o : Option zRes) : Prop := match o with
  | some (.inl q) => B15 bb q.2.2.2
  | some (.inr (.inl q)) => B15 bb q.2
  | some (.inr (.inr _)) => True
  | none => True
section
variable {bb : Nat} {z : ZE} {d n pc len k : Nat} {i : Instr} {ls st : List Value} {h : Hp} {x A B : Option zRes} {α : Type}
theorem gd_go {pc : Nat} {ls st : List Value} (hP : B15 bb h) : GdB bb (zgo pc ls st h) := hP
theorem gd_zl (g : GdB bb x) : GdB bb (zl len k x) := by
  unfold zl
  split
  · exact g
  · trivial
theorem gd_if {c : Prop} [Decidable c] (h1 : c → GdB bb A) (h2 : ¬ c → GdB bb B) : GdB bb (if c then A else B) := by
  by_cases c
  · rw [if_pos ‹_›]; exact h1 ‹_›
  · rw [if_neg ‹_›]; exact h2 ‹_›
theorem gd_op {o : Option α} {f : α → Option zRes} (g : ∀ a, GdB bb (f a)) : GdB bb (zop o f) := by
  unfold zop
  split
  · exact g _
  · trivial
theorem gd_ld {p : Value → Bool} {f : Value → Option zRes} (g : ∀ a, GdB bb (f a)) : GdB bb (zld ls k p f) := by
  unfold zld
  split
  · split
    · exact g _
    · trivial
  · trivial
theorem gd_st1 {p : Value → Bool} {f : Value → List Value → Option zRes} (g : ∀ a b, GdB bb (f a b)) : GdB bb (zst1 st p f) := by
  unfold zst1
  split
  · split
    · exact g _ _
    · trivial
  · trivial
theorem gd_store {v : Value} {f : List Value → Option zRes} (g : ∀ a, GdB bb (f a)) : GdB bb (zstore ls k v f) := by
  unfold zstore
  split
  · exact g _
  · trivial
theorem gd_1 {f : Int32 → List Value → Option zRes} (g : ∀ a b, GdB bb (f a b)) : GdB bb (z1 st f) := by
  unfold z1
  split
  · exact g _ _
  · trivial
theorem gd_2 {f : Int32 → Int32 → List Value → Option zRes} (g : ∀ a b c, GdB bb (f a b c)) : GdB bb (z2 st f) := by
  unfold z2
  split
  · exact g _ _ _
  · trivial
theorem gd_q1 {f : Int64 → List Value → Option zRes} (g : ∀ a b, GdB bb (f a b)) : GdB bb (zq1 st f) := by
  unfold zq1
  split
  · exact g _ _
  · trivial
theorem gd_q2 {f : Int64 → Int64 → List Value → Option zRes} (g : ∀ a b c, GdB bb (f a b c)) : GdB bb (zq2 st f) := by
  unfold zq2
  split
  · exact g _ _ _
  · trivial
theorem gd_j {off : Int} {f : Nat → Option zRes} (g : ∀ a, GdB bb (f a)) : GdB bb (zj pc off f) := by
  unfold zj
  split
  · exact g _
  · trivial
theorem gd_a1 {f : Nat → List Value → Option zRes} (g : ∀ a b, GdB bb (f a b)) : GdB bb (za1 st f) := by
  unfold za1
  split
  · exact g _ _
  · trivial
theorem gd_al {f : Nat → Int32 → List Value → Option zRes} (g : ∀ a b c, GdB bb (f a b c)) : GdB bb (zal st f) := by
  unfold zal
  split
  · exact g _ _ _
  · trivial
theorem gd_cnd {c : Jvm.ClassFile.Cond} {x y : Int32} (g1 : GdB bb A) (g2 : GdB bb B) : GdB bb (zcnd c x y A B) := by
  unfold zcnd
  split <;> (split <;> assumption)
theorem B15_w {a j : Nat} {v : Int32} (hP : B15 bb h) (hv : (zK h a ≠ 11 ∨ (j ≠ 15 ∧ j ≠ 16)) ∨ v = 0 ∨ v = 1) : B15 bb (zwI h a j v) := by
  intro b hl hb y hy
  by_cases c : b = a ∧ y = j
  · obtain ⟨rfl, rfl⟩ := c
    rw [zI_wa]
    rcases hv with (q | q) | q
    · exact absurd hb q
    · omega
    · exact q
  · have e : zI (zwI h a j v) b y = zI h b y := by
      show zup (zI h) a j v b y = _
      unfold zup
      exact if_neg c
    rw [e]
    exact hP b hl hb y hy
theorem B15_n {k n : Nat} (hP : B15 bb h) : B15 bb (znw h k n) := by
  intro b hl hb y hy
  by_cases c : b = zT h
  · left
    show (if b = zT h then 0 else zI h b y) = 0
    exact if_pos c
  · have e : zI (znw h k n) b y = zI h b y := if_neg c
    have e2 : zK (znw h k n) b = zK h b := if_neg c
    rw [e]
    exact hP b hl (by rw [← e2]; exact hb) y hy
theorem B15_c {a sp b dp n : Nat} (hP : B15 bb h) (hb : zK h b = 20) : B15 bb (zcpy h a sp b dp n) := by
  intro x hl hx y hy
  have hx' : zK h x = 11 := hx
  have e : zI (zcpy h a sp b dp n) x y = zI h x y := if_neg (fun q => by rw [q.1, hb] at hx'; cases hx')
  rw [e]
  exact hP x hl hx' y hy
theorem gd_zsA (hP : B15 bb h) : GdB bb (zsA z n pc i len ls st h) := by
  unfold zsA
  split
  all_goals repeat' first
    | exact hP
    | exact trivial
    | exact gd_go hP
    | apply gd_zl
    | (apply gd_if <;> intro _)
    | (apply gd_op; intro _)
    | (apply gd_ld; intro _)
    | (apply gd_st1; intro _ _)
    | (apply gd_store; intro _)
    | (apply gd_1; intro _ _)
    | (apply gd_2; intro _ _ _)
    | (apply gd_q1; intro _ _)
    | (apply gd_q2; intro _ _ _)
    | (apply gd_j; intro _)
    | apply gd_cnd
    | split
end
