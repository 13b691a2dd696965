/-! THE START: the toy heap -/
theorem zstr_of {own : String} {k : Nat} {bs : List Nat} {args : Array Value} {s : State} {A : Nat → Prop} (hlen : bs.length < 2 ^ 31) (h : ∀ w ∈ zsat own k bs, w.before args s = true) (hA : ∀ a : Nat, a < s.heap.size → ¬ A a) :
    ∃ a t : Nat, (Term.string own k).eval args s none [] s = some (.ref a) ∧ va_O "java/lang/String" a A s s.heap ∧ va_OF "java/lang/String" "coder" "B" (.int 0) a A s s.heap ∧ va_OF "java/lang/String" "value" "[B" (.ref t) a A s s.heap ∧ va_T .byte t bs.length (fun j => .int (Int32.ofNat (bs.getD j 0))) A s s.heap := by
  have hm : ∀ w, w ∈ [Cond.exactly (.string own k) "java/lang/String", .eq (zsf own k "coder" "B") (.int 0), .arrayOf (zsf own k "value" "[B") .byte, .eq (.length (zsf own k "value" "[B")) (.int (Int32.ofNat bs.length))] → w.before args s = true := fun w hw => h w (List.mem_append_left _ hw)
  obtain ⟨adK, adV, hS, hev⟩ := vk_Sof (args := args) (s := s) (N := 1) (tm := fun _ => .string own k) (len := [bs.length]) (byt := [bs.map Int32.ofNat]) (A := A)
    (fun i hi => by obtain rfl : i = 0 := by omega
                    exact hlen)
    (fun i hi => hm _ (by simp)) (fun i hi => hm _ (by simp)) (fun i hi => hm _ (by simp))
    (fun i hi => by obtain rfl : i = 0 := by omega
                    exact hm _ (by simp))
    (fun i hi j hj => by
      obtain rfl : i = 0 := by omega
      have hj' : j < bs.length := hj
      have e : (([bs.map Int32.ofNat] : List (List Int32)).getD 0 []).getD j 0 = Int32.ofNat (bs.getD j 0) := by
        show (bs.map Int32.ofNat).getD j 0 = _
        rw [List.getD_eq_getElem?_getD, List.getD_eq_getElem?_getD, List.getElem?_map, List.getElem?_eq_getElem hj']
        rfl
      rw [e]
      exact h _ (List.mem_append_right _ (List.mem_map.mpr ⟨j, List.mem_range.mpr hj', rfl⟩)))
    (fun i j hi hj hne => absurd (by omega) hne) hA
  obtain ⟨g1, g2, g3, g4⟩ := hS.1 0 (by omega)
  refine ⟨adK 0, adV 0, hev 0 (by omega), g1, g2, g3, ?_⟩
  obtain ⟨cell, c1, c2, c3, c4, c5, c6, c7⟩ := g4
  refine ⟨cell, c1, c2, c3, c4, c5, fun j hj => ?_, c7⟩
  have h6 := c6 j hj
  have e : (([bs.map Int32.ofNat] : List (List Int32)).getD 0 []).getD j 0 = Int32.ofNat (bs.getD j 0) := by
    show (bs.map Int32.ofNat).getD j 0 = _
    rw [List.getD_eq_getElem?_getD, List.getD_eq_getElem?_getD, List.getElem?_map, List.getElem?_eq_getElem hj]
    rfl
  exact h6.trans (congrArg (fun x => some (Value.int x)) e)
theorem ztx_len : ∀ q, q < 65 → (ztx.getD q []).length ≤ 20 := by decide +kernel
/-- numbers of old cells -/
def zsl (c : Option Cell) (j : Nat) : Value := match c with
  | some ce => (match ce.slots[j]? with
    | some v => v
    | none => .null)
  | none => .null
def zvi : Value → Int32
  | .int x => x
  | _ => 0
def zvr : Value → Option Nat
  | .ref a => some a
  | _ => none
def zisS (f : Nat → Nat) (a : Nat) : Bool := (List.range 65).any (fun q => Nat.beq (f q) a)
theorem zisS_iff {f : Nat → Nat} {a : Nat} : zisS f a = true ↔ ∃ q, q < 65 ∧ f q = a := by
  unfold zisS
  rw [List.any_eq_true]
  constructor
  · rintro ⟨q, hq, he⟩; exact ⟨q, List.mem_range.mp hq, Nat.eq_of_beq_eq_true he⟩
  · rintro ⟨q, hq, he⟩; exact ⟨q, List.mem_range.mpr hq, by rw [he]; exact Nat.beq_refl a⟩
def zk0 (b : Nat) (f g : Nat → Nat) (a : Nat) : Nat := match Nat.beq a b with
  | true => 28
  | false => match zisS f a with
    | true => 12
    | false => match zisS g a with
      | true => 27
      | false => 0
/-- the start heap -/
def zh0 (b : Nat) (f g iS : Nat → Nat) (H : Heap) : Hp := (zk0 b f g, fun a => (match H[a]? with
  | some ce => ce.slots.size
  | none => 0), fun a j => zvi (zsl H[a]? (match zisS f a with
  | true => iS j
  | false => j)), fun a j => (match zisS f a with
  | true => zvr (zsl H[a]? (iS j))
  | false => none), fun _ _ => 0, H.size, 0, 0)
