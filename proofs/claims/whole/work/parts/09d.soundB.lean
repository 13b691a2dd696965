/-! SOUNDNESS: the heap -/
def zFty (c k : Nat) : FieldType := (parseFieldDescriptor (zFT c k).2.2.1).getD .int
/-- what the tables of fields keep -/
def zfok (c k : Nat) : Bool := decide ((zFT c k).1 = zcn c) && decide (parseFieldDescriptor (zFT c k).2.2.1 = some (zFty c k)) && (match zfty c k with
  | 2 => (match zFty c k with
    | .object _ => true
    | .array _ => true
    | _ => false)
  | 1 => decide (zFty c k = .boolean)
  | _ => decide (zFty c k = .int))
theorem zf_ok : ∀ c, c < 11 → ∀ k, k < znf c → zfok c k = true := by decide +kernel
theorem zf_ok11 : ∀ k, k < 2 → (zFT 11 k).1 = "java/lang/String" := by decide +kernel
theorem zf_nm : ∀ c, c < 11 → ∀ a, a < znf c → ∀ b, b < znf c → a ≠ b → (zFT c a).2.1 ≠ (zFT c b).2.1 := by decide +kernel
theorem zfd_r : ∀ o, o < 20 → ∀ q ∈ zfd.getD o [], q.2.1 < 12 ∧ q.2.2 < znf q.2.1 := by decide +kernel
theorem zfd_l : zfd.length = 20 := by decide +kernel
theorem zfd_rng {o k : Nat} {q : Nat × Nat} (h : zlk k (zfd.getD o []) = some q) : q.1 < 12 ∧ q.2 < znf q.1 := by
  rcases Nat.lt_or_ge o 20 with ho | ho
  · exact zfd_r o ho (k, q) (zlk_mem h)
  · rw [show zfd.getD o [] = [] by rw [List.getD_eq_getElem?_getD, List.getElem?_eq_none (by rw [zfd_l]; exact ho)]; rfl] at h; cases h
theorem zcx_at {c : Nat} (hc : c < 11) : zcx[c]? = some (zcn c, zFT c, znf c) := by
  unfold zcx
  rw [List.getElem?_map, List.getElem?_range hc]; rfl
theorem zcl_u {c : Nat} (hc : c < 11) : ∀ w ∈ u_ws (zcn c) (zFT c) (znf c), w ∈ zgw := fun w hw => zcl_w c hc w (List.mem_append_right _ hw)
theorem znf11 : znf 11 = 2 := by decide +kernel
/-- a cell that nothing touched -/
theorem zRa.same {D : va_G} {dT : Nat → ClassId} {B0 : Nat} {h h' : Hp} {H H' : Heap} {a : Nat} (hh : H'[a]? = H[a]?) (h1 : zK h' a = zK h a) (h2 : zN h' a = zN h a) (h3 : ∀ j, zI h' a j = zI h a j) (h4 : ∀ j, zR h' a j = zR h a j) (h5 : ∀ j, zJ h' a j = zJ h a j) (r : zRa D dT B0 h H a) : zRa D dT B0 h' H' a := by
  have e1 : ∀ c, zval h' c a = zval h c a := fun c => by funext k; unfold zval; rw [h3, h4]
  have e2 : ∀ k, zavk k h' a = zavk k h a := fun k => by funext j; unfold zavk; rw [h3, h4, h5]
  obtain ⟨r1, r2, r3, r4, r5⟩ := r
  refine ⟨?_, ?_, ?_, ?_, ?_⟩
  · rw [h1]; intro c hc hl; rw [e1]; exact (r1 c hc hl).kept hh
  · rw [h1]; intro hk; obtain ⟨cell, q1, q2⟩ := r2 hk; exact ⟨cell, by rw [hh]; exact q1, by rw [e1]; exact q2⟩
  · rw [h1, h2, hh, e2]; exact r3
  · rw [h1]; intro k1 k2; obtain ⟨cell, q1, q2, q2b, q3, q4, q5, q6⟩ := r4 k1 k2
    exact ⟨cell, by rw [hh]; exact q1, q2, q2b, q3, q4, by rw [h2]; exact q5, by rw [h2]; intro j hj; rw [h3]; exact q6 j hj⟩
  · rw [h1]; exact r5
/-- one cell is written -/
theorem zRep.put {D : va_G} {dT : Nat → ClassId} {B0 : Nat} {h h' : Hp} {H H' : Heap} {a : Nat} (r : zRep D dT B0 h H) (hz : H'.size = H.size) (ho : ∀ q : Nat, q ≠ a → H'[q]? = H[q]?) (k0 : zT h' = zT h) (k1 : ∀ x, zK h' x = zK h x) (k2 : ∀ x, zN h' x = zN h x) (k3 : ∀ x j, x ≠ a → zI h' x j = zI h x j) (k4 : ∀ x j, x ≠ a → zR h' x j = zR h x j) (k5 : ∀ x j, x ≠ a → zJ h' x j = zJ h x j) (hw : zRa D dT B0 h' H' a) : zRep D dT B0 h' H' := by
  obtain ⟨r1, r2, r3, r4⟩ := r
  refine ⟨by rw [k0, hz]; exact r1, by rw [hz]; exact r2, fun x hx => by rw [k1]; exact r3 x (by rw [← hz]; exact hx), fun x => ?_⟩
  by_cases hx : x = a
  · rw [hx]; exact hw
  · exact (r4 x).same (ho x hx) (k1 x) (k2 x) (fun j => k3 x j hx) (fun j => k4 x j hx) (fun j => k5 x j hx)
theorem zup_same {α : Type} (f : Nat → Nat → α) (a j : Nat) (v : α) : zup f a j v a j = v := if_pos ⟨rfl, rfl⟩
theorem zup_ne {α : Type} (f : Nat → Nat → α) {a j x y : Nat} (v : α) (h : x ≠ a ∨ y ≠ j) : zup f a j v x y = f x y := if_neg (fun e => h.elim (fun h => h e.1) (fun h => h e.2))
/-- a field of an object is written -/
theorem zRep.obj {D : va_G} {dT : Nat → ClassId} {B0 : Nat} {h h' : Hp} {H H' : Heap} {a c k : Nat} {cell : Cell} {v : Value} (r : zRep D dT B0 h H) (hk : zK h a = c + 1) (hc : c < 11) (hkn : k < znf c) (hcell : H[a]? = some cell) (hap : ∀ x y, x < znf c → y < znf c → x ≠ y → D.2 c x ≠ D.2 c y)
    (h1 : H'[a]? = some (cell.setSlot (D.2 c k) v)) (hz : H'.size = H.size) (ho : ∀ q : Nat, q ≠ a → H'[q]? = H[q]?) (k0 : zT h' = zT h) (k1 : ∀ x, zK h' x = zK h x) (k2 : ∀ x, zN h' x = zN h x) (k3 : ∀ x j, x ≠ a ∨ j ≠ k → zI h' x j = zI h x j) (k4 : ∀ x j, x ≠ a ∨ j ≠ k → zR h' x j = zR h x j) (k5 : ∀ x j, x ≠ a ∨ j ≠ k → zJ h' x j = zJ h x j) (hv : zval h' c a k = v) : zRep D dT B0 h' H' := by
  refine r.put hz ho k0 k1 k2 (fun x j e => k3 x j (Or.inl e)) (fun x j e => k4 x j (Or.inl e)) (fun x j e => k5 x j (Or.inl e)) ?_
  obtain ⟨r1, r2, r3, r4, r5⟩ := r.2.2.2 a
  obtain ⟨cell', q1, q2, q3, q4⟩ := r1 c hk hc
  obtain rfl : cell' = cell := Option.some.inj (q1.symm.trans hcell)
  refine ⟨?_, ?_, ?_, ?_, ?_⟩
  · rw [k1]; intro c' hc' hl'
    obtain rfl : c' = c := by omega
    refine t_OB.to (V := updV (zval h c' a) k v) ⟨_, h1, q2, q3, t_set q4 hap hkn v⟩ (fun j hj => ?_)
    unfold updV
    by_cases e : j = k
    · rw [if_pos e, e]; exact hv.symm
    · rw [if_neg e]; unfold zval; rw [k3 a j (Or.inr e), k4 a j (Or.inr e)]
  · rw [k1]; intro e; omega
  · rw [k1]; intro e; omega
  · rw [k1]; intro e; omega
  · rw [k1]; exact r5
/-- an element of an array is written -/
theorem zRep.arr {D : va_G} {dT : Nat → ClassId} {B0 : Nat} {h h' : Hp} {H H' : Heap} {a j : Nat} {v : Value} (r : zRep D dT B0 h H) (hk1 : 20 ≤ zK h a) (hk2 : zK h a ≤ 26)
    (h1 : H'[a]? = some ((arrV (dT (zK h a)) (zN h a) (zavk (zK h a) h a)).setSlot j v)) (hz : H'.size = H.size) (ho : ∀ q : Nat, q ≠ a → H'[q]? = H[q]?) (k0 : zT h' = zT h) (k1 : ∀ x, zK h' x = zK h x) (k2 : ∀ x, zN h' x = zN h x) (k3 : ∀ x y, x ≠ a ∨ y ≠ j → zI h' x y = zI h x y) (k4 : ∀ x y, x ≠ a ∨ y ≠ j → zR h' x y = zR h x y) (k5 : ∀ x y, x ≠ a ∨ y ≠ j → zJ h' x y = zJ h x y) (hv : zavk (zK h a) h' a j = v) : zRep D dT B0 h' H' := by
  refine r.put hz ho k0 k1 k2 (fun x y e => k3 x y (Or.inl e)) (fun x y e => k4 x y (Or.inl e)) (fun x y e => k5 x y (Or.inl e)) ?_
  obtain ⟨r1, r2, r3, r4, r5⟩ := r.2.2.2 a
  refine ⟨?_, ?_, ?_, ?_, ?_⟩
  · rw [k1]; intro c' hc' hl'; omega
  · rw [k1]; intro e; omega
  · rw [k1, k2]; intro _ _
    rw [h1, arrV_store]
    congr 2
    funext y
    unfold updV
    by_cases e : y = j
    · rw [if_pos e, e]; exact hv.symm
    · rw [if_neg e]; unfold zavk; rw [k3 a y (Or.inr e), k4 a y (Or.inr e), k5 a y (Or.inr e)]
  · rw [k1]; intro e; omega
  · rw [k1]; exact r5
/-- a new cell -/
theorem zRep.new {D : va_G} {dT : Nat → ClassId} {B0 : Nat} {h : Hp} {H H' : Heap} {kd nn : Nat} (r : zRep D dT B0 h H) (hz : H'.size = H.size + 1) (ho : ∀ q : Nat, q < H.size → H'[q]? = H[q]?) (hw : zRa D dT B0 (znw h kd nn) H' H.size) : zRep D dT B0 (znw h kd nn) H' := by
  obtain ⟨r1, r2, r3, r4⟩ := r
  refine ⟨by rw [hz, ← r1]; rfl, by omega, fun x hx => ?_, fun x => ?_⟩
  · show (if x = zT h then kd else zK h x) = 0
    rw [if_neg (by omega)]; exact r3 x (by omega)
  · rcases Nat.lt_trichotomy x H.size with hx | hx | hx
    · refine (r4 x).same (ho x hx) ?_ ?_ ?_ ?_ ?_ <;> intros <;> exact if_neg (by omega)
    · rw [hx]; exact hw
    · have e0 : zK (znw h kd nn) x = 0 := by
        show (if x = zT h then kd else zK h x) = 0
        rw [if_neg (by omega)]; exact r3 x (by omega)
      refine ⟨?_, ?_, ?_, ?_, ?_⟩
      · rw [e0]; intro c hc; omega
      · rw [e0]; intro e; omega
      · rw [e0]; intro e; omega
      · rw [e0]; intro e; omega
      · rw [e0]; intro e; exact absurd rfl e
theorem zref_nf {ty : FieldType} (h : (match ty with
    | .object _ => true
    | .array _ => true
    | _ => false) = true) (v : Value) (hv : v = .null ∨ ∃ a, v = .ref a) : narrow ty v = v ∧ fits ty v = true := by
  rcases hv with rfl | ⟨a, rfl⟩ <;> cases ty <;> first | exact ⟨rfl, rfl⟩ | cases h
theorem zbool_nf {v : Int32} (h : v = 0 ∨ v = 1) : narrow .boolean (.int v) = .int v ∧ fits .boolean (.int v) = true := by
  rcases h with rfl | rfl <;> exact ⟨rfl, rfl⟩
