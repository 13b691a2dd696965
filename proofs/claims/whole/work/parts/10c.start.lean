/-! THE START: the context holds -/
def R_law : String := "LateInksLaw"
def lw_P (b : Addr) (xs : List Int32) (args : Array Value) (s : State) : Prop := args = #[.ref b] ∧ s.IntsAt b xs ∧ xs.length ≤ 384 ∧ (Jvm.Cond.and given_1 narrow_1).before args s = true ∧ heapFits s = true
def lw_Q (_ : Array Value) (s : State) (o : Outcome) (t : State) : Prop := o = .returned (some (.int 1)) ∧ Framed s o t [] 600128 7301098
def lw_Z (below : List Frame) (a : Array Value) (s : State) : State → Prop := fun t => ∃ o, t.status = .running ∧ Ended t below o ∧ lw_Q a s o t
def lw_At (p : Program) (s : State) (m : MethodId) (meth : Method) (c : Code) (b L : Nat) (xs : Nat → Int32) : Prop :=
  p.tables.exec = Jvm.exec ∧ c.code = code ∧ meth.sig.returnType = ret ∧ c.maxLocals = 7 ∧ s.vm.findClass R_law = some m.cls ∧ (∀ w ∈ lw_tbl, w.before #[Value.ref b] s = true) ∧ va_X b L xs s s.heap ∧ b < s.heap.size ∧ meth.locks = false ∧ (Jvm.Cond.and given_1 narrow_1).before #[Value.ref b] s = true ∧ c.exceptionTable.toList = [] ∧ heapFits s = true
/-- what the start heap holds -/
def zF0 (z : ZE) (zv : Nat → Nat) (b L B0 : Nat) (xs : Nat → Int32) (h : Hp) : Prop :=
  zT h = B0 ∧ zC h = 0 ∧ zS h = 0 ∧ b < B0 ∧ zK h b = 28 ∧ zN h b = L ∧ (∀ j, j < L → zI h b j = xs j) ∧ (∀ a, B0 ≤ a → zK h a = 0) ∧
  ∀ q, q < 65 → z.1 q < B0 ∧ zv q < B0 ∧ zK h (z.1 q) = 12 ∧ zR h (z.1 q) 0 = some (zv q) ∧ zI h (z.1 q) 1 = 0 ∧ zK h (zv q) = 27 ∧ nI (zN h (zv q)) = nI (ztx.getD q []).length ∧ (ztx.getD q []).length ≤ zN h (zv q) ∧ ∀ j, j < (ztx.getD q []).length → zI h (zv q) j = nI ((ztx.getD q []).getD j 0)
theorem zso_zcs : ∀ o, o < 20 → ∀ q ∈ zcs.getD o [], q.2 < 65 ∧ zso.getD q.2 (0, 0) = (o, q.1) := by decide +kernel
theorem zcs_l : zcs.length = 20 := by decide +kernel
theorem zm351 : zmt.getD 351 zmt0 = (⟨"LateInksLaw", "law", "([I)Z"⟩, code, 7, some .boolean) := zm_351
theorem zng_m : ∀ w ∈ zng, w ∈ lw_tbl := zckA_ok _ _ zng_c
theorem zarr_cls {s : State} {cell : Cell} {ty : FieldType} (h : s.isArrayOf cell ty) : ArrOfT s cell.cls ty := by
  obtain ⟨-, kA, hk, hr⟩ := h
  exact fun n z => ⟨fun k e => (by cases e), kA, hk, hr⟩
theorem zsr_l (k : Nat) : zcs.getD k [] = [] ∨ k < 20 := by
  rcases Nat.lt_or_ge k 20 with ho | ho
  · right; exact ho
  · left; rw [List.getD_eq_getElem?_getD, List.getElem?_eq_none (by rw [zcs_l]; exact ho)]; rfl
theorem zfit_arr {s : State} {a i : Nat} {ce : Cell} {ty : FieldType} {v : Value} (hf : heapFits s = true) (hc : s.heap[a]? = some ce) (hA : s.isArrayOf ce ty) (hv : ce.slots[i]? = some v) : fits ty v = true := by
  obtain ⟨ha, rfl⟩ := Array.getElem?_eq_some_iff.mp hc
  have h1 := (Array.all_eq_true_iff_forall_mem.mp hf) _ (Array.getElem_mem ha)
  have hi : i < (s.heap[a]).slots.size := (Array.getElem?_eq_some_iff.mp hv).1
  have h2 := (List.all_eq_true.mp h1) i (List.mem_range.mpr hi)
  rw [hv] at h2
  obtain ⟨hns, kA, hk, comp, hkd⟩ := hA
  have h3 : s.fitsSlot (s.heap[a]).cls (s.heap[a]).vm i v = true := h2
  unfold State.fitsSlot at h3
  have e : s.slotType? (s.heap[a]).cls (s.heap[a]).vm i = some ty := by
    unfold State.slotType?
    rw [hk]
    show (match (s.heap[a]).vm with
      | .statics _ => kA.staticTypes[i]?
      | _ => match kA.kind with
        | .array _ type => some type
        | _ => kA.instanceTypes[i]?) = some ty
    rw [hkd]
    split
    · rename_i q e; exact absurd e (hns q)
    · rfl
  rw [e] at h3
  exact h3
set_option maxHeartbeats 4000000 in
theorem zstart {p : Program} {l : Launch} {s : State} {m : MethodId} {meth : Method} {c : Code} {b L : Nat} {xs : Nat → Int32} (hl : l.stackTraces = false) (hA : lw_At p s m meth c b L xs) :
    ∃ (D : va_G) (dT : Nat → ClassId) (z : ZE) (zv : Nat → Nat) (h : Hp), zCx D dT s.heap.size z p l room_1 s m #[Value.ref b] meth c 351 ∧ zRep D dT s.heap.size h s.heap ∧ zF0 z zv b L s.heap.size xs h := by
  obtain ⟨hx, hb, hr, hml, hown, hts, hX, hbl, hlocks, hgv, hxt, hfits⟩ := hA
  have hnar : narrow_1.before #[Value.ref b] s = true := by
    rw [Cond.before_and, Bool.and_eq_true] at hgv; exact hgv.2
  have hAp : ∀ a : Nat, a < s.heap.size → ¬ zAp s.heap.size a := fun a ha h => by have : s.heap.size ≤ a := h; omega
  -- texts
  have hstr : ∀ q, ∃ at1 : Nat × Nat, q < 65 → (Term.string (zcn (zso.getD q (0, 0)).1) (zso.getD q (0, 0)).2).eval #[Value.ref b] s none [] s = some (.ref at1.1) ∧ va_O "java/lang/String" at1.1 (zAp s.heap.size) s s.heap ∧ va_OF "java/lang/String" "coder" "B" (.int 0) at1.1 (zAp s.heap.size) s s.heap ∧ va_OF "java/lang/String" "value" "[B" (.ref at1.2) at1.1 (zAp s.heap.size) s s.heap ∧ va_T .byte at1.2 (ztx.getD q []).length (fun j => .int (Int32.ofNat ((ztx.getD q []).getD j 0))) (zAp s.heap.size) s s.heap := by
    intro q
    rcases Nat.lt_or_ge q 65 with hq | hq
    · obtain ⟨a, t, g⟩ := zstr_of (A := zAp s.heap.size) (by have := ztx_len q hq; omega) (zsp_w hnar q hq) hAp
      exact ⟨(a, t), fun _ => g⟩
    · exact ⟨(0, 0), fun h => by omega⟩
  obtain ⟨at1, hat⟩ := Classical.axiomOfChoice hstr
  -- own classes
  have hcls : ∀ k, ∃ ci : ClassId × (Nat → Nat), k < 11 → u_Kn s (zcn k) (zFT k) (znf k) ci.1 ci.2 := by
    intro k
    rcases Nat.lt_or_ge k 11 with hk | hk
    · have hts2 : ∀ w ∈ zgw, w.before #[Value.ref b] s = true := fun w hw => hts w (List.mem_filter.mp hw).1
      obtain ⟨cC, iS, g⟩ := u_known (n := znf k) hts2 (zcl_u hk) (hts2 _ (zcl_w k hk _ (List.mem_append_left _ List.mem_cons_self)))
      exact ⟨(cC, iS), fun _ => g⟩
    · exact ⟨(0, fun _ => 0), fun h => by omega⟩
  obtain ⟨dc, hdc⟩ := Classical.axiomOfChoice hcls
  -- String's fields
  obtain ⟨-, hO0, hC0, hV0, -⟩ := hat 0 (by omega)
  obtain ⟨cS, e1, e2, hfS, -⟩ := hO0
  obtain ⟨cfC, kC, iC, fC, cellC, hfC, hstC, -, -, -, -⟩ := hC0
  obtain ⟨cfV, kV, iV, fV, cellV, hfV, hstV, -, -, -, -⟩ := hV0
  -- arrays
  have hng : ∀ w ∈ zng, w.before #[Value.ref b] s = true := fun w hw => hts w (zng_m w hw)
  have harr : ∀ k, ∃ cA : ClassId, 20 ≤ k → k ≤ 26 → ArrOfT s cA (zty k) ∧ va_RA s cA (zty k) := by
    intro k
    rcases Nat.lt_or_ge k 20 with hk | hk
    · exact ⟨0, fun h => by omega⟩
    rcases Nat.lt_or_ge 26 k with hk2 | hk2
    · exact ⟨0, fun _ h => by omega⟩
    have hprim : ∀ ty : FieldType, (Cond.arrayClass ty).before #[Value.ref b] s = true → ∃ cA : ClassId, ArrOfT s cA ty ∧ s.vm.findClass ("[" ++ ty.toString) = some cA := by
      intro ty h
      obtain ⟨c1, k1, comp, g1, g2, g3⟩ := Cond.arrayClass_spec h
      exact ⟨c1, fun n z => ⟨fun k e => (by cases e), k1, g2, comp, g3⟩, g1⟩
    have hobj : ∀ C : String, (Cond.arrayOver (.object C)).before #[Value.ref b] s = true → ∃ cA : ClassId, ArrOfT s cA (.object C) ∧ va_RA s cA (.object C) := by
      intro C h
      obtain ⟨comp, c1, k1, g1, g2, g3, g4, g5⟩ := Cond.arrayOver_spec h
      exact ⟨c1, fun n z => ⟨fun k e => (by cases e), k1, g3, comp, g4⟩, k1, comp, g3, g4, g1, g5⟩
    rcases (show k = 20 ∨ k = 21 ∨ k = 22 ∨ k = 23 ∨ k = 24 ∨ k = 25 ∨ k = 26 by omega) with rfl | rfl | rfl | rfl | rfl | rfl | rfl
    · obtain ⟨cA, g1, g2⟩ := hprim .int (hng _ (by simp [zng])); exact ⟨cA, fun _ _ => ⟨g1, g2⟩⟩
    · obtain ⟨cA, g1, g2⟩ := hprim .boolean (hng _ (by simp [zng])); exact ⟨cA, fun _ _ => ⟨g1, g2⟩⟩
    · obtain ⟨cA, g1, g2⟩ := hobj "LateInks$Deed" (hng _ (by simp [zng])); exact ⟨cA, fun _ _ => ⟨g1, g2⟩⟩
    · obtain ⟨cA, g1, g2⟩ := hobj "LateInks$Ink" (hng _ (by simp [zng])); exact ⟨cA, fun _ _ => ⟨g1, g2⟩⟩
    · obtain ⟨cA, g1, g2⟩ := hobj "LateInks$Party" (hng _ (by simp [zng])); exact ⟨cA, fun _ _ => ⟨g1, g2⟩⟩
    · obtain ⟨cA, g1, g2⟩ := hobj "LateInks$Port" (hng _ (by simp [zng])); exact ⟨cA, fun _ _ => ⟨g1, g2⟩⟩
    · obtain ⟨cA, g1, g2⟩ := hprim .long (hng _ (by simp [zng])); exact ⟨cA, fun _ _ => ⟨g1, g2⟩⟩
  obtain ⟨da, hda⟩ := Classical.axiomOfChoice harr
  -- the static of Preconditions
  have hsio : ∃ zr : Option Nat, va_Z "jdk/internal/util/Preconditions" "SIOOBE_FORMATTER" "Ljava/util/function/BiFunction;" (zrv zr) (zAp s.heap.size) s s.heap := by
    rcases va_Zqof (hng (.laysStatic "jdk/internal/util/Preconditions" "SIOOBE_FORMATTER" "Ljava/util/function/BiFunction;") (by simp [zng])) (hng (.initialized "jdk/internal/util/Preconditions") (by simp [zng])) (zckP_ok hnar _ _ zpo_c (.isRef (.static "jdk/internal/util/Preconditions" "SIOOBE_FORMATTER" "Ljava/util/function/BiFunction;")) (by simp [zpo])) hAp with g | ⟨t, g⟩
    · exact ⟨none, g⟩
    · exact ⟨some t, g⟩
  obtain ⟨zr, hzr⟩ := hsio
  -- the script
  obtain ⟨scr, x1, x2, x3, x4, x5⟩ := hX
  -- names
  obtain ⟨f, hf⟩ : ∃ f : Nat → Nat, f = fun q => (at1 q).1 := ⟨_, rfl⟩
  obtain ⟨g, hg⟩ : ∃ g : Nat → Nat, g = fun q => (at1 q).2 := ⟨_, rfl⟩
  obtain ⟨iS, hiS⟩ : ∃ iS : Nat → Nat, iS = fun j => if j = 0 then fV.slot else fC.slot := ⟨_, rfl⟩
  obtain ⟨D, hD⟩ : ∃ D : va_G, D = (fun k => if k = 11 then cS.cls else (dc k).1, fun k => if k = 11 then iS else (dc k).2) := ⟨_, rfl⟩
  obtain ⟨dT, hdT⟩ : ∃ dT : Nat → ClassId, dT = fun k => if k < 100 then da k else if (k - 100) % 2 = 0 then (match s.heap[(k - 100) / 2]? with
    | some ce => ce.cls
    | none => 0) else zk0 b f g ((k - 100) / 2) := ⟨_, rfl⟩
  have hD1 : ∀ k, k < 11 → D.1 k = (dc k).1 ∧ D.2 k = (dc k).2 := fun k hk => by rw [hD]; exact ⟨if_neg (by omega), if_neg (by omega)⟩
  have hD11 : D.1 11 = cS.cls ∧ D.2 11 = iS := by rw [hD]; exact ⟨by simp, by simp⟩
  have hdT0 : ∀ k, k < 100 → dT k = da k := fun k hk => by rw [hdT]; exact if_pos hk
  have hdT1 : ∀ a ce, s.heap[a]? = some ce → dT (100 + 2 * a) = ce.cls := fun a ce he => by
    rw [hdT]
    show (if 100 + 2 * a < 100 then _ else _) = _
    rw [if_neg (by omega), if_pos (by omega), show (100 + 2 * a - 100) / 2 = a by omega, he]
  have hdT2 : ∀ a, dT (101 + 2 * a) = zk0 b f g a := fun a => by
    rw [hdT]
    show (if 101 + 2 * a < 100 then _ else _) = _
    rw [if_neg (by omega), if_neg (by omega), show (101 + 2 * a - 100) / 2 = a by omega]
  -- texts, cell by cell
  have hT1 : ∀ q, q < 65 → ∃ ce : Cell, s.heap[f q]? = some ce ∧ ce.vm.isStatics = false ∧ ce.vm ≠ .unknown ∧ ce.cls = cS.cls ∧ ce.slots[fV.slot]? = some (.ref (g q)) ∧ ce.slots[fC.slot]? = some (.int 0) := by
    intro q hq
    obtain ⟨-, ⟨c1, o1, o2, o3, -⟩, ⟨cf1, k1, i1, f1, c2, p1, p2, p3, p4, p5, -⟩, ⟨cf2, k2, i2, f2, c3, r1, r2, r3, r4, r5, -⟩, -⟩ := hat q hq
    obtain rfl : c1 = c2 := Option.some.inj (o1.symm.trans p3)
    obtain rfl : c1 = c3 := Option.some.inj (o1.symm.trans r3)
    have e1' : f1 = fC := by have := p1.symm.trans hfC; simp only [Option.some.injEq, Prod.mk.injEq] at this; exact this.2.2.2
    have e2' : f2 = fV := by have := r1.symm.trans hfV; simp only [Option.some.injEq, Prod.mk.injEq] at this; exact this.2.2.2
    refine ⟨c1, by rw [hf]; exact o1, o2, p4, Option.some.inj (o3.symm.trans hfS), ?_, ?_⟩
    · rw [← e2', hg]; exact r5
    · rw [← e1']; exact p5
  have hT2 : ∀ q, q < 65 → va_T .byte (g q) (ztx.getD q []).length (fun j => .int (Int32.ofNat ((ztx.getD q []).getD j 0))) (zAp s.heap.size) s s.heap := fun q hq => by rw [hg]; exact (hat q hq).2.2.2.2
  have hns : ∀ (a q : Nat) (ce : Cell) (ty : FieldType), q < 65 → s.heap[a]? = some ce → s.isArrayOf ce ty → fits ty (.ref (g q)) = false → f q ≠ a := by
    intro a q ce ty hq hc hA hfit e
    obtain ⟨c1, q1, -, -, -, q5, -⟩ := hT1 q hq
    rw [e] at q1
    obtain rfl : c1 = ce := Option.some.inj (q1.symm.trans hc)
    have := zfit_arr hfits hc hA q5
    rw [hfit] at this
    cases this
  have hbS : zisS f b = false := by
    cases hq : zisS f b with
    | false => rfl
    | true => obtain ⟨q, hq1, hq2⟩ := zisS_iff.mp hq; exact absurd hq2 (hns b q scr .int hq1 x1 x2 rfl)
  have hgS : ∀ q, q < 65 → zisS f (g q) = false := by
    intro q hq
    obtain ⟨ce, t1, t2, -⟩ := hT2 q hq
    cases hq' : zisS f (g q) with
    | false => rfl
    | true => obtain ⟨q2, hq1, hq2⟩ := zisS_iff.mp hq'; exact absurd hq2 (hns (g q) q2 ce .byte hq1 t1 t2 rfl)
  have hgb : ∀ q, q < 65 → g q ≠ b := by
    intro q hq e
    obtain ⟨ce, t1, t2, -⟩ := hT2 q hq
    rw [e] at t1
    obtain rfl : ce = scr := Option.some.inj (t1.symm.trans x1)
    obtain ⟨-, kA, hk, comp, hkd⟩ := t2
    obtain ⟨-, kB, hk2, comp2, hkd2⟩ := x2
    obtain rfl : kA = kB := Option.some.inj (hk.symm.trans hk2)
    rw [hkd] at hkd2
    injection hkd2 with _ e2
    cases e2
  have hbe : ∀ x y : Nat, x ≠ y → Nat.beq x y = false := fun x y h => by
    cases hq : Nat.beq x y with
    | false => rfl
    | true => exact absurd (Nat.eq_of_beq_eq_true hq) h
  have hkb : zk0 b f g b = 28 := by unfold zk0; rw [Nat.beq_refl]
  have hkf : ∀ q, q < 65 → zk0 b f g (f q) = 12 := by
    intro q hq
    have h1 : zisS f (f q) = true := zisS_iff.mpr ⟨q, hq, rfl⟩
    have h2 : f q ≠ b := fun e => by rw [e, hbS] at h1; cases h1
    unfold zk0; rw [hbe _ _ h2, h1]
  have hkg : ∀ q, q < 65 → zk0 b f g (g q) = 27 := by
    intro q hq
    unfold zk0; rw [hbe _ _ (hgb q hq), hgS q hq, zisS_iff.mpr ⟨q, hq, rfl⟩]
  have hkinv : ∀ a, zk0 b f g a = 28 ∧ a = b ∨ (zk0 b f g a = 12 ∧ ∃ q, q < 65 ∧ f q = a) ∨ (zk0 b f g a = 27 ∧ (∃ q, q < 65 ∧ g q = a)) ∨ zk0 b f g a = 0 := by
    intro a
    by_cases e : a = b
    · left; rw [e]; exact ⟨hkb, rfl⟩
    · right
      cases h1 : zisS f a with
      | true => left; obtain ⟨q, hq, rfl⟩ := zisS_iff.mp h1; exact ⟨hkf q hq, q, hq, rfl⟩
      | false =>
        right
        cases h2 : zisS g a with
        | true => left; obtain ⟨q, hq, rfl⟩ := zisS_iff.mp h2; exact ⟨hkg q hq, q, hq, rfl⟩
        | false => right; unfold zk0; rw [hbe _ _ e, h1, h2]
  have hkT : ∀ a, s.heap.size ≤ a → zk0 b f g a = 0 := by
    intro a ha
    rcases hkinv a with ⟨-, e⟩ | ⟨-, q, hq, e⟩ | ⟨-, q, hq, e⟩ | e
    · omega
    · obtain ⟨ce, q1, -⟩ := hT1 q hq
      have := (Array.getElem?_eq_some_iff.mp q1).1
      omega
    · obtain ⟨ce, q1, -⟩ := hT2 q hq
      have := (Array.getElem?_eq_some_iff.mp q1).1
      omega
    · exact e
  have hts2 : ∀ w ∈ zgw, w.before #[Value.ref b] s = true := fun w hw => hts w (List.mem_filter.mp hw).1
  refine ⟨D, dT, (f, zr), g, zh0 b f g iS s.heap, ?_, ?_, ?_⟩
  · refine ⟨hx, ?_, ?_, ?_, ?_, hts2, hlocks, ?_, ?_, ?_, hl, ?_⟩
    · unfold zcd; rw [zm351]; exact hb
    · unfold zmax; rw [zm351]; exact hml
    · unfold zret; rw [zm351]; exact hr
    · exact hown
    · intro hne; exact absurd (by decide +kernel) hne
    · refine ⟨?_, ?_, ?_, ?_, ?_, ?_⟩
      · intro k q hq
        have hk : k < 11 := by
          have := (List.getElem?_eq_some_iff.mp hq).1
          simpa [zcx] using this
        rw [zcx_at hk] at hq
        obtain rfl := Option.some.inj hq
        rw [(hD1 k hk).1, (hD1 k hk).2]
        exact hdc k hk
      · intro k h1 h2; rw [hdT0 k (by omega)]; exact (hda k h1 h2).1
      · intro k h1 h2; rw [hdT0 k (by omega)]; exact (hda k h1 h2).2
      · rw [hD11.1]; exact hfS
      · intro k hk
        rw [hD11.2, hiS]
        rcases (show k = 0 ∨ k = 1 by omega) with rfl | rfl
        · exact ⟨cfV, kV, iV, fV, hfV, hstV, rfl⟩
        · exact ⟨cfC, kC, iC, fC, hfC, hstC, rfl⟩
      · intro a
        rw [hdT2]
        rcases hkinv a with ⟨e1, e2⟩ | ⟨e1, -⟩ | ⟨e1, q, hq, rfl⟩ | e1
        · refine ⟨fun h => absurd (e1.symm.trans h) (by decide), fun _ => ?_⟩
          rw [e2, hdT1 b scr x1]
          exact zarr_cls x2
        · exact ⟨fun h => absurd (e1.symm.trans h) (by decide), fun h => absurd (e1.symm.trans h) (by decide)⟩
        · refine ⟨fun _ => ?_, fun h => absurd (e1.symm.trans h) (by decide)⟩
          obtain ⟨ce, t1, t2, -⟩ := hT2 q hq
          rw [hdT1 _ ce t1]
          exact zarr_cls t2
        · exact ⟨fun h => absurd (e1.symm.trans h) (by decide), fun h => absurd (e1.symm.trans h) (by decide)⟩
    · refine ⟨?_, ?_, ?_, hzr, ?_, ?_, ?_, ?_, ?_, ?_⟩
      · exact vx_Zqof (hng _ (by simp [zng])) (hng _ (by simp [zng])) (zckP_ok hnar _ _ zpo_c _ (by simp [zpo])) hAp
      · exact vx_Zqof (hng _ (by simp [zng])) (hng _ (by simp [zng])) (zckP_ok hnar _ _ zpo_c _ (by simp [zpo])) hAp
      · exact va_Zof (hng _ (by simp [zng])) (hng _ (by simp [zng])) (va_eqt (zckP_ok hnar _ _ zpo_c (.eq (.static "java/lang/String" "COMPACT_STRINGS" "Z") (.int 1)) (by simp [zpo]))) hAp
      · intro o k q hk
        rcases zsr_l o with ho | ho
        · rw [ho] at hk; cases hk
        · obtain ⟨hq, he⟩ := zso_zcs o ho (k, q) (zlk_mem hk)
          dsimp only at hq he
          have h1 := (hat q hq).1
          rw [he] at h1
          have h2 : Cond.stringRef (zcn o) k (zstx.getD q "") ∈ lw_tbl := by
            have := zckA_ok _ _ zsw_c (.stringRef (zcn (zso.getD q (0, 0)).1) (zso.getD q (0, 0)).2 (zstx.getD q "")) (List.mem_map.mpr ⟨q, List.mem_range.mpr hq, rfl⟩)
            rw [he] at this
            exact this
          exact ⟨_, vk_R.of (hts _ h2) (by rw [hf]; exact h1)⟩
      · intro x y hx5 hy5 hne
        refine va_Nc.of (zckP_ok hnar _ _ znc_c _ (List.mem_map.mpr ⟨(x, y), ?_, rfl⟩))
        rcases znc_all x hx5 y hy5 with e | e
        · exact absurd e hne
        · exact e
      · intro q hq
        exact va_Nw.of rfl (hts _ (zckA_ok _ _ znw_c _ (List.mem_map.mpr ⟨q, hq, rfl⟩)))
      · intro C hC
        simp only [List.mem_cons, List.not_mem_nil, or_false] at hC
        rcases hC with rfl | rfl | rfl | rfl <;> exact va_AO.of (hng _ (by simp [zng]))
      · intro Y hY
        simp only [List.mem_cons, List.not_mem_nil, or_false] at hY
        rcases hY with rfl | rfl | rfl <;> exact va_Nw.of rfl (hng _ (by simp [zng]))
      · intro x hx5
        rcases (show x = 0 ∨ x = 1 ∨ x = 2 ∨ x = 3 ∨ x = 4 by omega) with rfl | rfl | rfl | rfl | rfl <;> exact va_Nw.of rfl (hng _ (by simp [zng, zexn]))
    · rw [hxt]; rfl
  · refine ⟨rfl, Nat.le_refl _, hkT, fun a => ?_⟩
    have eK : zK (zh0 b f g iS s.heap) a = zk0 b f g a := rfl
    refine ⟨?_, ?_, ?_, ?_, ?_⟩
    · rw [eK]; intro c' hc' hl'
      rcases hkinv a with ⟨e, -⟩ | ⟨e, -⟩ | ⟨e, -⟩ | e <;> omega
    · rw [eK]; intro e12
      rcases hkinv a with ⟨e, -⟩ | ⟨e, q, hq, rfl⟩ | ⟨e, -⟩ | e
      · omega
      · obtain ⟨ce, q1, q2, q3, q4, q5, q6⟩ := hT1 q hq
        have hs1 : zisS f (f q) = true := zisS_iff.mpr ⟨q, hq, rfl⟩
        refine ⟨ce, q1, q2, q3, by rw [hD11.1]; exact q4, fun k hk => ?_⟩
        rw [hD11.2]
        rcases (show k = 0 ∨ k = 1 by omega) with rfl | rfl
        · have e0 : zR (zh0 b f g iS s.heap) (f q) 0 = some (g q) := by
            show (match zisS f (f q) with
              | true => zvr (zsl s.heap[f q]? (iS 0))
              | false => none) = _
            rw [hs1, q1, hiS]
            show zvr (zsl (some ce) fV.slot) = _
            unfold zsl
            dsimp only
            rw [q5]; rfl
          rw [show zval (zh0 b f g iS s.heap) 11 (f q) 0 = zrv (zR (zh0 b f g iS s.heap) (f q) 0) from rfl, e0, hiS]
          exact q5
        · have e0 : zI (zh0 b f g iS s.heap) (f q) 1 = 0 := by
            show zvi (zsl s.heap[f q]? (match zisS f (f q) with
              | true => iS 1
              | false => 1)) = _
            rw [hs1, q1, hiS]
            show zvi (zsl (some ce) fC.slot) = _
            unfold zsl
            dsimp only
            rw [q6]; rfl
          rw [show zval (zh0 b f g iS s.heap) 11 (f q) 1 = .int (zI (zh0 b f g iS s.heap) (f q) 1) from rfl, e0, hiS]
          exact q6
      · omega
      · omega
    · rw [eK]; intro h1 h2
      rcases hkinv a with ⟨e, -⟩ | ⟨e, -⟩ | ⟨e, -⟩ | e <;> omega
    · rw [eK]; intro h1 h2
      have hro : ∀ (ce : Cell) (ty : FieldType), s.heap[a]? = some ce → s.isArrayOf ce ty → ce.vm ≠ .unknown → zisS f a = false → (∀ v, fits ty v = true → v = .int (zvi v)) → zRo dT (zh0 b f g iS s.heap) s.heap a (zk0 b f g a) := by
        intro ce ty hc hA hu hS hv
        refine ⟨ce, hc, (hdT1 a ce hc).symm, hdT2 a, hA.1, hu, ?_, fun j hj => ?_⟩
        · show _ = (match s.heap[a]? with
            | some ce => ce.slots.size
            | none => 0)
          rw [hc]
        · have hj' : j < ce.slots.size := by
            have : zN (zh0 b f g iS s.heap) a = ce.slots.size := by
              show (match s.heap[a]? with
                | some ce => ce.slots.size
                | none => 0) = _
              rw [hc]
            rw [← this]; exact hj
          have hsj : ce.slots[j]? = some ce.slots[j] := Array.getElem?_eq_getElem hj'
          have e0 : zI (zh0 b f g iS s.heap) a j = zvi (ce.slots[j]) := by
            show zvi (zsl s.heap[a]? (match zisS f a with
              | true => iS j
              | false => j)) = _
            rw [hS, hc]
            show zvi (zsl (some ce) j) = _
            unfold zsl
            dsimp only
            rw [hsj]
          rw [e0, hsj, ← hv _ (zfit_arr hfits hc hA hsj)]
      have hvb : ∀ v, fits .byte v = true → v = .int (zvi v) := fun v h => by cases v <;> first | rfl | cases h
      have hvi : ∀ v, fits .int v = true → v = .int (zvi v) := fun v h => by cases v <;> first | rfl | cases h
      rcases hkinv a with ⟨e, rfl⟩ | ⟨e, -⟩ | ⟨e, q, hq, rfl⟩ | e
      · exact hro scr .int x1 x2 x3 hbS hvi
      · omega
      · obtain ⟨ce, t1, t2, t3, -⟩ := hT2 q hq
        exact hro ce .byte t1 t2 t3 (hgS q hq) hvb
      · omega
    · rw [eK]; intro h1 h2 h3
      rcases hkinv a with ⟨e, -⟩ | ⟨e, -⟩ | ⟨e, -⟩ | e <;> omega
  · refine ⟨rfl, rfl, rfl, hbl, hkb, ?_, fun j hj => ?_, hkT, fun q hq => ?_⟩
    · show (match s.heap[b]? with
        | some ce => ce.slots.size
        | none => 0) = _
      rw [x1]; exact x4
    · show zvi (zsl s.heap[b]? (match zisS f b with
        | true => iS j
        | false => j)) = _
      rw [hbS, x1]
      show zvi (zsl (some scr) j) = _
      unfold zsl
      dsimp only
      rw [x5 j hj]; rfl
    · obtain ⟨ce, q1, q2, q3, q4, q5, q6⟩ := hT1 q hq
      obtain ⟨ca, t1, t2, t3, t4, t5, t6, -⟩ := hT2 q hq
      have hs1 : zisS f (f q) = true := zisS_iff.mpr ⟨q, hq, rfl⟩
      refine ⟨(Array.getElem?_eq_some_iff.mp q1).1, (Array.getElem?_eq_some_iff.mp t1).1, hkf q hq, ?_, ?_, hkg q hq, ?_, ?_, fun j hj => ?_⟩
      · show (match zisS f (f q) with
          | true => zvr (zsl s.heap[f q]? (iS 0))
          | false => none) = _
        rw [hs1, q1, hiS]
        show zvr (zsl (some ce) fV.slot) = _
        unfold zsl
        dsimp only
        rw [q5]; rfl
      · show zvi (zsl s.heap[f q]? (match zisS f (f q) with
          | true => iS 1
          | false => 1)) = _
        rw [hs1, q1, hiS]
        show zvi (zsl (some ce) fC.slot) = _
        unfold zsl
        dsimp only
        rw [q6]; rfl
      · show nI (match s.heap[g q]? with
          | some ce => ce.slots.size
          | none => 0) = _
        rw [t1]; exact t5
      · show _ ≤ (match s.heap[g q]? with
          | some ce => ce.slots.size
          | none => 0)
        rw [t1]; exact t4
      · show zvi (zsl s.heap[g q]? (match zisS f (g q) with
          | true => iS j
          | false => j)) = _
        rw [hgS q hq, t1]
        show zvi (zsl (some ca) j) = _
        unfold zsl
        dsimp only
        rw [t6 j hj]; rfl
