/-! SOUNDNESS: exceptions -/
def zexW : List Cond := [1018, 1019, 1020, 1021, 1022, 1025, 1026, 1028, 1035, 1036, 1037, 1043, 1069, 1076, 1088, 1099, 1104, 1118, 1123, 1143, 1148, 1215, 2050, 2057, 2067, 2073, 2080, 2123, 3119, 3120, 3200, 3201, 3202, 3203, 3204, 3205, 3206, 3207, 3208, 3209, 3210, 3211, 3212, 3213, 3214, 3215, 3216, 3217, 3218, 3219, 3220, 3221, 3222, 3223, 3224, 3225, 3226, 3227, 3228, 3229, 3230, 3231, 3232, 3233, 3234, 3235, 3236, 3237, 3238, 3239, 4000, 4001, 4002, 4003, 4004, 4005, 4006, 4007, 4008, 4009, 4010, 4011, 4012, 4013, 4014, 4015, 4016, 4017, 4018, 4019, 4020, 4021, 4022, 4023, 4024, 4093, 4094, 4095, 4096, 4097, 4098, 4099, 4100, 4101, 4102, 4103, 4104, 4105, 4106, 4107, 4120, 4144, 4198, 4199, 4208, 4209, 4210, 4211, 4212, 4213, 4214, 4215, 4216, 4217, 4218, 4219, 4220, 4221, 4222, 5009, 5010, 5011, 5012, 5013, 5014, 5015, 5016, 5017, 5018, 5019, 5020, 5021, 5022, 5023, 5070, 5071, 5085, 5093, 5094, 5095, 5096, 5097, 5098, 5099, 5100, 5101, 5102, 5103, 5104, 5105, 5106, 5107, 6201, 7034, 9116, 9127, 9128, 9130, 9131, 9132, 9133, 3].filterMap zat
theorem zexW_in {w : Cond} (h : w ∈ zexW) (hg : goodWord w = true) : w ∈ zgw := by
  obtain ⟨i, -, hi⟩ := List.mem_filterMap.mp h
  exact zgw_mem hi hg
def zexl : List (Nat × Nat × Nat) := [(8, 72, 0), (9, 94, 3), (9, 410, 2), (9, 154, 4), (9, 209, 0), (9, 229, 1)]
def zsup : List String := ["java/lang/RuntimeException", "java/lang/Exception"]
def zexB (e : Nat) : List Cond := [.declares ⟨"java/lang/RuntimeException", "<init>", "()V"⟩, .declares ⟨"java/lang/Exception", "<init>", "()V"⟩, .declares ⟨"java/lang/Throwable", "<init>", "()V"⟩, .castable (zexn.getD e "") (zexn.getD e "")]

theorem zex_a0 : ∀ w ∈ vx_at0 (zcn 8) 72 (zexn.getD 0 "") zsup, goodWord w = true ∧ w ∈ zexW ∨ w ∈ zexB 0 := by decide +kernel
theorem zex_b0 : ∀ w ∈ vx_at0 (zcn 8) 72 (zexn.getD 0 "") zsup, vx_ot w = true := by decide +kernel
theorem zex_a1 : ∀ w ∈ vx_at0 (zcn 9) 94 (zexn.getD 3 "") zsup, goodWord w = true ∧ w ∈ zexW ∨ w ∈ zexB 3 := by decide +kernel
theorem zex_b1 : ∀ w ∈ vx_at0 (zcn 9) 94 (zexn.getD 3 "") zsup, vx_ot w = true := by decide +kernel
theorem zex_a2 : ∀ w ∈ vx_at0 (zcn 9) 410 (zexn.getD 2 "") zsup, goodWord w = true ∧ w ∈ zexW ∨ w ∈ zexB 2 := by decide +kernel
theorem zex_b2 : ∀ w ∈ vx_at0 (zcn 9) 410 (zexn.getD 2 "") zsup, vx_ot w = true := by decide +kernel
theorem zex_a3 : ∀ w ∈ vx_at0 (zcn 9) 154 (zexn.getD 4 "") zsup, goodWord w = true ∧ w ∈ zexW ∨ w ∈ zexB 4 := by decide +kernel
theorem zex_b3 : ∀ w ∈ vx_at0 (zcn 9) 154 (zexn.getD 4 "") zsup, vx_ot w = true := by decide +kernel
theorem zex_a4 : ∀ w ∈ vx_at0 (zcn 9) 209 (zexn.getD 0 "") zsup, goodWord w = true ∧ w ∈ zexW ∨ w ∈ zexB 0 := by decide +kernel
theorem zex_b4 : ∀ w ∈ vx_at0 (zcn 9) 209 (zexn.getD 0 "") zsup, vx_ot w = true := by decide +kernel
theorem zex_a5 : ∀ w ∈ vx_at0 (zcn 9) 229 (zexn.getD 1 "") zsup, goodWord w = true ∧ w ∈ zexW ∨ w ∈ zexB 1 := by decide +kernel
theorem zex_b5 : ∀ w ∈ vx_at0 (zcn 9) 229 (zexn.getD 1 "") zsup, vx_ot w = true := by decide +kernel
theorem zex_a : ∀ q ∈ zexl, ∀ w ∈ vx_at0 (zcn q.1) q.2.1 (zexn.getD q.2.2 "") zsup, (goodWord w = true ∧ w ∈ zexW ∨ w ∈ zexB q.2.2) ∧ vx_ot w = true := by
  intro q hq
  simp only [zexl, List.mem_cons, List.not_mem_nil, or_false] at hq
  rcases hq with rfl | rfl | rfl | rfl | rfl | rfl
  · exact fun w hw => ⟨zex_a0 w hw, zex_b0 w hw⟩
  · exact fun w hw => ⟨zex_a1 w hw, zex_b1 w hw⟩
  · exact fun w hw => ⟨zex_a2 w hw, zex_b2 w hw⟩
  · exact fun w hw => ⟨zex_a3 w hw, zex_b3 w hw⟩
  · exact fun w hw => ⟨zex_a4 w hw, zex_b4 w hw⟩
  · exact fun w hw => ⟨zex_a5 w hw, zex_b5 w hw⟩
theorem zmd_x0 : ∀ o, o < 20 → ∀ q ∈ zmd.getD o [], 1010 ≤ q.2 → (o, q.1, q.2 - 1010) ∈ zexl := by decide +kernel
theorem zmd_l : zmd.length = 20 := by decide +kernel
theorem zmd_x {o k e : Nat} (h : zlk k (zmd.getD o []) = some (1010 + e)) : (o, k, e) ∈ zexl := by
  rcases Nat.lt_or_ge o 20 with ho | ho
  · have := zmd_x0 o ho (k, 1010 + e) (zlk_mem h) (by omega)
    rwa [show 1010 + e - 1010 = e by omega] at this
  · rw [show zmd.getD o [] = [] by rw [List.getD_eq_getElem?_getD, List.getElem?_eq_none (by rw [zmd_l]; exact ho)]; rfl] at h; cases h
theorem zexi : ∀ e, e < 5 → Cond.initialized (zexn.getD e "") ∈ zexW := by decide +kernel
theorem zexi2 : ∀ e, e < 5 → goodWord (Cond.initialized (zexn.getD e "")) = true ∧ vx_ot (Cond.initialized (zexn.getD e "")) = true ∧ Bundle.fit (zexn.getD e "") = true := by decide +kernel
theorem zsup_fit : ∀ n ∈ zsup, Bundle.fit n = true := by decide +kernel
theorem zex_hat {s : State} {args : Array Value} {B0 : Nat} {z : ZE} {q : Nat × Nat × Nat} (hq : q ∈ zexl) (he : q.2.2 < 5) (hts : ∀ w ∈ zgw, w.before args s = true) (hSt : zSt B0 z s s.heap) : ∀ w ∈ vx_at0 (zcn q.1) q.2.1 (zexn.getD q.2.2 "") zsup, w.before args s = true := by
  intro w hw
  rcases (zex_a q hq w hw).1 with ⟨hg, hi⟩ | hB
  · exact hts w (zexW_in hi hg)
  · simp only [zexB, List.mem_cons, List.not_mem_nil, or_false] at hB
    rcases hB with rfl | rfl | rfl | rfl
    · exact va_Nw.use rfl (hSt.2.2.2.2.2.2.2.2.1 _ (by simp))
    · exact va_Nw.use rfl (hSt.2.2.2.2.2.2.2.2.1 _ (by simp))
    · exact va_Nw.use rfl (hSt.2.2.2.2.2.2.2.2.1 _ (by simp))
    · exact va_Nw.use rfl (hSt.2.2.2.2.2.2.2.2.2 _ he)
section
variable {p : Program} {l : Launch} {e : Env} {R : Room} {s : State} {m : MethodId} {args : Array Value} {below : List Frame} {meth : Method} {c : Code} {H : Heap} {locs : List Loc} {cells slots : Nat} {Q : State → Prop}
variable {mc ms : Nat} {free : Addr → Prop} {A0 A1 : Nat → Prop} {H0 : Heap} {a : Array Value} {ls : Array Slot} {st0 rest : List Value}
variable {Qc : Array Value → State → Outcome → State → Prop} {XC : String → State → State → Prop}
theorem zx_throw0 {cc : ByteArray} {pc : Nat} (hexec : p.tables.exec = Jvm.exec) (hb : c.code = cc) (hl : l.stackTraces = false) {own cls : String} {names : List String} {ik ic mc ms : Nat} {A : Nat → Prop}
    (hown : s.vm.findClass own = some m.cls) (hcls : Bundle.fit cls = true) (hnames : ∀ n ∈ names, Bundle.fit n = true)
    (hk : (Cond.classLink own ik cls).before args s = true) (hini : (Cond.initialized cls).before args s = true) (hat : ∀ w ∈ vx_at0 own ic cls names, w.before args s = true)
    (hgood : ∀ w ∈ Cond.classLink own ik cls :: Cond.initialized cls :: vx_at0 own ic cls names, vx_ot w = true)
    (hU : vx_Zq Bundle.tN "UNASSIGNED_STACK" Bundle.steD A s s.heap) (hN : vx_Zq Bundle.tN "SUPPRESSED_SENTINEL" Bundle.listD A s s.heap) (hS : va_S A s.heap H locs) (hsize : ls.size = c.maxLocals)
    (d0 : decode cc pc = .ok (.new ik, 3)) (d3 : decode cc (pc + 3) = .ok (.dup, 1)) (d4 : decode cc (pc + 4) = .ok (.invokespecial ic, 3)) (d7 : decode cc (pc + 7) = .ok (.athrow, 1))
    (hout : ∀ x ∈ c.exceptionTable.toList, covers x (pc + 7) = false)
    (hRframes : names.length + 3 < R.frames) (hRlocals : (rest.map fun v => v.category).sum + (13 * (names.length + 1) + 42) ≤ R.locals) (hRcells : cells + 1 ≤ R.cells) (hRslots : slots + 6 ≤ R.slots) (hlocks : meth.locks = false)
    (hx : ∀ t : State, s.vm.Alike t.vm → t.heap.size = H.size + 1 → (∀ q : Nat, q < H.size → t.heap[q]? = H[q]?) → XC cls s t)
    (hf : ∀ z ∈ locs, free z.base) (hc : cells + 1 ≤ mc) (hs : slots + 6 ≤ ms) :
    W p l e R s m args below meth c H locs cells slots (vx_MQ below Qc XC args s mc ms free) (F0 m pc ls rest) := by
  intro T hT X
  have htr : e.platform.stackTraces = false := (show e.platform.stackTraces = l.stackTraces by rw [X.admits.platform]).trans hl
  have Y := vx_rebase X (R' := { frames := R.frames, locals := R.locals, cells := 1, slots := 6 }) (Nat.le_refl _) (Nat.le_refl _) hRcells hRslots
  obtain ⟨s', hA⟩ : ∃ z, z = (T.setVm s.vm).setFrames (.invoking m args :: below) := ⟨_, rfl⟩
  rw [← hA] at Y
  have hvm : s'.vm = s.vm := by rw [hA]; rfl
  have hhp : s'.heap = H := by rw [hA]; exact hT
  have hW0 : s.WarmedH s'.vm := by rw [hvm]; exact State.WarmedH.refl s
  have hat' : ∀ w ∈ vx_at0 own ic cls names, w.before args s' = true := fun w hw => vx_ot_at hW0 hvm.symm (hgood w (List.mem_cons_of_mem _ (List.mem_cons_of_mem _ hw))) (hat w hw)
  have hk' : (Cond.classLink own ik cls).before args s' = true := vx_ot_at hW0 hvm.symm (hgood _ List.mem_cons_self) hk
  have hini' : (Cond.initialized cls).before args s' = true := vx_ot_at hW0 hvm.symm (hgood _ (List.mem_cons_of_mem _ List.mem_cons_self)) hini
  have hU' : vx_Zq Bundle.tN "UNASSIGNED_STACK" Bundle.steD A s' s'.heap := by rw [hhp]; exact vx_Zq.moved hW0.alike (hU.kept hS.2.1)
  have hN' : vx_Zq Bundle.tN "SUPPRESSED_SENTINEL" Bundle.listD A s' s'.heap := by rw [hhp]; exact vx_Zq.moved hW0.alike (hN.kept hS.2.1)
  have h : ∀ w ∈ Bundle.ownAtoms0 own ic cls names, w.before args s' = true := vx_own hat' (vx_isRefq hU'.1) (vx_isRefq hN'.1) hU'.2.word hN'.2.word
  have hown' : s'.vm.findClass own = some m.cls := by rw [hvm]; exact hown
  have hins : (Cond.instantiable cls 6).before args s' = true := h _ (by simp [Bundle.ownAtoms0])
  obtain ⟨vm₁, cX, kX, hfX, hkX, -, -, X₁, st1⟩ := Y.newCold hexec (own := own) (C := cls) (index := ik) (n := 6) hown' hk' hins hini'
    (g := F0 m pc ls rest) rfl (by rw [hb]; exact d0) (Nat.le_refl _) (Nat.le_refl _)
  generalize hT1 : (T.setVm vm₁).pushCell { cls := cX, slots := kX.instanceTypes.map defaultValue, vm := .none } = T1 at X₁ st1
  have hcat : (Value.ref T.heap.size).category = 1 := rfl
  have hcellA : T1.heap[T.heap.size]? = some (freshCell cX kX) := by rw [← hT1]; exact State.heap_pushCell_size _ _
  have d3' : decode c.code (pc + 3) = .ok (.dup, 1) := by rw [hb]; exact d3
  obtain ⟨U, hsteps, hrun, hend, hW, hsame, ce, hce, hO⟩ := X₁.ctorThrow0 hexec htr (own := own) (cls := cls) (names := names) (ic := ic) hown' hcls hnames h (fun x hx => nomatch hx) hfX hkX hcellA (by rw [hhp, hT]; exact Nat.le_refl _)
    (g := { method := m, pc := pc + 4, locals := ls, stack := .ref T.heap.size :: .ref T.heap.size :: rest, locked := none }) rfl hsize rfl rfl (rest := rest) rfl
    (by rw [hb]; exact d4) (by rw [hb]; exact d7) hout hRframes (by simp only [List.map_cons, List.sum_cons, hcat]; omega) hlocks
  obtain ⟨f1, f2⟩ := vx_frame hsame
  rw [hhp] at f1 f2
  have fsz : U.heap.size = H.size + 1 := by
    have g1 : U.heap.size ≤ s'.heap.size + 1 := hsame.2.2.1
    have g2 : T.heap.size < U.heap.size := (Array.getElem?_eq_some_iff.mp hce).1
    rw [hhp] at g1
    rw [hT] at g2
    omega
  have hWs : s.WarmedH U.vm := State.WarmedH.trans hW0 hW
  have hcl : s.vm.findClass cls = some ce.cls := by
    have h9 := hO.cls
    rw [hvm] at h9
    exact h9
  have hall : s.sameButNew ({ U with vm := s.vm } : State) locs mc ms := by
    subst hA
    obtain ⟨e1, e2⟩ := hsame
    rw [State.setFrames_setFrames] at e1
    have h2 : (T.setVm s.vm).sameButNew ({ U with vm := s.vm } : State) [] (0 + 1) (0 + 6) := ⟨e1, e2⟩
    have h3 := X.same.trans h2
    rw [List.append_nil] at h3
    exact h3.mono hc hs
  refine ⟨U, ?_, .threw T.heap.size, hrun, hend, Or.inr ⟨T.heap.size, rfl, cls, ce, locs, hx U hWs.alike fsz (fun q hq => f2 q hq (fun z hz => nomatch hz)), hce, hO.vm, hcl, hWs, hall, hf⟩⟩
  refine st1 _ ?_
  show Steps p.tables e below (T1.setTop { method := m, pc := pc + 3, locals := ls, stack := .ref T.heap.size :: rest, locked := none }) _
  jvm_step X₁.here [X₁.here.top, hexec, d3', Value.category]
  exact hsteps
end
