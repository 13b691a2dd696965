/-! SOUNDNESS: contracts, new objects, copies, returns, throws -/
def zEnd (D : va_G) (dT : Nat → ClassId) (B0 : Nat) (h : Hp) (st t : State) : Prop := zRep D dT B0 h t.heap ∧ st.heap.size ≤ t.heap.size ∧ ∀ q : Nat, q < st.heap.size → ¬ B0 ≤ q → t.heap[q]? = st.heap[q]?
def zQc (D : va_G) (dT : Nat → ClassId) (B0 : Nat) (r : zO) (h : Hp) : Array Value → State → Outcome → State → Prop := fun _ st o t => ∃ v, r = .inl v ∧ o = .returned v ∧ zEnd D dT B0 h st t
def zXc (D : va_G) (dT : Nat → ClassId) (B0 : Nat) (r : zO) (h : Hp) : String → State → State → Prop := fun E st t => ∃ e, r = .inr e ∧ e < 5 ∧ E = zexn.getD e "" ∧ zEnd D dT B0 h st t
def zPc (D : va_G) (dT : Nat → ClassId) (B0 : Nat) (z : ZE) (as : List Value) (h : Hp) : Array Value → State → Prop := fun a U => a = as.toArray ∧ zRep D dT B0 h U.heap ∧ zKs D dT U ∧ zSt B0 z U U.heap
theorem zPc_blind {D : va_G} {dT : Nat → ClassId} {B0 : Nat} {z : ZE} {as : List Value} {h : Hp} : FrameBlind (zPc D dT B0 z as h) := by
  intro a U g mk q
  obtain ⟨q1, q2, q3, q4⟩ := q
  exact ⟨q1, q2, q3.moved (Vm.Alike.refl U.vm), q4.kept (State.WarmedH.refl U) (fun _ _ _ => rfl)⟩
section
variable {D : va_G} {dT : Nat → ClassId} {B0 C0 S0 : Nat} {z : ZE} {p : Program} {l : Launch} {e : Env} {R : Room} {s : State} {m : MethodId} {args : Array Value} {below : List Frame} {meth : Method} {c : Code} {n : Nat} {Q : State → Prop} {mc ms : Nat} {r0 : zO} {h0 : Hp}
theorem zEnd_of {H : Heap} {locs : List Loc} {t : State} {h : Hp} (hR : zRep D dT B0 h H) (hS : va_S (zAp B0) s.heap H locs) (ht : t.heap = H) : zEnd D dT B0 h s t := ⟨by rw [ht]; exact hR, by rw [ht]; exact hS.1, by rw [ht]; exact hS.2.1⟩
theorem zcname_lt {ci : Nat} (h : ci < 100) : zcname ci = zcn ci := by
  unfold zcname
  rw [show Nat.blt ci 100 = true by rw [Nat.blt_eq]; exact h]
theorem znewobj {pc k ci : Nat} {lst st : List Value} {h : Hp} (hC : zCx D dT B0 z p l R s m args meth c n) (hd : decode (zcd n) pc = .ok (.new k, 3)) (hci : zcl n k = some ci) (hlt : ci < 11)
    (hrm : zC h + 1 ≤ C0 + R.cells ∧ zS h + znf ci ≤ S0 + R.slots)
    (kk : zWk D dT B0 C0 S0 p l e R s m args below meth c n Q (pc + 3) lst (.ref (zT h) :: st) (znw h (ci + 1) (znf ci))) : zWk D dT B0 C0 S0 p l e R s m args below meth c n Q pc lst st h := by
  obtain ⟨hx, hb, hml, hr, hown, hts, hlocks, hin, hK, hSt, hl, hxt⟩ := id hC
  intro H locs cells slots ls hR hS hc hsl hL
  have hw1 := hts _ (zcr_w _ _ _ hci)
  rw [zcname_lt (by omega)] at hw1
  have hKn := hK.1 ci _ (zcx_at hlt)
  refine W.newcK (n := znf ci) hx hb hown hw1 (hts _ (zcl_w ci hlt _ (List.mem_append_left _ List.mem_cons_self))) (hts _ (zcl_w ci hlt _ (List.mem_append_left _ (List.mem_cons_of_mem _ List.mem_cons_self)))) rfl hd (by omega) (by omega) hKn.2.1 rfl fun H1 kC hkC e1 z1 o1 => ?_
  have eT : zT h = H.size := hR.1
  rw [← eT]
  refine kk H1 locs _ _ ls (hR.new z1 o1 ?_) ⟨Nat.le_trans hS.1 (by omega), fun x h1 h2 => (o1 x (Nat.lt_of_lt_of_le h1 hS.1)).trans (hS.2.1 x h1 h2), hS.2.2⟩ (by show _ + 1 + C0 = zC h + 1; omega) (by show _ + znf ci + S0 = zS h + _; omega) hL
  have eK : zK (znw h (ci + 1) (znf ci)) H.size = ci + 1 := if_pos eT.symm
  have hok : ∀ k, k < znf ci → zfok ci k = true := zf_ok ci hlt
  refine ⟨?_, ?_, ?_, ?_, ?_⟩
  · rw [eK]; intro c' hc' hl'
    obtain rfl : c' = ci := by omega
    refine (u_born (zFty c') hts (zcl_u hlt) hKn hkC e1 (fun k hk => ?_)).to (fun k hk => ?_)
    · have := hok k hk
      simp only [zfok, Bool.and_eq_true, decide_eq_true_eq] at this
      exact this.1.2
    · have := hok k hk
      simp only [zfok, Bool.and_eq_true, decide_eq_true_eq] at this
      have h2 := this.2
      have eR : zR (znw h (c' + 1) (znf c')) H.size k = none := if_pos eT.symm
      have eI : zI (znw h (c' + 1) (znf c')) H.size k = 0 := if_pos eT.symm
      unfold zval
      rw [eR, eI]
      split at h2
      · rename_i e2; rw [e2]
        show defaultValue (zFty c' k) = .null
        split at h2
        · rename_i e3; rw [e3]; rfl
        · rename_i e3; rw [e3]; rfl
        · cases h2
      · rename_i e2; rw [e2]
        have e3 : zFty c' k = .boolean := by simpa using h2
        rw [e3]; rfl
      · rename_i n2 n1
        have e3 : zFty c' k = .int := by simpa using h2
        rw [e3]
        split
        · rename_i e4; exact absurd e4 n2
        · rfl
  · rw [eK]; intro e; omega
  · rw [eK]; intro e; omega
  · rw [eK]; intro e; omega
  · rw [eK]; intro _ _ _; exact hR.2.1
theorem zcat_sum {r : List Value} (h : r.length ≤ 4) : (r.map fun v => v.category).sum ≤ 8 := by
  have hc : ∀ v : Value, v.category ≤ 2 := fun v => by cases v <;> (unfold Value.category; simp)
  have : ∀ (r : List Value), (r.map fun v => v.category).sum ≤ 2 * r.length := by
    intro r
    induction r with
    | nil => simp
    | cons a t ih => simp only [List.map_cons, List.sum_cons, List.length_cons]; have := hc a; omega
  have := this r
  omega
theorem zobjinit {pc k : Nat} {lst r : List Value} {a : Nat} {h : Hp} (hC : zCx D dT B0 z p l R s m args meth c n) (hd : decode (zcd n) pc = .ok (.invokespecial k, 3)) (hk : zmr n k = some 1000) (hr4 : r.length ≤ 4) (hfr : 1 ≤ R.frames) (hlo : 20 ≤ R.locals)
    (kk : zWk D dT B0 C0 S0 p l e R s m args below meth c n Q (pc + 3) lst r h) : zWk D dT B0 C0 S0 p l e R s m args below meth c n Q pc lst (.ref a :: r) h := by
  obtain ⟨hx, hb, hml, hr, hown, hts, hlocks, hin, hK, hSt, hl, hxt⟩ := id hC
  intro H locs cells slots ls hR hS hc hsl hL
  have hw := hts _ (zmd_w _ _ _ hk)
  unfold zwmd at hw
  split at hw
  · rename_i hn
    have : ∀ o, o < 20 → ∀ q ∈ zmd.getD o [], q.2 = 1000 → znest o q.1 = false := by decide +kernel
    have ho : zown n < 20 := by
      rcases Nat.lt_or_ge (zown n) 20 with ho | ho
      · exact ho
      · exfalso
        unfold zmr at hk
        rw [show zmd.getD (zown n) [] = [] by rw [List.getD_eq_getElem?_getD, List.getElem?_eq_none (by rw [zmd_l]; exact ho)]; rfl] at hk; cases hk
    have := this _ ho (k, 1000) (zlk_mem hk) rfl
    rw [this] at hn
    cases hn
  · have hs := zcat_sum hr4
    refine W.objInit hx hb hown hw (hts _ (zot_w _ (by simp [zwot]))) (hts _ (zot_w _ (by simp [zwot]))) rfl (by rw [hml]; exact hL.2.1) rfl hd hfr ?_ (kk H locs cells slots ls hR hS hc hsl hL)
    show 2 * 0 + _ + 12 ≤ _
    omega
/-- ints are copied -/
theorem zcopy {pc k : Nat} {lst r : List Value} {a b : Nat} {sp dp cn : Int32} {h : Hp} (hC : zCx D dT B0 z p l R s m args meth c n) (hd : decode (zcd n) pc = .ok (.invokestatic k, 3)) (hk : zmr n k = some 1001) (hr4 : r.length ≤ 4) (hfr : 1 ≤ R.frames) (hlo : 100 ≤ R.locals)
    (ka : zK h a = 20) (kb : zK h b = 20) (hab : a ≠ b) (h1 : ¬ sp < 0) (h2 : ¬ dp < 0) (h3 : ¬ cn < 0) (h4 : sp.toNatClampNeg + cn.toNatClampNeg ≤ zN h a) (h5 : dp.toNatClampNeg + cn.toNatClampNeg ≤ zN h b)
    (kk : zWk D dT B0 C0 S0 p l e R s m args below meth c n Q (pc + 3) lst r (zcpy h a sp.toNatClampNeg b dp.toNatClampNeg cn.toNatClampNeg)) : zWk D dT B0 C0 S0 p l e R s m args below meth c n Q pc lst (.int cn :: .int dp :: .ref b :: .int sp :: .ref a :: r) h := by
  obtain ⟨hx, hb, hml, hr, hown, hts, hlocks, hin, hK, hSt, hl, hxt⟩ := id hC
  intro H locs cells slots ls hR hS hc hsl hL
  have hw := hts _ (zmd_w _ _ _ hk)
  unfold zwmd at hw
  split at hw
  · rename_i hn
    have : ∀ o, o < 20 → ∀ q ∈ zmd.getD o [], q.2 = 1001 → znest o q.1 = false := by decide +kernel
    have ho : zown n < 20 := by
      rcases Nat.lt_or_ge (zown n) 20 with ho | ho
      · exact ho
      · exfalso
        unfold zmr at hk
        rw [show zmd.getD (zown n) [] = [] by rw [List.getD_eq_getElem?_getD, List.getElem?_eq_none (by rw [zmd_l]; exact ho)]; rfl] at hk; cases hk
    have := this _ ho (k, 1001) (zlk_mem hk) rfl
    rw [this] at hn
    cases hn
  · have hsum := zcat_sum hr4
    have nn : ∀ z : Int32, ¬ z < 0 → z.toInt = (z.toNatClampNeg : Int) := by
      intro z hz
      have hz0 : (0 : Int) ≤ z.toInt := by
        have := Int32.not_lt.mp hz
        simpa using Int32.le_iff_toInt_le.mp this
      show z.toInt = ((z.toInt.toNat : Nat) : Int)
      omega
    have hA0 : H[a]? = some (vp_cell (dT 20) (zN h a, .inl (zI h a))) := by
      have := (hR.2.2.2 a).2.2.1 (by omega) (by omega)
      rw [ka] at this; exact this
    have hA1 : H[b]? = some (vp_cell (dT 20) (zN h b, .inl (zI h b))) := by
      have := (hR.2.2.2 b).2.2.1 (by omega) (by omega)
      rw [kb] at this; exact this
    have hBb : B0 ≤ b := (hR.2.2.2 b).2.2.2.2 (by omega) (by omega) (by omega)
    obtain ⟨-, k0, hk0, cm0, hkk0⟩ := hK.2.1 20 (by omega) (by omega) (zN h a) (fun j => .int (zI h a j))
    have hnfw : nativeFrameWords "java/lang/System" "arraycopy" 5 + 11 ≤ 90 := by decide +kernel
    intro T hT X
    obtain ⟨vm', X', step⟩ := X.arraycopy hx hown hw (hts _ (zot_w _ (by simp [zwot]))) (hts _ (zot_w _ (by simp [zwot]))) (hts _ (zot_w _ (by simp [zwot]))) (src := a) (dst := b) (cs := vp_cell (dT 20) (zN h a, .inl (zI h a))) (cd := vp_cell (dT 20) (zN h b, .inl (zI h b))) (srcPos := sp) (destPos := dp) (n := cn) (by rw [hT]; exact hA0) (by rw [hT]; exact hA1)
      (fun _ h => by cases h) (fun _ h => by cases h) (fun h => by cases h) (fun h => by cases h) hk0 hk0 hkk0 hkk0 (by simp [refKind, zty]) h1 h2 h3
      (by rw [nn sp h1, nn cn h3]; show ¬ _ > ((arrV (dT 20) (zN h a) (fun j => .int (zI h a j))).slots.size : Int); rw [arrV_size]; omega)
      (by rw [nn dp h2, nn cn h3]; show ¬ _ > ((arrV (dT 20) (zN h b) (fun j => .int (zI h b j))).slots.size : Int); rw [arrV_size]; omega)
      (fun vm₁ _ i hi => by
        have e : (vp_cell (dT 20) (zN h a, .inl (zI h a))).slots.getD (sp.toNatClampNeg + i) .null = .int (zI h a (sp.toNatClampNeg + i)) := by
          show (arrV (dT 20) (zN h a) (fun j => .int (zI h a j))).slots.getD _ _ = _
          rw [Array.getD_eq_getD_getElem?, arrV_read _ _ (by omega)]
          rfl
        refine ⟨?_, ?_⟩
        · rw [e]; rfl
        · rw [e]; exact trivial)
      (g := F0 m pc ls (.int cn :: .int dp :: .ref b :: .int sp :: .ref a :: r)) rfl (by rw [hml]; exact hL.2.1) (rest := r) rfl (by rw [hb]; exact hd) hfr (by show 2 * 0 + _ + (nativeFrameWords "java/lang/System" "arraycopy" 5 + 11) ≤ _; omega)
    have e1 : copied (vp_cell (dT 20) (zN h a, .inl (zI h a))) (vp_cell (dT 20) (zN h b, .inl (zI h b))) sp dp cn = vp_cell (dT 20) (zN h b, .inl (va_cpy (zI h a) (zI h b) sp.toNatClampNeg dp.toNatClampNeg cn.toNatClampNeg)) := va_copied (fun z => .int z) (dT 20) (dT 20) (zI h a) (zI h b) h4
    rw [e1] at X' step
    have hlb : b < H.size := (Array.getElem?_eq_some_iff.mp hA1).1
    have hheap : ((T.setVm vm').setCell b (vp_cell (dT 20) (zN h b, .inl (va_cpy (zI h a) (zI h b) sp.toNatClampNeg dp.toNatClampNeg cn.toNatClampNeg)))).heap = H.setIfInBounds b (vp_cell (dT 20) (zN h b, .inl (va_cpy (zI h a) (zI h b) sp.toNatClampNeg dp.toNatClampNeg cn.toNatClampNeg))) := by rw [← hT]; rfl
    generalize hH1 : H.setIfInBounds b (vp_cell (dT 20) (zN h b, .inl (va_cpy (zI h a) (zI h b) sp.toNatClampNeg dp.toNatClampNeg cn.toNatClampNeg))) = H1 at hheap
    have oq : ∀ q : Nat, q ≠ b → H1[q]? = H[q]? := fun q hq => by rw [← hH1]; simp [Array.getElem?_setIfInBounds, Ne.symm hq]
    have e2 : H1[b]? = some (vp_cell (dT 20) (zN h b, .inl (va_cpy (zI h a) (zI h b) sp.toNatClampNeg dp.toNatClampNeg cn.toNatClampNeg))) := by rw [← hH1]; simp [Array.getElem?_setIfInBounds, hlb]
    have hz1 : H1.size = H.size := by rw [← hH1]; simp
    have hR1 : zRep D dT B0 (zcpy h a sp.toNatClampNeg b dp.toNatClampNeg cn.toNatClampNeg) H1 := by
      refine hR.put hz1 oq rfl (fun _ => rfl) (fun _ => rfl) (fun x j hxb => if_neg (fun e => hxb e.1)) (fun _ _ _ => rfl) (fun _ _ _ => rfl) ?_
      have eK : zK (zcpy h a sp.toNatClampNeg b dp.toNatClampNeg cn.toNatClampNeg) b = 20 := kb
      refine ⟨?_, ?_, ?_, ?_, ?_⟩
      · rw [eK]; intro c' hc' hl'; omega
      · rw [eK]; intro e; omega
      · rw [eK]; intro _ _
        rw [e2]
        show some (arrV (dT 20) (zN h b) (fun j => .int (va_cpy (zI h a) (zI h b) sp.toNatClampNeg dp.toNatClampNeg cn.toNatClampNeg j))) = some (arrV (dT 20) (zN h b) _)
        congr 2
        funext j
        show Value.int _ = Value.int (if b = b ∧ _ ∧ _ then _ else _)
        congr 1
        unfold va_cpy
        by_cases hj : dp.toNatClampNeg ≤ j ∧ j < dp.toNatClampNeg + cn.toNatClampNeg
        · rw [if_pos hj, if_pos ⟨rfl, hj⟩]
        · rw [if_neg hj, if_neg (fun e => hj e.2)]
      · rw [eK]; intro e; omega
      · rw [eK]; intro _ _ _; exact hBb
    obtain ⟨t, a1, b1⟩ := kk H1 _ cells slots ls hR1 ⟨by rw [hz1]; exact hS.1, fun q g1 g2 => by
        rw [oq q (fun e => g2 (by rw [e]; exact hBb))]
        exact hS.2.1 q g1 g2, fun q hq => by
        rcases List.mem_append.mp hq with h | h
        · exact hS.2.2 q h
        · obtain ⟨z, -, hz⟩ := List.mem_map.mp h
          rw [← hz]
          exact hBb⟩ hc hsl hL _ hheap X'
    exact ⟨t, step t a1, b1⟩
end
