/-! SOUNDNESS: the kinds of calls -/
theorem znest_key : ∀ o, o < 20 → ∀ q ∈ zmd.getD o [], znest o q.1 = true → (o, q.1, q.2) ∈ znd := by decide +kernel
theorem zar {x y w F L : Nat} (h1 : x ≤ 20) (h2 : w + 20 ≤ F) (h3 : 40 * w + 300 ≤ L) (h : y < w) : y + 20 + 1 ≤ F ∧ 8 + (x + 11) + (40 * y + 300) ≤ L := by omega
section
variable {D : va_G} {dT : Nat → ClassId} {B0 C0 S0 : Nat} {z : ZE} {p : Program} {l : Launch} {e : Env} {R : Room} {s : State} {m : MethodId} {args : Array Value} {below : List Frame} {meth : Method} {c : Code} {n : Nat} {Q : State → Prop}
theorem zmok_at {k : Nat} (hk : k < 352) : (∀ sig, parseMethodDescriptor (zyy k).desc = some sig → zpar k = sig.parameters.length) ∧ (zyy k).cls = zcn (zown k) ∧ ((zyy k).cls ≠ "java/lang/invoke/MethodHandle" ∧ (zyy k).cls ≠ "java/lang/invoke/VarHandle") ∧ (zmath k = 0 → plainName (zyy k).cls = true) ∧ (zin k < 99 → (zyy k).name = "<init>" ∧ zret k = none) ∧ (zhh k = [] ∨ zstc k = true) := by
  have := zm_ok k hk
  simp only [zmok, Bool.and_eq_true, decide_eq_true_eq] at this
  obtain ⟨⟨⟨⟨⟨⟨⟨h1, h2⟩, h3⟩, h4⟩, h5⟩, h6⟩, h7⟩, h8⟩ := this
  refine ⟨fun sig hs => ?_, h2, ⟨h3, h4⟩, fun h0 => ?_, fun hi => ?_, ?_⟩
  · rw [hs] at h1; exact (Option.some.inj h1).symm
  · rw [h0] at h5; simpa using h5
  · have hb : Nat.blt (zin k) 99 = true := by rw [Nat.blt_eq]; exact hi
    rw [hb] at h6 h7
    exact ⟨by simpa using h6, by simpa using h7⟩
  · rw [Bool.or_eq_true] at h8
    rcases h8 with h8 | h8
    · left; simpa using h8
    · right; exact h8
theorem zme_at {k : Nat} (hk : k < 351) (hts : ∀ w ∈ zgw, w.before args s = true) : (zstc k = true → (Cond.static (zyy k)).before args s = true) ∧ (zstc k = false → (Cond.instanceMethod (zyy k)).before args s = true) ∧ (Cond.initialized (zyy k).cls).before args s = true ∧ (zstc k = false → ¬ zin k < 99 → (Cond.selects (zyy k).cls (zyy k) (zyy k)).before args s = true) := by
  have hw := zme_w k hk
  unfold zwme at hw
  refine ⟨fun h => ?_, fun h => ?_, ?_, fun h1 h2 => ?_⟩
  · refine hts _ (hw _ ?_); rw [h]; exact List.mem_cons_self
  · refine hts _ (hw _ ?_); rw [h]; exact List.mem_cons_self
  · exact hts _ (hw _ (List.mem_cons_of_mem _ List.mem_cons_self))
  · refine hts _ (hw _ (List.mem_cons_of_mem _ (List.mem_cons_of_mem _ ?_)))
    have hb : Nat.blt (zin k) 99 = false := by
      cases hq : Nat.blt (zin k) 99 with
      | false => rfl
      | true => rw [Nat.blt_eq] at hq; exact absurd hq h2
    rw [h1, hb]
    exact List.mem_cons_self
theorem zlink {k j : Nat} (hC : zCx D dT B0 z p l R s m args meth c n) (hk : zmr n k = some j) (hj : j < 1000) : (znest (zown n) k = false → (Cond.methodLink (zcn (zown n)) k (zyy j)).before args s = true) ∧ (znest (zown n) k = true → va_Nw (.methodLinkNest (zcn (zown n)) k (zyy j) "LateInks") s) := by
  obtain ⟨hx, hb, hml, hr, hown, hts, hlocks, hin, hK, hSt, hl, hxt⟩ := id hC
  have hw := hts _ (zmd_w _ _ _ hk)
  have hy : zmy j = zyy j := by
    unfold zmy
    rw [show Nat.beq j 1000 = false by cases h : Nat.beq j 1000 with
      | false => rfl
      | true => have := Nat.eq_of_beq_eq_true h; omega, show Nat.beq j 1001 = false by cases h : Nat.beq j 1001 with
      | false => rfl
      | true => have := Nat.eq_of_beq_eq_true h; omega, show Nat.blt j 1010 = true by rw [Nat.blt_eq]; omega]
  unfold zwmd at hw
  refine ⟨fun h => ?_, fun h => ?_⟩
  · rw [h, hy] at hw; exact hw
  · have ho : zown n < 20 := by
      rcases Nat.lt_or_ge (zown n) 20 with ho | ho
      · exact ho
      · exfalso
        unfold zmr at hk
        rw [show zmd.getD (zown n) [] = [] by rw [List.getD_eq_getElem?_getD, List.getElem?_eq_none (by rw [zmd_l]; exact ho)]; rfl] at hk; cases hk
    have hm := znest_key _ ho (k, j) (zlk_mem hk) h
    have h7 := hSt.2.2.2.2.2.2.1
    generalize znd = L at hm h7
    exact h7 (zown n, k, j) hm
theorem zlocsz {lst : List Value} {ls : Array Slot} (hL : zLs (zmax n) lst ls) : ls.size = zmax n := hL.2.1
/-- rooms of caller and callee -/
def zRm (R : Room) (d n : Nat) : Prop := zmu d n + 20 ≤ R.frames ∧ 40 * zmu d n + 300 ≤ R.locals
theorem zRm_call {d d' k mc ms : Nat} (hR : zRm R d n) (hk : k < 352) (hd : zmu d' k < zmu d n) : (zroom d' k mc ms).frames + 1 ≤ R.frames ∧ 8 + (zmax k + 11) + (zroom d' k mc ms).locals ≤ R.locals := by
  exact zar (zrk_max k hk).2 hR.1 hR.2 hd
theorem zcallB {d d' k j : Nat} {mc ms : Nat} (hC : zCx D dT B0 z p l R s m args meth c n) (hRm : zRm R d n) (hk : zmr n k = some j) (hj : j < 351) (hh : zhh j = []) (hn : znest (zown n) k = false) (hmu : zmu d' j < zmu d n) : CallB R s args (zcn (zown n)) k (zyy j) (zcd j) (zmax j) (zret j) (zwsm j) (zroom d' j mc ms) mc ms (zpar j) := by
  obtain ⟨hx, hb, hml, hr, hown, hts, hlocks, hin, hK, hSt, hl, hxt⟩ := id hC
  obtain ⟨m1, m2, m3, m4, m5, m6⟩ := zmok_at (k := j) (by omega)
  obtain ⟨w1, w2, w3, w4⟩ := zme_at hj hts
  obtain ⟨r1, r2⟩ := zRm_call (mc := mc) (ms := ms) hRm (k := j) (by omega) hmu
  have hcw : zcode j = .code (zyy j) (zcd j) (zmax j) (zret j) := by unfold zcode; rw [hh]
  refine ⟨rfl, rfl, r1, r2, pay_in hts (zgood hj), ?_, ?_, w3, m3, m1, (zlink hC hk (by omega)).1 hn⟩
  · rw [← hcw]; exact List.mem_cons_self
  · rw [← hcw]; exact hts _ (zcode_w j hj)
theorem zrecv {h : Hp} {H : Heap} {a o : Nat} (hK : zKs D dT s) (hR : zRep D dT B0 h H) (ho : o < 12) (hk : zK h a = o + 1) : ∃ cellB : Cell, H[a]? = some cellB ∧ cellB.vm.isStatics = false ∧ s.vm.findClass (zcn o) = some cellB.cls := by
  rcases Nat.lt_or_ge o 11 with h1 | h1
  · obtain ⟨cell, q1, q2, q3, q4⟩ := (hR.2.2.2 a).1 o hk h1
    exact ⟨cell, q1, by rw [q3]; rfl, by rw [q2]; exact (hK.1 o _ (zcx_at h1)).2.1⟩
  · obtain rfl : o = 11 := by omega
    obtain ⟨cell, g1, g2, g3, g4, g5⟩ := (hR.2.2.2 a).2.1 hk
    exact ⟨cell, g1, g2, by rw [g4]; exact hK.2.2.2.1⟩
theorem zcallV {pc d d' k j a : Nat} {lst st rest : List Value} {h h' : Hp} {r : zO} (hC : zCx D dT B0 z p l R s m args meth c n) (hRm : zRm R d n) (hd : decode (zcd n) pc = .ok (.invokevirtual k, 3)) (hk : zmr n k = some j) (hj : j < 351) (hh : zhh j = []) (hst : zstc j = false) (hin' : ¬ zin j < 99) (hnn : znest (zown n) k = false) (ho : zown j < 12) (hmu : zmu d' j < zmu d n)
    (hsp : st = st.take (zpar j) ++ .ref a :: rest) (hlen : (st.take (zpar j)).length = zpar j) (hka : zK h a = zown j + 1) (hr4 : rest.length ≤ 4) (hmon : zC h ≤ zC h' ∧ zS h ≤ zS h') (hrm : zC h' ≤ C0 + R.cells ∧ zS h' ≤ S0 + R.slots)
    (hM : zMet D dT B0 z l d' j (.ref a :: (st.take (zpar j)).reverse) h r h') (ka : zAns D dT B0 C0 S0 p l e R s m args below meth c n Q pc lst rest r h') : zWk D dT B0 C0 S0 p l e R s m args below meth c n Q pc lst st h := by
  obtain ⟨hx, hb, hml, hr, hown, hts, hlocks, hin, hK, hSt, hl, hxt⟩ := id hC
  intro H locs cells slots ls hR hS hc hsl hL
  obtain ⟨w1, w2, w3, w4⟩ := zme_at hj hts
  obtain ⟨m1, m2, m3, m4, m5, m6⟩ := zmok_at (k := j) (by omega)
  have hsel := w4 hst hin'
  refine zrunX (as := .ref a :: (st.take (zpar j)).reverse) hS hc hsl hL hmon ?_ ka
  refine vx_runV (Ts := zgw) (own := zcn (zown n)) (C := zcn (zown j)) (b := a) (As := (st.take (zpar j)).reverse) (nL := zmax n) (cc := zcd n) ⟨hx, hb, hml, hown, hts⟩ hM ⟨zcallB hC hRm hk hj hh hnn hmu, w2 hst, by rw [← m2]; exact hsel⟩ ⟨zPc_blind, zrecv hK hR ho hka, zblind_pre hC hR hS⟩ rfl (by rw [List.length_reverse]; exact hlen) (zlocsz hL) (by rw [List.reverse_reverse]; exact hsp) ?_ hd ⟨by omega, by omega⟩
  have := zcat_sum hr4
  show 2 * 0 + _ ≤ 8
  omega
theorem zcallS {pc d d' k j : Nat} {lst st : List Value} {h h' : Hp} {r : zO} (hC : zCx D dT B0 z p l R s m args meth c n) (hRm : zRm R d n) (hd : decode (zcd n) pc = .ok (.invokestatic k, 3)) (hk : zmr n k = some j) (hj : j < 351) (hh : zhh j = []) (hst : zstc j = true) (hnn : znest (zown n) k = false) (hmu : zmu d' j < zmu d n)
    (hlen : (st.take (zpar j)).length = zpar j) (hr4 : (st.drop (zpar j)).length ≤ 4) (hmon : zC h ≤ zC h' ∧ zS h ≤ zS h') (hrm : zC h' ≤ C0 + R.cells ∧ zS h' ≤ S0 + R.slots)
    (hM : zMet D dT B0 z l d' j (st.take (zpar j)).reverse h r h') (ka : zAns D dT B0 C0 S0 p l e R s m args below meth c n Q pc lst (st.drop (zpar j)) r h') : zWk D dT B0 C0 S0 p l e R s m args below meth c n Q pc lst st h := by
  obtain ⟨hx, hb, hml, hr, hown, hts, hlocks, hin, hK, hSt, hl, hxt⟩ := id hC
  intro H locs cells slots ls hR hS hc hsl hL
  obtain ⟨w1, w2, w3, w4⟩ := zme_at hj hts
  refine zrunX (as := (st.take (zpar j)).reverse) hS hc hsl hL hmon ?_ ka
  refine vx_runS (Ts := zgw) (own := zcn (zown n)) (As := (st.take (zpar j)).reverse) (nL := zmax n) (cc := zcd n) ⟨hx, hb, hml, hown, hts⟩ hM ⟨zcallB hC hRm hk hj hh hnn hmu, w1 hst⟩ ⟨zPc_blind, zblind_pre hC hR hS⟩ rfl (by rw [List.length_reverse]; exact hlen) (zlocsz hL) (by rw [List.reverse_reverse]; exact (List.take_append_drop _ _).symm) ?_ hd ⟨by omega, by omega⟩
  have := zcat_sum hr4
  show 2 * 0 + _ ≤ 8
  omega
theorem zcallSX {pc d d' k j : Nat} {lst st : List Value} {h h' : Hp} {r : zO} (hC : zCx D dT B0 z p l R s m args meth c n) (hRm : zRm R d n) (hd : decode (zcd n) pc = .ok (.invokestatic k, 3)) (hk : zmr n k = some j) (hj : j < 351) {h1 : Nat × Nat × Nat × Nat} {t1 : List (Nat × Nat × Nat × Nat)} (hh : zhh j = h1 :: t1) (hst : zstc j = true) (hnn : znest (zown n) k = false) (hmu : zmu d' j < zmu d n)
    (hlen : (st.take (zpar j)).length = zpar j) (hr4 : (st.drop (zpar j)).length ≤ 4) (hmon : zC h ≤ zC h' ∧ zS h ≤ zS h') (hrm : zC h' ≤ C0 + R.cells ∧ zS h' ≤ S0 + R.slots)
    (hM : zMet D dT B0 z l d' j (st.take (zpar j)).reverse h r h') (ka : zAns D dT B0 C0 S0 p l e R s m args below meth c n Q pc lst (st.drop (zpar j)) r h') : zWk D dT B0 C0 S0 p l e R s m args below meth c n Q pc lst st h := by
  obtain ⟨hx, hb, hml, hr, hown, hts, hlocks, hin, hK, hSt, hl, hxt⟩ := id hC
  intro H locs cells slots ls hR hS hc hsl hL
  obtain ⟨w1, w2, w3, w4⟩ := zme_at hj hts
  obtain ⟨m1, m2, m3, m4, m5, m6⟩ := zmok_at (k := j) (by omega)
  obtain ⟨r1, r2⟩ := zRm_call (mc := zC h' - zC h) (ms := zS h' - zS h) hRm (k := j) (by omega) hmu
  have hcw : zcode j = .codeWith (zyy j) (zcd j) (zmax j) (zret j) (h1 :: t1) := by unfold zcode; rw [hh]
  refine zrunX (as := (st.take (zpar j)).reverse) hS hc hsl hL hmon ?_ ka
  refine vx_runSX (hh := h1 :: t1) (Ts := zgw) (own := zcn (zown n)) (As := (st.take (zpar j)).reverse) (nL := zmax n) (cc := zcd n) ⟨hx, hb, hml, hown, hts⟩ hM ⟨⟨rfl, rfl, r1, r2, pay_in hts (zgood hj), by rw [← hcw]; exact List.mem_cons_self⟩, by rw [← hcw]; exact hts _ (zcode_w j hj), w3, m3, m1, (zlink hC hk (by omega)).1 hnn, w1 hst⟩ ⟨zPc_blind, zblind_pre hC hR hS⟩ rfl (by rw [List.length_reverse]; exact hlen) (zlocsz hL) (by rw [List.reverse_reverse]; exact (List.take_append_drop _ _).symm) ?_ hd ⟨by omega, by omega⟩
  have := zcat_sum hr4
  show 2 * 0 + _ ≤ 8
  omega
/-- a constructor that returns -/
theorem zMet_v {d j : Nat} {as : List Value} {h h' : Hp} {v : Option Value} (hM : zMet D dT B0 z l d j as h (.inl v) h') : Met l (zyy j) (zwsm j) (zroom d j (zC h' - zC h) (zS h' - zS h)) (zPc D dT B0 z as h) (zQc D dT B0 (.inl v) h') (zC h' - zC h) (zS h' - zS h) (zAp B0) := by
  intro p e ha hc hk s m args below hf happ hP hK
  obtain ⟨k, o, h1, h2, h3, hQ⟩ := hM p e ha hc hk s m args below hf happ hP hK
  refine ⟨k, o, h1, h2, h3, ?_⟩
  rcases hQ with hQ | ⟨q, -, E, ce, L, hx, -⟩
  · exact hQ
  · obtain ⟨x, hx, -⟩ := hx; cases hx
theorem zcallI {pc d d' k j a : Nat} {lst st rest : List Value} {h h' : Hp} {v : Option Value} (hC : zCx D dT B0 z p l R s m args meth c n) (hRm : zRm R d n) (hd : decode (zcd n) pc = .ok (.invokespecial k, 3)) (hk : zmr n k = some j) (hj : j < 351) (hh : zhh j = []) (hst : zstc j = false) (hin' : zin j < 99) (hmu : zmu d' j < zmu d n)
    (hsp : st = st.take (zpar j) ++ .ref a :: rest) (hlen : (st.take (zpar j)).length = zpar j) (hr4 : rest.length ≤ 4) (hmon : zC h ≤ zC h' ∧ zS h ≤ zS h') (hrm : zC h' ≤ C0 + R.cells ∧ zS h' ≤ S0 + R.slots)
    (hM : zMet D dT B0 z l d' j (.ref a :: (st.take (zpar j)).reverse) h (.inl v) h') (ka : zAns D dT B0 C0 S0 p l e R s m args below meth c n Q pc lst rest (.inl v) h') : zWk D dT B0 C0 S0 p l e R s m args below meth c n Q pc lst st h := by
  obtain ⟨hx, hb, hml, hr, hown, hts, hlocks, hin, hK, hSt, hl, hxt⟩ := id hC
  intro H locs cells slots ls hR hS hc hsl hL
  obtain ⟨w1, w2, w3, w4⟩ := zme_at hj hts
  obtain ⟨m1, m2, m3, m4, m5, m6⟩ := zmok_at (k := j) (by omega)
  obtain ⟨i1, i2⟩ := m5 hin'
  obtain ⟨r1, r2⟩ := zRm_call (mc := zC h' - zC h) (ms := zS h' - zS h) hRm (k := j) (by omega) hmu
  have hcw : zcode j = .code (zyy j) (zcd j) (zmax j) none := by unfold zcode; rw [hh, i2]
  have hsum : 2 * (F0 m pc ls st).monitorRoom + (rest.map fun v => v.category).sum ≤ 8 := by
    have := zcat_sum hr4
    show 2 * 0 + _ ≤ 8
    omega
  have hrun : va_Run p l e R s m args below meth c H locs cells slots (zC h' - zC h) (zS h' - zS h) (F0 m pc ls st) rest (zQc D dT B0 (.inl v) h' (Value.ref a :: (st.take (zpar j)).reverse).toArray) (zAp B0) := by
    cases hnn : znest (zown n) k with
    | false =>
      have hcb := zcallB (mc := zC h' - zC h) (ms := zS h' - zS h) hC hRm hk hj hh hnn hmu
      rw [i2] at hcb
      exact va_runI (Ts := zgw) (own := zcn (zown n)) (b := a) (As := (st.take (zpar j)).reverse) (nL := zmax n) (cc := zcd n) ⟨hx, hb, hml, hown, hts⟩ (zMet_v hM) ⟨hcb, i1, w2 hst⟩ ⟨zPc_blind, zblind_pre hC hR hS⟩ rfl (by rw [List.length_reverse]; exact hlen) (zlocsz hL) (by rw [List.reverse_reverse]; exact hsp) hsum hd ⟨by omega, by omega⟩
    | true =>
      exact va_runIN (Ts := zgw) (own := zcn (zown n)) (host := "LateInks") (b := a) (As := (st.take (zpar j)).reverse) (nL := zmax n) (cc := zcd n) ⟨hx, hb, hml, hown, hts⟩ (zMet_v hM) ⟨⟨⟨rfl, rfl, r1, r2, pay_in hts (zgood hj), by rw [← hcw]; exact List.mem_cons_self⟩, by rw [← hcw]; exact hts _ (zcode_w j hj), w3, m3, m1, va_Nw.use rfl ((zlink hC hk (by omega)).2 hnn)⟩, i1, w2 hst⟩ ⟨zPc_blind, zblind_pre hC hR hS⟩ rfl (by rw [List.length_reverse]; exact hlen) (zlocsz hL) (by rw [List.reverse_reverse]; exact hsp) hsum hd ⟨by omega, by omega⟩
  refine zrunX (as := Value.ref a :: (st.take (zpar j)).reverse) hS hc hsl hL hmon (fun T hT X => ?_) ka
  obtain ⟨v', st₀, t, T', L, e0, X', hLf, e1, e2, hq, hgo⟩ := hrun T hT X
  exact Or.inl ⟨v', st₀, t, T', L, e0, X', hLf, e1, e2, hq, hgo⟩
end
