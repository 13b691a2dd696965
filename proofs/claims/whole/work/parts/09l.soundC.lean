/-! SOUNDNESS: the third part, all cases -/
theorem zin_99 : ∀ n, n < 352 → zin n ≤ 99 ∧ (zstc n = true → zin n = 99) ∧ (zstc n = false → zown n < 12) := by decide +kernel
theorem znest_in : ∀ o, o < 20 → ∀ q ∈ zmd.getD o [], znest o q.1 = true → zin q.2 < 99 := by decide +kernel
theorem zmr_lt {n k j : Nat} (h : zmr n k = some j) : zown n < 20 := by
  rcases Nat.lt_or_ge (zown n) 20 with ho | ho
  · exact ho
  · exfalso
    unfold zmr at h
    rw [show zmd.getD (zown n) [] = [] by rw [List.getD_eq_getElem?_getD, List.getElem?_eq_none (by rw [zmd_l]; exact ho)]; rfl] at h; cases h
theorem znest_f {n k j : Nat} (h : zmr n k = some j) (hj : zin j = 99) : znest (zown n) k = false := by
  cases hq : znest (zown n) k with
  | false => rfl
  | true =>
    have := znest_in _ (zmr_lt h) (k, j) (zlk_mem h) hq
    dsimp only at this
    omega
theorem zmx_code : Lib.Math.max.code = zcd 306 ∧ Lib.MathLoose.max_long.code = zcd 307 ∧ Lib.Math.min.code = zcd 308 := by
  unfold zcd
  rw [zm_306, zm_307, zm_308]
  decide +kernel
theorem zmx_name : Lib.Math.max.name = zyy 306 ∧ Lib.MathLoose.max_long.x = zyy 307 ∧ Lib.Math.min.name = zyy 308 := by
  unfold zyy
  rw [zm_306, zm_307, zm_308]
  decide +kernel
theorem zmath_ok {j : Nat} : (zmath j = 0 ∧ j ≠ 306 ∧ j ≠ 307 ∧ j ≠ 308) ∨ (zmath j = 1 ∧ j = 306) ∨ (zmath j = 2 ∧ j = 307) ∨ (zmath j = 3 ∧ j = 308) := by
  unfold zmath
  split
  · rename_i h; right; left; exact ⟨rfl, Nat.eq_of_beq_eq_true h⟩
  · rename_i h
    have h1 := Nat.ne_of_beq_eq_false h
    split
    · rename_i h; right; right; left; exact ⟨rfl, Nat.eq_of_beq_eq_true h⟩
    · rename_i h
      have h2 := Nat.ne_of_beq_eq_false h
      split
      · rename_i h; right; right; right; exact ⟨rfl, Nat.eq_of_beq_eq_true h⟩
      · rename_i h
        exact Or.inl ⟨rfl, h1, h2, Nat.ne_of_beq_eq_false h⟩
theorem ztk {st : List Value} {k a : Nat} {r : List Value} (h : st.drop k = .ref a :: r) (hk : k ≤ st.length) : st = st.take k ++ .ref a :: r ∧ (st.take k).length = k := ⟨by rw [← h]; exact (List.take_append_drop _ _).symm, by rw [List.length_take]; omega⟩
section
variable {D : va_G} {dT : Nat → ClassId} {B0 C0 S0 : Nat} {z : ZE} {p : Program} {l : Launch} {e : Env} {R : Room} {s : State} {m : MethodId} {args : Array Value} {below : List Frame} {meth : Method} {c : Code} {n : Nat}
/-- a call as the third part makes it -/
def zCall (D : va_G) (dT : Nat → ClassId) (B0 C0 S0 : Nat) (z : ZE) (p : Program) (l : Launch) (e : Env) (R : Room) (s : State) (m : MethodId) (args : Array Value) (below : List Frame) (meth : Method) (c : Code) (d n : Nat) (Q : State → Prop) (pc : Nat) (lst : List Value) (h : Hp) (j : Nat) (as rest : List Value) : Prop :=
  ∃ d' r1 h1, zmu d' j < zmu d n ∧ zMet D dT B0 z l d' j as h r1 h1 ∧ (zin j < 99 → ∃ v, r1 = .inl v) ∧ (zC h ≤ zC h1 ∧ zS h ≤ zS h1) ∧ (zC h1 ≤ C0 + R.cells ∧ zS h1 ≤ S0 + R.slots) ∧ zAns D dT B0 C0 S0 p l e R s m args below meth c n Q pc lst rest r1 h1
theorem zthrowG {own cls : String} {pc ik ic x : Nat} {lst : List Value} {h h' : Hp} {r : zO} {mc ms d : Nat} (hC : zCx D dT B0 z p l R s m args meth c n) (hRm : zRm R d n) (hown : s.vm.findClass own = some m.cls) (hE : cls = zexn.getD x "") (hx5 : x < 5) (hfit : Bundle.fit cls = true) (hk : (Cond.classLink own ik cls).before args s = true) (hini : (Cond.initialized cls).before args s = true) (hat : ∀ w ∈ vx_at0 own ic cls zsup, w.before args s = true)
    (hgood : ∀ w ∈ Cond.classLink own ik cls :: Cond.initialized cls :: vx_at0 own ic cls zsup, vx_ot w = true) (ht0 : c.exceptionTable.toList = [])
    (d0 : decode (zcd n) pc = .ok (.new ik, 3)) (d3 : decode (zcd n) (pc + 3) = .ok (.dup, 1)) (d4 : decode (zcd n) (pc + 4) = .ok (.invokespecial ic, 3)) (d7 : decode (zcd n) (pc + 7) = .ok (.athrow, 1))
    (hmc : zC h' = C0 + mc) (hms : zS h' = S0 + ms) (hmR : mc ≤ R.cells ∧ ms ≤ R.slots) (hcle : C0 ≤ zC h ∧ S0 ≤ zS h) (ho : .inr x = r) (hh : znw h 0 6 = h') : zWk D dT B0 C0 S0 p l e R s m args below meth c n (vx_MQ below (zQc D dT B0 r h') (zXc D dT B0 r h') args s mc ms (zAp B0)) pc lst [] h := by
  obtain ⟨hx, hb, hml, hr, -, hts, hlocks, hin, hK, hSt, hl, hxt⟩ := id hC
  intro H locs cells slots ls hR hS hc hsl hL
  have eT : zT h = H.size := hR.1
  subst hh
  have eC : zC (znw h 0 6) = zC h + 1 := rfl
  have eS : zS (znw h 0 6) = zS h + 6 := rfl
  have f1 : zsup.length + 3 < R.frames := by
    have := hRm.1
    show 2 + 3 < R.frames
    omega
  have f2 : (([] : List Value).map fun v => v.category).sum + (13 * (zsup.length + 1) + 42) ≤ R.locals := by
    have := hRm.2
    show 0 + (13 * (2 + 1) + 42) ≤ R.locals
    omega
  refine zx_throw0 (names := zsup) (cls := cls) (own := own) (A := zAp B0) hx hb hl hown hfit zsup_fit hk hini hat hgood hSt.1 hSt.2.1 hS (by rw [hml]; exact zlocsz hL) d0 d3 d4 d7 (by rw [ht0]; intro x hx; cases hx) f1 f2 (by omega) (by omega) hlocks ?_ hS.2.2 (by omega) (by omega)
  intro t hal hsz hsame
  refine ⟨x, ho.symm, hx5, hE, ?_, ?_, ?_⟩
  · refine hR.new hsz hsame ?_
    have eK : zK (znw h 0 6) H.size = 0 := if_pos eT.symm
    refine ⟨?_, ?_, ?_, ?_, ?_⟩
    · rw [eK]; intro c' hc' hl'; omega
    · rw [eK]; intro e; omega
    · rw [eK]; intro e; omega
    · rw [eK]; intro e; omega
    · rw [eK]; intro e; exact absurd rfl e
  · exact Nat.le_trans hS.1 (by omega)
  · intro q' h1 h2
    rw [hsame q' (Nat.lt_of_lt_of_le h1 hS.1)]
    exact hS.2.1 q' h1 h2
theorem zthrowN {pc k ic ci : Nat} {lst : List Value} {h h' : Hp} {r : zO} {mc ms d : Nat} (hC : zCx D dT B0 z p l R s m args meth c n) (hRm : zRm R d n) (d0 : decode (zcd n) pc = .ok (.new k, 3)) (hci : zcl n k = some ci) (t4 : zhh n = []) (t5 : ci - 100 < 5) (h100 : 100 ≤ ci)
    (d3 : decode (zcd n) (pc + 3) = .ok (.dup, 1)) (d4 : decode (zcd n) (pc + 4) = .ok (.invokespecial ic, 3)) (d7 : decode (zcd n) (pc + 7) = .ok (.athrow, 1)) (hic : zmr n ic = some (1010 + (ci - 100)))
    (hmc : zC h' = C0 + mc) (hms : zS h' = S0 + ms) (hmR : mc ≤ R.cells ∧ ms ≤ R.slots) (hcle : C0 ≤ zC h ∧ S0 ≤ zS h) (ho : .inr (ci - 100) = r) (hh : znw h 0 6 = h') : zWk D dT B0 C0 S0 p l e R s m args below meth c n (vx_MQ below (zQc D dT B0 r h') (zXc D dT B0 r h') args s mc ms (zAp B0)) pc lst [] h := by
  obtain ⟨hx, hb, hml, hr, hown, hts, hlocks, hin, hK, hSt, hl, hxt⟩ := id hC
  have hxl : (zown n, ic, ci - 100) ∈ zexl := zmd_x hic
  have hxw := hts _ (zcr_w _ _ _ hci)
  have hcn : zcname ci = zexn.getD (ci - 100) "" := by
    unfold zcname
    rw [show Nat.blt ci 100 = false by cases hq : Nat.blt ci 100 with
      | false => rfl
      | true => rw [Nat.blt_eq] at hq; omega]
  rw [hcn] at hxw
  obtain ⟨i1, i2, i3⟩ := zexi2 (ci - 100) t5
  have hini : (Cond.initialized (zexn.getD (ci - 100) "")).before args s = true := hts _ (zexW_in (zexi (ci - 100) t5) i1)
  have hat : ∀ w ∈ vx_at0 (zcn (zown n)) ic (zexn.getD (ci - 100) "") zsup, w.before args s = true := zex_hat (q := (zown n, ic, ci - 100)) hxl t5 hts hSt
  have hot : ∀ w ∈ vx_at0 (zcn (zown n)) ic (zexn.getD (ci - 100) "") zsup, vx_ot w = true := fun w hw => (zex_a (zown n, ic, ci - 100) hxl w hw).2
  have ht0 : c.exceptionTable.toList = [] := by
    rw [t4] at hxt
    exact List.map_eq_nil_iff.mp hxt
  obtain ⟨own, hO⟩ : ∃ own, own = zcn (zown n) := ⟨_, rfl⟩
  obtain ⟨cls, hE⟩ : ∃ cls, cls = zexn.getD (ci - 100) "" := ⟨_, rfl⟩
  rw [← hO] at hown hxw hat hot
  rw [← hE] at hxw i1 i2 i3 hini hat hot
  exact zthrowG hC hRm hown hE t5 i3 hxw hini hat (fun w hw => by
    rcases List.mem_cons.mp hw with rfl | hw
    · rfl
    · rcases List.mem_cons.mp hw with rfl | hw
      · exact i2
      · exact hot w hw) ht0 d0 d3 d4 d7 hmc hms hmR hcle ho hh
set_option maxHeartbeats 4000000 in
theorem zsC_ok {pc len d : Nat} {i : Instr} {lst st : List Value} {h h' : Hp} {q : zRes} {r : zO} {mc ms : Nat} (hn : n < 352) (hC : zCx D dT B0 z p l R s m args meth c n) (hRm : zRm R d n) (hd : decode (zcd n) pc = .ok (i, len)) (hs : zsC n pc i len lst st h = some q) (hmc : zC h' = C0 + mc) (hms : zS h' = S0 + ms) (hmR : mc ≤ R.cells ∧ ms ≤ R.slots) (hcle : C0 ≤ zC h ∧ S0 ≤ zS h)
    (k1 : ∀ pc' lst' st' h1, q = .inl (pc', lst', st', h1) → (zC h1 ≤ C0 + R.cells ∧ zS h1 ≤ S0 + R.slots) ∧ zWk D dT B0 C0 S0 p l e R s m args below meth c n (vx_MQ below (zQc D dT B0 r h') (zXc D dT B0 r h') args s mc ms (zAp B0)) pc' lst' st' h1)
    (k2 : ∀ o h1, q = .inr (.inl (o, h1)) → o = r ∧ h1 = h')
    (k3 : ∀ j as rest, q = .inr (.inr (j, as, rest)) → zCall D dT B0 C0 S0 z p l e R s m args below meth c d n (vx_MQ below (zQc D dT B0 r h') (zXc D dT B0 r h') args s mc ms (zAp B0)) pc lst h j as rest) : zWk D dT B0 C0 S0 p l e R s m args below meth c n (vx_MQ below (zQc D dT B0 r h') (zXc D dT B0 r h') args s mc ms (zAp B0)) pc lst st h := by
  obtain ⟨hx, hb, hml, hr, hown, hts, hlocks, hin, hK, hSt, hl, hxt⟩ := id hC
  have hfr : 1 ≤ R.frames := by have := hRm.1; omega
  have hlo : 300 ≤ R.locals := by have := hRm.2; omega
  unfold zsC at hs
  split at hs
  -- new
  · have hsq := zl_ok hs; clear hs; obtain ⟨rfl, hs⟩ := hsq
    have hsq := zop_ok hs; clear hs; obtain ⟨ci, hci, hs⟩ := hsq
    split at hs
    · rename_i hlt
      have hlt' : ci < 11 := by rwa [Nat.blt_eq] at hlt
      obtain ⟨g1, g2⟩ := k1 _ _ _ _ (zgo_ok hs)
      exact znewobj hC hd hci hlt' g1 g2
    · split at hs
      · rename_i hcond
        simp only [Bool.and_eq_true, Nat.ble_eq, List.isEmpty_iff] at hcond
        obtain ⟨⟨h100, hthr⟩, rfl⟩ := hcond
        obtain ⟨ho, hh⟩ := k2 _ _ (Option.some.inj hs).symm
        unfold zthr at hthr
        simp only [Bool.and_eq_true, List.isEmpty_iff] at hthr
        obtain ⟨⟨⟨⟨t1, t2⟩, t3⟩, t4⟩, t5⟩ := hthr
        rw [Nat.blt_eq] at t5
        have d3 : decode (zcd n) (pc + 3) = .ok (.dup, 1) := by
          split at t1
          · rename_i hf; exact zfetch_ok hn hf
          · cases t1
        have d7 : decode (zcd n) (pc + 7) = .ok (.athrow, 1) := by
          split at t3
          · rename_i hf; exact zfetch_ok hn hf
          · cases t3
        obtain ⟨ic, d4, hic⟩ : ∃ ic, decode (zcd n) (pc + 4) = .ok (.invokespecial ic, 3) ∧ zmr n ic = some (1010 + (ci - 100)) := by
          split at t2
          · rename_i k' hf
            split at t2
            · rename_i q' hq'
              refine ⟨k', zfetch_ok hn hf, ?_⟩
              rw [hq', Nat.eq_of_beq_eq_true t2]
            · cases t2
          · cases t2
        exact zthrowN hC hRm hd hci t4 t5 h100 d3 d4 d7 hic hmc hms hmR hcle ho hh
      · cases hs
  -- invokestatic
  · have hsq := zl_ok hs; clear hs; obtain ⟨rfl, hs⟩ := hsq
    have hsq := zop_ok hs; clear hs; obtain ⟨j, hj, hs⟩ := hsq
    split at hs
    · rename_i hb1
      have ej := Nat.eq_of_beq_eq_true hb1
      subst ej
      split at hs
      · rename_i cn dp b sp a rest
        have hsq := zite_ok hs; clear hs; obtain ⟨⟨⟨ka, kb, kab⟩, ⟨q1, q2, q3⟩, q4, q5, q6⟩, hs⟩ := hsq
        exact zcopy hC hd hj q6 hfr (by omega) ka kb kab q1 q2 q3 q4 q5 (k1 _ _ _ _ (zgo_ok hs)).2
      · cases hs
    · split at hs
      · rename_i hcond
        simp only [Bool.and_eq_true, Nat.ble_eq, Nat.blt_eq] at hcond
        obtain ⟨⟨⟨c1, c2⟩, c3⟩, c4⟩ := hcond
        have hnn := znest_f hj ((zin_99 j (by omega)).2.1 c2)
        have hlen : (st.take (zpar j)).length = zpar j := by rw [List.length_take]; omega
        obtain ⟨w1, w2, w3, w4⟩ := zme_at c1 hts
        rcases zmath_ok (j := j) with ⟨e0, -⟩ | ⟨e0, rfl⟩ | ⟨e0, rfl⟩ | ⟨e0, rfl⟩
        · rw [e0] at hs
          obtain ⟨d', r1, h1, g1, g2, g3, g4, g5, g6⟩ := k3 _ _ _ (Option.some.inj hs).symm
          cases hhh : zhh j with
          | nil => exact zcallS hC hRm hd hj c1 hhh c2 hnn g1 hlen c4 g4 g5 g2 g6
          | cons a1 t1 => exact zcallSX hC hRm hd hj c1 hhh c2 hnn g1 hlen c4 g4 g5 g2 g6
        · rw [e0] at hs
          have hsq := z2_ok hs; clear hs; obtain ⟨x, y, rest, rfl, hs⟩ := hsq
          intro H locs cells slots ls hR hS hc hsl hL
          have hm := zmx_name.1
          have hcw := hts _ (zcode_w 306 (by omega))
          rw [show zcode 306 = .code (zyy 306) (zcd 306) 2 (some .int) by rfl, ← hm, ← zmx_code.1] at hcw
          have hg5 := (k1 _ _ _ _ (zgo_ok hs)).1
          refine va_mmax hx hb (by rw [hml]; exact (zlocsz hL).symm) hown (by rw [hm]; exact (zlink hC hj (by omega)).1 hnn) (by rw [hm]; exact w1 c2) w3 hcw hfr ?_ (by omega) (by omega) hd ((k1 _ _ _ _ (zgo_ok hs)).2 H locs cells slots ls hR hS hc hsl hL)
          have := zcat_sum (r := rest) c4
          omega
        · rw [e0] at hs
          have hsq := zq2_ok hs; clear hs; obtain ⟨x, y, rest, rfl, hs⟩ := hsq
          intro H locs cells slots ls hR hS hc hsl hL
          have hm := zmx_name.2.1
          have hcw := hts _ (zcode_w 307 (by omega))
          rw [show zcode 307 = .code (zyy 307) (zcd 307) 4 (some .long) by rfl, ← hm, ← zmx_code.2.1] at hcw
          have hg5 := (k1 _ _ _ _ (zgo_ok hs)).1
          refine va_mmax_long hx hb (by rw [hml]; exact (zlocsz hL).symm) hown (by rw [hm]; exact (zlink hC hj (by omega)).1 hnn) (by rw [hm]; exact w1 c2) w3 hcw hfr ?_ (by omega) (by omega) hd ((k1 _ _ _ _ (zgo_ok hs)).2 H locs cells slots ls hR hS hc hsl hL)
          have := zcat_sum (r := rest) c4
          omega
        · rw [e0] at hs
          have hsq := z2_ok hs; clear hs; obtain ⟨x, y, rest, rfl, hs⟩ := hsq
          intro H locs cells slots ls hR hS hc hsl hL
          have hm := zmx_name.2.2
          have hcw := hts _ (zcode_w 308 (by omega))
          rw [show zcode 308 = .code (zyy 308) (zcd 308) 2 (some .int) by rfl, ← hm, ← zmx_code.2.2] at hcw
          have hg5 := (k1 _ _ _ _ (zgo_ok hs)).1
          refine va_mmin hx hb (by rw [hml]; exact (zlocsz hL).symm) hown (by rw [hm]; exact (zlink hC hj (by omega)).1 hnn) (by rw [hm]; exact w1 c2) w3 hcw hfr ?_ (by omega) (by omega) hd ((k1 _ _ _ _ (zgo_ok hs)).2 H locs cells slots ls hR hS hc hsl hL)
          have := zcat_sum (r := rest) c4
          omega
      · cases hs
  -- invokevirtual
  · have hsq := zl_ok hs; clear hs; obtain ⟨rfl, hs⟩ := hsq
    have hsq := zop_ok hs; clear hs; obtain ⟨j, hj, hs⟩ := hsq
    split at hs
    · rename_i hcond
      simp only [Bool.and_eq_true, Nat.ble_eq, Nat.blt_eq, Bool.not_eq_true'] at hcond
      obtain ⟨⟨⟨c1, c2⟩, c3⟩, c4⟩ := hcond
      have e99 := Nat.eq_of_beq_eq_true c3
      have hsq := za1_ok hs; clear hs; obtain ⟨a, rest, hdr, hs⟩ := hsq
      have hsq := zite_ok hs; clear hs; obtain ⟨⟨hka, hr4⟩, hs⟩ := hsq
      obtain ⟨hsp, hlen⟩ := ztk hdr c4
      obtain ⟨d', r1, h1, g1, g2, g3, g4, g5, g6⟩ := k3 _ _ _ (Option.some.inj hs).symm
      have hhh : zhh j = [] := by
        rcases (zmok_at (k := j) (by omega)).2.2.2.2.2 with hq | hq
        · exact hq
        · rw [hq] at c2; cases c2
      exact zcallV hC hRm hd hj c1 hhh c2 (by omega) (znest_f hj e99) ((zin_99 j (by omega)).2.2 c2) g1 hsp hlen hka hr4 g4 g5 g2 g6
    · cases hs
  -- invokespecial
  · have hsq := zl_ok hs; clear hs; obtain ⟨rfl, hs⟩ := hsq
    have hsq := zop_ok hs; clear hs; obtain ⟨j, hj, hs⟩ := hsq
    split at hs
    · rename_i hb1
      have ej := Nat.eq_of_beq_eq_true hb1
      subst ej
      have hsq := za1_ok hs; clear hs; obtain ⟨a, rest, rfl, hs⟩ := hsq
      have hsq := zite_ok hs; clear hs; obtain ⟨hr4, hs⟩ := hsq
      exact zobjinit hC hd hj hr4 hfr (by omega) (k1 _ _ _ _ (zgo_ok hs)).2
    · split at hs
      · rename_i hcond
        simp only [Bool.and_eq_true, Nat.ble_eq, Nat.blt_eq, Bool.not_eq_true'] at hcond
        obtain ⟨⟨⟨c1, c2⟩, c3⟩, c4⟩ := hcond
        have e99 := Nat.eq_of_beq_eq_true c3
        have ho := (zin_99 j (by omega)).2.2 c2
        have hsq := za1_ok hs; clear hs; obtain ⟨a, rest, hdr, hs⟩ := hsq
        have hsq := zite_ok hs; clear hs; obtain ⟨⟨hka, hr4⟩, hs⟩ := hsq
        obtain ⟨hsp, hlen⟩ := ztk hdr c4
        obtain ⟨d', r1, h1, g1, g2, g3, g4, g5, g6⟩ := k3 _ _ _ (Option.some.inj hs).symm
        have hhh : zhh j = [] := by
          rcases (zmok_at (k := j) (by omega)).2.2.2.2.2 with hq | hq
          · exact hq
          · rw [hq] at c2; cases c2
        obtain ⟨v, rfl⟩ := g3 (by omega)
        exact zcallI hC hRm hd hj c1 hhh c2 (by omega) g1 hsp hlen hr4 g4 g5 g2 g6
      · cases hs
  -- ireturn
  · have hsq := zl_ok hs; clear hs; obtain ⟨rfl, hs⟩ := hsq
    split at hs
    · rename_i x
      have hsq := zop_ok hs; clear hs; obtain ⟨ty, hty, hs⟩ := hsq
      have hsq := zite_ok hs; clear hs; obtain ⟨hnr, hs⟩ := hsq
      obtain ⟨rfl, rfl⟩ := k2 _ _ (Option.some.inj hs).symm
      intro H locs cells slots ls hR hS hc hsl hL
      obtain rfl : cells = mc := by omega
      obtain rfl : slots = ms := by omega
      exact vx_ret (W.zret hx hb (by rw [hr, hty]) hnr (fun t ht _ => ⟨_, rfl, rfl, zEnd_of hR hS ht⟩) hS.2.2 hd hlocks)
    · cases hs
  -- lreturn
  · have hsq := zl_ok hs; clear hs; obtain ⟨rfl, hs⟩ := hsq
    split at hs
    · rename_i x
      split at hs
      · rename_i hty
        obtain ⟨rfl, rfl⟩ := k2 _ _ (Option.some.inj hs).symm
        intro H locs cells slots ls hR hS hc hsl hL
        obtain rfl : cells = mc := by omega
        obtain rfl : slots = ms := by omega
        exact vx_ret (W.lret hx hb (by rw [hr, hty]) (fun t ht _ => ⟨_, rfl, rfl, zEnd_of hR hS ht⟩) hS.2.2 hd hlocks)
      · cases hs
    · cases hs
  -- areturn
  · have hsq := zl_ok hs; clear hs; obtain ⟨rfl, hs⟩ := hsq
    split at hs
    · rename_i a
      split at hs
      · rename_i nm hty
        obtain ⟨rfl, rfl⟩ := k2 _ _ (Option.some.inj hs).symm
        intro H locs cells slots ls hR hS hc hsl hL
        obtain rfl : cells = mc := by omega
        obtain rfl : slots = ms := by omega
        exact vx_ret (W.aret hx hb (by rw [hr, hty]) (Or.inl ⟨_, rfl⟩) (Or.inr ⟨_, rfl⟩) (fun t ht _ => ⟨_, rfl, rfl, zEnd_of hR hS ht⟩) hS.2.2 hd hlocks)
      · cases hs
    · cases hs
  -- return
  · have hsq := zl_ok hs; clear hs; obtain ⟨rfl, hs⟩ := hsq
    split at hs
    · split at hs
      · rename_i hty
        obtain ⟨rfl, rfl⟩ := k2 _ _ (Option.some.inj hs).symm
        intro H locs cells slots ls hR hS hc hsl hL
        obtain rfl : cells = mc := by omega
        obtain rfl : slots = ms := by omega
        exact vx_ret (W.vret hx hb (by rw [hr, hty]) (fun t ht _ => ⟨_, rfl, rfl, zEnd_of hR hS ht⟩) hS.2.2 hd hlocks)
      · cases hs
    · cases hs
  · cases hs
end
