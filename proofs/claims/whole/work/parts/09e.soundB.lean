/-! SOUNDNESS: fields and arrays -/
section
variable {D : va_G} {dT : Nat → ClassId} {B0 C0 S0 : Nat} {z : ZE} {p : Program} {l : Launch} {e : Env} {R : Room} {s : State} {m : MethodId} {args : Array Value} {below : List Frame} {meth : Method} {c : Code} {n : Nat} {Q : State → Prop}
theorem zS_put {H H1 : Heap} {locs : List Loc} {a k : Nat} (h : va_S (zAp B0) s.heap H locs) (z1 : H1.size = H.size) (oq : ∀ q : Nat, q ≠ a → H1[q]? = H[q]?) (ha : B0 ≤ a) : va_S (zAp B0) s.heap H1 (locs ++ [⟨a, k⟩]) := h.put z1 oq ha
theorem zgetfield {pc k : Nat} {lst st : List Value} {h : Hp} {a : Nat} {r : List Value} {q : Nat × Nat} (hC : zCx D dT B0 z p l R s m args meth c n) (hd : decode (zcd n) pc = .ok (.getfield k, 3)) (hq : zfr n k = some q) (hk : zK h a = q.1 + 1)
    (kk : zWk D dT B0 C0 S0 p l e R s m args below meth c n Q (pc + 3) lst (zval h q.1 a q.2 :: r) h) : zWk D dT B0 C0 S0 p l e R s m args below meth c n Q pc lst (.ref a :: r) h := by
  obtain ⟨hx, hb, hml, hr, hown, hts, hlocks, hin, hK, hSt, hl, hxt⟩ := id hC
  intro H locs cells slots ls hR hS hc hsl hL
  obtain ⟨hq1, hq2⟩ := zfd_rng hq
  have hlink := hts _ (zfd_w _ _ _ hq)
  rcases Nat.lt_or_ge q.1 11 with hq3 | hq3
  · obtain ⟨cell, q1, q2, q3, q4⟩ := (hR.2.2.2 a).1 q.1 hk hq3
    obtain ⟨hS2, hfc, kC, hkC, hkind⟩ := hK.1 q.1 _ (zcx_at hq3)
    obtain ⟨cf, kf, fi, f, hi, hsl2⟩ := hS2 q.2 hq2
    have hdecl : (zFT q.1 q.2).1 = zcn q.1 := by
      have := zf_ok q.1 hq3 q.2 hq2
      simp only [zfok, Bool.and_eq_true, decide_eq_true_eq] at this
      exact this.1.1
    refine W.getf hx hb hown hlink (by rw [← hdecl]; exact hi) (u_facts hfc hkC (u_lays hts (zcl_u hq3) hq2) hi).1 q1 (by rw [q3]; exact fun h => by cases h) (v := zval h q.1 a q.2) (by rw [hsl2]; exact q4 q.2 hq2) rfl rfl hd (kk H locs cells slots ls hR hS hc hsl hL)
  · have e11 : q.1 = 11 := by omega
    obtain ⟨q1, q2⟩ := q
    dsimp only at e11 hk hq2 hlink kk
    subst e11
    rw [znf11] at hq2
    obtain ⟨cell, g1, g2, g3, g4, g5⟩ := (hR.2.2.2 a).2.1 hk
    obtain ⟨cf, kf, fi, f, hi, hst, hslot⟩ := hK.2.2.2.2.1 q2 hq2
    exact W.getf hx hb hown hlink hi hst g1 g3 (v := zval h 11 a q2) (by rw [hslot]; exact g5 q2 hq2) rfl rfl hd (kk H locs cells slots ls hR hS hc hsl hL)
theorem zapart (hC : zCx D dT B0 z p l R s m args meth c n) {ci : Nat} (hci : ci < 11) : ∀ x y, x < znf ci → y < znf ci → x ≠ y → (D.2 ci) x ≠ (D.2 ci) y := by
  obtain ⟨hx, hb, hml, hr, hown, hts, hlocks, hin, hK, hSt, hl, hxt⟩ := id hC
  have hK2 : va_K D zcx [] s := ⟨hK.1, fun k q h => by simp at h⟩
  refine va_apart (own := "") hts (zcl_u hci) (zFty ci) (fun k hk => ?_) (zf_nm ci hci) hK2 (zcx_at hci)
  have := zf_ok ci hci k hk
  simp only [zfok, Bool.and_eq_true, decide_eq_true_eq] at this
  exact this.1.2
theorem zputfield {pc k : Nat} {lst st : List Value} {h h' : Hp} {a : Nat} {v : Value} {r : List Value} {q : Nat × Nat} (hC : zCx D dT B0 z p l R s m args meth c n) (hd : decode (zcd n) pc = .ok (.putfield k, 3)) (hq : zfr n k = some q) (hk : zK h a = q.1 + 1)
    (hfin : (zfin q.1 q.2 && !(Nat.beq (zin n) q.1) || Nat.beq q.1 11) = false) (hzin : zin n < 11 → zin n = zown n)
    (hnf : narrow (zFty q.1 q.2) v = v ∧ fits (zFty q.1 q.2) v = true)
    (k0 : zT h' = zT h) (k1 : ∀ x, zK h' x = zK h x) (k2 : ∀ x, zN h' x = zN h x) (k3 : ∀ x j, x ≠ a ∨ j ≠ q.2 → zI h' x j = zI h x j) (k4 : ∀ x j, x ≠ a ∨ j ≠ q.2 → zR h' x j = zR h x j) (k5 : ∀ x j, x ≠ a ∨ j ≠ q.2 → zJ h' x j = zJ h x j) (hv : zval h' q.1 a q.2 = v) (kC : zC h' = zC h) (kS : zS h' = zS h)
    (kk : zWk D dT B0 C0 S0 p l e R s m args below meth c n Q (pc + 3) lst r h') : zWk D dT B0 C0 S0 p l e R s m args below meth c n Q pc lst (v :: .ref a :: r) h := by
  obtain ⟨hx, hb, hml, hr, hown, hts, hlocks, hin, hK, hSt, hl, hxt⟩ := id hC
  intro H locs cells slots ls hR hS hc hsl hL
  obtain ⟨hq1, hq2⟩ := zfd_rng hq
  have hlink := hts _ (zfd_w _ _ _ hq)
  rw [Bool.or_eq_false_iff] at hfin
  have hq3 : q.1 < 11 := by
    have h2 := hfin.2
    have : q.1 ≠ 11 := fun e => by rw [e] at h2; cases h2
    omega
  obtain ⟨cell, q1, q2, q3, q4⟩ := (hR.2.2.2 a).1 q.1 hk hq3
  have hBa : B0 ≤ a := (hR.2.2.2 a).2.2.2.2 (by omega) (by omega) (by omega)
  obtain ⟨hS2, hfc, kC', hkC, hkind⟩ := hK.1 q.1 _ (zcx_at hq3)
  obtain ⟨cf, kf, fi, f, hi, hsl2⟩ := hS2 q.2 hq2
  have hok := zf_ok q.1 hq3 q.2 hq2
  simp only [zfok, Bool.and_eq_true, decide_eq_true_eq] at hok
  have hdecl : (zFT q.1 q.2).1 = zcn q.1 := hok.1.1
  have hi2 : s.fieldFound? (zcn q.1) (zFT q.1 q.2).2.1 (zFT q.1 q.2).2.2.1 = some (cf, kf, fi, f) := by rw [← hdecl]; exact hi
  have hst := (u_facts hfc hkC (u_lays hts (zcl_u hq3) hq2) hi).1
  have hap := zapart hC hq3
  have hlay := hts _ (zcl_u hq3 _ (u_in_lay hq2))
  unfold u_lay at hlay
  have fin : ∀ H', H'[a]? = some (cell.setSlot f.slot v) → H'.size = H.size → (∀ q, q ≠ a → H'[q]? = H[q]?) → W p l e R s m args below meth c H' (locs ++ [⟨a, f.slot⟩]) cells slots Q (F0 m (pc + 3) ls r) := by
    intro H' e1 e2 e3
    rw [hsl2] at e1
    exact kk H' _ cells slots ls (hR.obj hk hq3 hq2 q1 hap e1 e2 e3 k0 k1 k2 k3 k4 k5 hv) (zS_put hS e2 e3 hBa) (by rw [kC]; exact hc) (by rw [kS]; exact hsl) hL
  by_cases hf : (zFT q.1 q.2).2.2.2 = true
  · rw [if_pos hf] at hlay
    have hz1 : Nat.beq (zin n) q.1 = true := by
      have h1 := hfin.1
      have h3 : zfin q.1 q.2 = true := hf
      rw [h3] at h1
      simpa using h1
    have hz : zin n = q.1 := Nat.eq_of_beq_eq_true hz1
    have hzo : zown n = q.1 := by rw [← hzin (by omega)]; exact hz
    have hcf : m.cls = cf := by
      obtain ⟨_, _, c', _, _, _, -, -, hf', -, -, -, hown2, -⟩ := Cond.laysFinal_spec hlay
      have e1 : c' = cf := by have := hi.symm.trans hf'; simp at this; exact this.1.symm
      rw [hdecl, ← hzo] at hown2
      rw [← e1]; exact Option.some.inj (hown.symm.trans hown2)
    have h6 := u_fits hfc hkC hkind (Or.inr hlay) hi hok.1.2 hnf.1 hnf.2
    exact W.putFinK hx hb hown hlink hi2 hst hcf (hin (by omega)) (by rw [q2]; exact h6) q1 q3 (by rw [hsl2]; exact k2_hasslot (q4 q.2 hq2)) rfl rfl hd fin
  · rw [if_neg hf] at hlay
    have h6 := u_store hfc hkC hkind hlay hi hok.1.2 hnf.1 hnf.2
    exact W.putK hx hb (f := f) ⟨hown, hlink, ⟨_, _, _, hi2⟩, hst⟩ (by rw [q2]; exact h6) q1 q3 (by rw [hsl2]; exact k2_hasslot (q4 q.2 hq2)) rfl rfl hd fin
theorem zinb {j : Int32} {N : Nat} (h : ¬ j < 0 ∧ j.toNatClampNeg < N) : ¬ (j < 0 ∨ N ≤ j.toNatClampNeg) := fun e => e.elim h.1 (fun e => by omega)
/-- any array that is read: its cell -/
theorem zarr_at {h : Hp} {H : Heap} {a : Nat} (hR : zRep D dT B0 h H) (hK : zKs D dT s) (h1 : 20 ≤ zK h a) (h2 : zK h a ≤ 28) : ∃ cell : Cell, H[a]? = some cell ∧ s.isArrayOf cell (zty (zK h a)) ∧ cell.vm ≠ .unknown ∧ cell.slots.size = zN h a ∧ ∀ j, j < zN h a → cell.slots[j]? = some (zavk (zK h a) h a j) := by
  obtain ⟨r1, r2, r3, r4, r5⟩ := hR.2.2.2 a
  rcases Nat.lt_or_ge (zK h a) 27 with hk | hk
  · exact ⟨_, r3 h1 (by omega), hK.2.1 _ h1 (by omega) _ _, fun e => (by cases e), arrV_size _ _ _, fun j hj => arrV_read _ _ hj⟩
  · obtain ⟨cell, q1, q2, q2b, q3, q4, q5, q6⟩ := r4 hk h2
    refine ⟨cell, q1, ?_, q4, q5, fun j hj => ?_⟩
    · rcases (show zK h a = 27 ∨ zK h a = 28 by omega) with ek | ek
      · rw [ek] at q2b ⊢
        obtain ⟨-, kA, hkA, hrest⟩ := (hK.2.2.2.2.2 a).1 q2b 0 (fun _ => .null)
        exact ⟨q3, kA, by rw [q2]; exact hkA, hrest⟩
      · rw [ek] at q2b ⊢
        obtain ⟨-, kA, hkA, hrest⟩ := (hK.2.2.2.2.2 a).2 q2b 0 (fun _ => .null)
        exact ⟨q3, kA, by rw [q2]; exact hkA, hrest⟩
    · rw [q6 j hj]
      unfold zavk
      split <;> first | omega | rfl
end
