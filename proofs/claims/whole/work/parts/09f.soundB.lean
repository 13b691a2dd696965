/-! SOUNDNESS: the second half -/
theorem zin_own0 : ∀ n, n < 352 → zin n < 11 → zin n = zown n := by decide +kernel
theorem zmi_l : zmi.length = 352 := by decide +kernel
theorem zin_own (n : Nat) : zin n < 11 → zin n = zown n := by
  rcases Nat.lt_or_ge n 352 with hn | hn
  · exact zin_own0 n hn
  · intro h
    unfold zin at h
    rw [show zmi.getD n zmi0 = zmi0 by rw [List.getD_eq_getElem?_getD, List.getElem?_eq_none (by rw [zmi_l]; exact hn)]; rfl] at h
    exact absurd h (by decide)
theorem zsg_r : ∀ o, o < 20 → ∀ q ∈ zsg.getD o [], (o = 11 ∧ q = (38, 0)) ∨ (o = 11 ∧ q = (1053, 1)) := by decide +kernel
theorem zsg_l : zsg.length = 20 := by decide +kernel
theorem zsg_rng {o k q : Nat} (h : zlk k (zsg.getD o []) = some q) : (o = 11 ∧ k = 38 ∧ q = 0) ∨ (o = 11 ∧ k = 1053 ∧ q = 1) := by
  rcases Nat.lt_or_ge o 20 with ho | ho
  · rcases zsg_r o ho (k, q) (zlk_mem h) with ⟨h1, h2⟩ | ⟨h1, h2⟩
    · left; exact ⟨h1, congrArg Prod.fst h2, congrArg Prod.snd h2⟩
    · right; exact ⟨h1, congrArg Prod.fst h2, congrArg Prod.snd h2⟩
  · rw [show zsg.getD o [] = [] by rw [List.getD_eq_getElem?_getD, List.getElem?_eq_none (by rw [zsg_l]; exact ho)]; rfl] at h; cases h
section
variable {D : va_G} {dT : Nat → ClassId} {B0 C0 S0 : Nat} {z : ZE} {p : Program} {l : Launch} {e : Env} {R : Room} {s : State} {m : MethodId} {args : Array Value} {below : List Frame} {meth : Method} {c : Code} {n : Nat} {Q : State → Prop}
theorem zavk_R {k a j : Nat} {h : Hp} (h1 : 22 ≤ k) (h2 : k ≤ 25) : zavk k h a j = zrv (zR h a j) := by
  rcases (show k = 22 ∨ k = 23 ∨ k = 24 ∨ k = 25 by omega) with rfl | rfl | rfl | rfl <;> rfl
theorem zavk_I {k a j : Nat} {h : Hp} (h1 : k ≠ 26) (h2 : k < 22 ∨ 25 < k) : zavk k h a j = .int (zI h a j) := by
  unfold zavk
  split <;> first | (exfalso; omega) | rfl
theorem zdefA {h : Hp} {kd nn : Nat} (hk : kd ≠ 26 ∧ (kd < 22 ∨ 25 < kd)) : (fun _ : Nat => Value.int 0) = zavk kd (znw h kd nn) (zT h) := by
  funext j
  have e0 : zI (znw h kd nn) (zT h) j = 0 := if_pos rfl
  unfold zavk
  split <;> first | (exfalso; omega) | rw [e0]
theorem zdefR {h : Hp} {kd nn : Nat} (hk : 22 ≤ kd ∧ kd ≤ 25) : (fun _ : Nat => Value.null) = zavk kd (znw h kd nn) (zT h) := by
  funext j
  have e0 : zR (znw h kd nn) (zT h) j = none := if_pos rfl
  rw [zavk_R hk.1 hk.2, e0]; rfl
theorem zdefJ {h : Hp} {nn : Nat} : (fun _ : Nat => Value.long 0) = zavk 26 (znw h 26 nn) (zT h) := by
  funext j
  have e0 : zJ (znw h 26 nn) (zT h) j = 0 := if_pos rfl
  show Value.long 0 = Value.long (zJ (znw h 26 nn) (zT h) j)
  rw [e0]
/-- a new array -/
theorem zRep.newA {h : Hp} {H : Heap} {kd nn : Nat} {cell : Cell} (hR : zRep D dT B0 h H) (h1 : 20 ≤ kd) (h2 : kd ≤ 26) (hc : cell = arrV (dT kd) nn (zavk kd (znw h kd nn) (zT h))) : zRep D dT B0 (znw h kd nn) (H.push cell) := by
  have eT : zT h = H.size := hR.1
  have eK : zK (znw h kd nn) H.size = kd := if_pos eT.symm
  have eN : zN (znw h kd nn) H.size = nn := if_pos eT.symm
  refine hR.new (by simp) (fun q hq => by rw [Array.getElem?_push, if_neg (Nat.ne_of_lt hq)]) ⟨?_, ?_, ?_, ?_, ?_⟩
  · rw [eK]; intro c' hc' hl'; omega
  · rw [eK]; intro e; omega
  · rw [eK, eN]; intro _ _; rw [hc, eT]; simp
  · rw [eK]; intro e; omega
  · rw [eK]; intro _ _ _; exact hR.2.1
theorem zS_push {H : Heap} {locs : List Loc} {cell : Cell} (h : va_S (zAp B0) s.heap H locs) : va_S (zAp B0) s.heap (H.push cell) locs :=
  ⟨Nat.le_trans h.1 (by simp), fun q h1 h2 => by rw [Array.getElem?_push, if_neg (Nat.ne_of_lt (Nat.lt_of_lt_of_le h1 h.1))]; exact h.2.1 q h1 h2, h.2.2⟩
theorem znewarr {pc : Nat} {at1 : ArrayType} {lst r : List Value} {h : Hp} {j : Int32} {kd : Nat} (hC : zCx D dT B0 z p l R s m args meth c n) (hd : decode (zcd n) pc = .ok (.newarray at1, 2)) (hw : Cond.arrayClass (newarray.typeOf at1) ∈ zgw) (hj : ¬ j < 0 ∧ j.toNatClampNeg ≤ 100000) (h1 : 20 ≤ kd) (h2 : kd ≤ 26) (hty : va_RA s (dT kd) (zty kd) → s.vm.findClass ("[" ++ (newarray.typeOf at1).toString) = some (dT kd)) (hb8 : componentBytes (newarray.typeOf at1) ≤ 8)
    (hdef : (fun _ : Nat => defaultValue (newarray.typeOf at1)) = zavk kd (znw h kd j.toNatClampNeg) (zT h)) (hrm : zC h + 1 ≤ C0 + R.cells ∧ zS h + j.toNatClampNeg ≤ S0 + R.slots)
    (kk : zWk D dT B0 C0 S0 p l e R s m args below meth c n Q (pc + 2) lst (.ref (zT h) :: r) (znw h kd j.toNatClampNeg)) : zWk D dT B0 C0 S0 p l e R s m args below meth c n Q pc lst (.int j :: r) h := by
  obtain ⟨hx, hb, hml, hr, hown, hts, hlocks, hin, hK, hSt, hl, hxt⟩ := id hC
  intro H locs cells slots ls hR hS hc hsl hL
  refine W.newa hx hb (hts _ hw) rfl hd rfl hj.1 (Nat.le_trans (Nat.mul_le_mul hj.2 hb8) (Nat.le_of_ble_eq_true rfl)) (by omega) (by omega) fun cA kA comp f1 f2 f3 => ?_
  have ecA : cA = dT kd := Option.some.inj (f1.symm.trans (hty (hK.2.2.1 kd h1 h2)))
  have eT : zT h = H.size := hR.1
  rw [← eT]
  exact kk _ _ _ _ ls (hR.newA h1 h2 (by rw [arrV_new, ecA, hdef])) (zS_push hS) (by show _ + 1 + C0 = zC h + 1; omega) (by show _ + j.toNatClampNeg + S0 = zS h + _; omega) hL
theorem zanewarr {pc k ci : Nat} {lst r : List Value} {h : Hp} {j : Int32} {kd : Nat} (hC : zCx D dT B0 z p l R s m args meth c n) (hd : decode (zcd n) pc = .ok (.anewarray k, 3)) (hci : zcl n k = some ci) (hco : zcname ci ∈ ["LateInks$Deed", "LateInks$Ink", "LateInks$Party", "LateInks$Port"]) (hj : ¬ j < 0 ∧ j.toNatClampNeg ≤ 100000) (h1 : 22 ≤ kd) (h2 : kd ≤ 25) (hty : zty kd = .object (zcname ci))
    (hrm : zC h + 1 ≤ C0 + R.cells ∧ zS h + j.toNatClampNeg ≤ S0 + R.slots)
    (kk : zWk D dT B0 C0 S0 p l e R s m args below meth c n Q (pc + 3) lst (.ref (zT h) :: r) (znw h kd j.toNatClampNeg)) : zWk D dT B0 C0 S0 p l e R s m args below meth c n Q pc lst (.int j :: r) h := by
  obtain ⟨hx, hb, hml, hr, hown, hts, hlocks, hin, hK, hSt, hl, hxt⟩ := id hC
  intro H locs cells slots ls hR hS hc hsl hL
  refine W.anew hx hb hown (hts _ (zcr_w _ _ _ hci)) (va_AO.use (hSt.2.2.2.2.2.2.2.1 _ hco)) rfl hd rfl hj.1 (by omega) (by omega) (by omega) fun cA kA comp f1 f2 f3 f4 => ?_
  have hRA := hK.2.2.1 kd (by omega) (by omega)
  rw [hty] at hRA
  obtain ⟨kA', comp', g1, g2, g3, g4⟩ := hRA
  have ecA : cA = dT kd := Option.some.inj (f1.symm.trans g4)
  have eT : zT h = H.size := hR.1
  rw [← eT]
  exact kk _ _ _ _ ls (hR.newA (by omega) (by omega) (by rw [arrV_new, ecA, zdefR ⟨h1, h2⟩])) (zS_push hS) (by show _ + 1 + C0 = zC h + 1; omega) (by show _ + j.toNatClampNeg + S0 = zS h + _; omega) hL
theorem zaastore {pc : Nat} {lst r : List Value} {h : Hp} {a v kc : Nat} {j : Int32} (hC : zCx D dT B0 z p l R s m args meth c n) (hd : decode (zcd n) pc = .ok (.aastore, 1)) (hk1 : 22 ≤ zK h a) (hk2 : zK h a ≤ 25) (hkv : zK h v = kc + 1) (hkc : kc < 11) (hty : zty (zK h a) = .object (zcn kc)) (hj : ¬ j < 0 ∧ j.toNatClampNeg < zN h a)
    (kk : zWk D dT B0 C0 S0 p l e R s m args below meth c n Q (pc + 1) lst r (zwR h a j.toNatClampNeg (some v))) : zWk D dT B0 C0 S0 p l e R s m args below meth c n Q pc lst (.ref v :: .int j :: .ref a :: r) h := by
  obtain ⟨hx, hb, hml, hr, hown, hts, hlocks, hin, hK, hSt, hl, hxt⟩ := id hC
  intro H locs cells slots ls hR hS hc hsl hL
  obtain ⟨cv, g1, g2, g3, g4⟩ := (hR.2.2.2 v).1 kc hkv hkc
  have hcell := (hR.2.2.2 a).2.2.1 (by omega) (by omega)
  have hBa : B0 ≤ a := (hR.2.2.2 a).2.2.2.2 (by omega) (by omega) (by omega)
  have hRA := hK.2.2.1 (zK h a) (by omega) (by omega)
  rw [hty] at hRA
  obtain ⟨kA, comp, e1, e2, e3, e4⟩ := hRA
  obtain ⟨hS2, hfc, kC, hkC, hkind⟩ := hK.1 kc _ (zcx_at hkc)
  have hcomp : comp = D.1 kc := Option.some.inj (e3.symm.trans hfc)
  refine W.aast hx hb hcell (fun q e => by cases e) (fun e => by cases e) e1 e2 rfl (by rw [hcomp]; exact hkC) (by rw [arrV_size]; exact hj) g1 (by rw [g3]; exact fun q e => by cases e) (by rw [g2]; exact hkC) (by rw [g2, hcomp]; exact va_asg _ _) rfl rfl hd fun H' f1 f2 f3 => ?_
  refine kk H' _ cells slots ls (hR.arr (by omega) (by omega) f1 f2 f3 rfl (fun _ => rfl) (fun _ => rfl) (fun _ _ _ => rfl) (fun x y hxy => zup_ne _ _ hxy) (fun _ _ _ => rfl) ?_) (zS_put hS f2 f3 hBa) hc hsl hL
  have e0 : zR (zwR h a j.toNatClampNeg (some v)) a j.toNatClampNeg = some v := zup_same _ _ _ _
  rw [zavk_R hk1 hk2, e0]; rfl
end
