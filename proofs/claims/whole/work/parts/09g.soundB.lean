/-! SOUNDNESS: the second half, all cases -/
section
variable {D : va_G} {dT : Nat → ClassId} {B0 C0 S0 : Nat} {z : ZE} {p : Program} {l : Launch} {e : Env} {R : Room} {s : State} {m : MethodId} {args : Array Value} {below : List Frame} {meth : Method} {c : Code} {n : Nat} {Q : State → Prop}
theorem zite_ok {P : Prop} {dP : Decidable P} {x : Option zRes} {r : zRes} (h : (if P then x else none) = some r) : P ∧ x = some r := by
  by_cases hp : P
  · rw [if_pos hp] at h; exact ⟨hp, h⟩
  · rw [if_neg hp] at h; cases h
theorem zgo_ok {pc : Nat} {ls st : List Value} {h : Hp} {r : zRes} (h0 : zgo pc ls st h = some r) : r = .inl (pc, ls, st, h) := (Option.some.inj h0).symm
set_option maxHeartbeats 4000000 in
theorem zsB_ok {pc len : Nat} {i : Instr} {lst st : List Value} {h : Hp} {r : zRes} (hC : zCx D dT B0 z p l R s m args meth c n) (hd : decode (zcd n) pc = .ok (i, len)) (hs : zsB z n pc i len lst st h = some r)
    (hrm : ∀ pc' lst' st' h', r = .inl (pc', lst', st', h') → zC h' ≤ C0 + R.cells ∧ zS h' ≤ S0 + R.slots)
    (kk : ∀ pc' lst' st' h', r = .inl (pc', lst', st', h') → zWk D dT B0 C0 S0 p l e R s m args below meth c n Q pc' lst' st' h') : zWk D dT B0 C0 S0 p l e R s m args below meth c n Q pc lst st h := by
  obtain ⟨hx, hb, hml, hr, hown, hts, hlocks, hin, hK, hSt, hl, hxt⟩ := id hC
  unfold zsB at hs
  split at hs
  -- getfield
  · have hsq := zl_ok hs; clear hs; obtain ⟨rfl, hs⟩ := hsq
    have hsq := zop_ok hs; clear hs; obtain ⟨q, hq, hs⟩ := hsq
    have hsq := za1_ok hs; clear hs; obtain ⟨a, rest, rfl, hs⟩ := hsq
    have hsq := zite_ok hs; clear hs; obtain ⟨hk, hs⟩ := hsq
    exact zgetfield (st := []) hC hd hq hk (kk _ _ _ _ (zgo_ok hs))
  -- putfield
  · have hsq := zl_ok hs; clear hs; obtain ⟨rfl, hs⟩ := hsq
    have hsq := zop_ok hs; clear hs; obtain ⟨q, hq, hs⟩ := hsq
    split at hs
    · cases hs
    · rename_i hfin
      obtain ⟨hq1, hq2⟩ := zfd_rng hq
      have hq3 : q.1 < 11 := by
        have h2 := (Bool.or_eq_false_iff.mp hfin).2
        have : q.1 ≠ 11 := fun e => by rw [e] at h2; cases h2
        omega
      have hok := zf_ok q.1 hq3 q.2 hq2
      simp only [zfok, Bool.and_eq_true, decide_eq_true_eq] at hok
      have hok2 := hok.2
      split at hs
      · rename_i hty
        rw [hty] at hok2
        split at hs
        · rename_i v a rest
          have hsq := zite_ok hs; clear hs; obtain ⟨hk, hs⟩ := hsq
          refine zputfield (st := []) (h' := zwR h a q.2 (some v)) hC hd hq hk hfin (zin_own n) (zref_nf hok2 _ (Or.inr ⟨v, rfl⟩)) rfl (fun _ => rfl) (fun _ => rfl) (fun _ _ _ => rfl) (fun x y hxy => zup_ne _ _ hxy) (fun _ _ _ => rfl) ?_ rfl rfl (kk _ _ _ _ (zgo_ok hs))
          unfold zval; rw [hty]; show zrv (zup _ _ _ _ _ _) = _; rw [zup_same]; rfl
        · rename_i a rest
          have hsq := zite_ok hs; clear hs; obtain ⟨hk, hs⟩ := hsq
          refine zputfield (st := []) (h' := zwR h a q.2 none) hC hd hq hk hfin (zin_own n) (zref_nf hok2 _ (Or.inl rfl)) rfl (fun _ => rfl) (fun _ => rfl) (fun _ _ _ => rfl) (fun x y hxy => zup_ne _ _ hxy) (fun _ _ _ => rfl) ?_ rfl rfl (kk _ _ _ _ (zgo_ok hs))
          unfold zval; rw [hty]; show zrv (zup _ _ _ _ _ _) = _; rw [zup_same]; rfl
        · cases hs
      · rename_i hty
        rw [hty] at hok2
        have hbt : zFty q.1 q.2 = .boolean := by simpa using hok2
        split at hs
        · rename_i v a rest
          have hsq := zite_ok hs; clear hs; obtain ⟨hk, hs⟩ := hsq
          refine zputfield (st := []) (h' := zwI h a q.2 v) hC hd hq hk.1 hfin (zin_own n) (by rw [hbt]; exact zbool_nf hk.2) rfl (fun _ => rfl) (fun _ => rfl) (fun x y hxy => zup_ne _ _ hxy) (fun _ _ _ => rfl) (fun _ _ _ => rfl) ?_ rfl rfl (kk _ _ _ _ (zgo_ok hs))
          unfold zval; rw [hty]; show Value.int (zup _ _ _ _ _ _) = _; rw [zup_same]
        · cases hs
      · rename_i hn2 hn1
        have hit : zFty q.1 q.2 = .int := by
          have e2 : ∀ z : Nat, z = zfty q.1 q.2 → z ≠ 2 → z ≠ 1 → (match z with
            | 2 => (match zFty q.1 q.2 with
              | .object _ => true
              | .array _ => true
              | _ => false)
            | 1 => decide (zFty q.1 q.2 = .boolean)
            | _ => decide (zFty q.1 q.2 = .int)) = true → zFty q.1 q.2 = .int := by
            intro z _ h1 h2 h3
            split at h3
            · exact absurd rfl h1
            · exact absurd rfl h2
            · simpa using h3
          exact e2 _ rfl (fun e => hn2 e) (fun e => hn1 e) hok2
        split at hs
        · rename_i v a rest
          have hsq := zite_ok hs; clear hs; obtain ⟨hk, hs⟩ := hsq
          refine zputfield (st := []) (h' := zwI h a q.2 v) hC hd hq hk hfin (zin_own n) (by rw [hit]; exact ⟨rfl, rfl⟩) rfl (fun _ => rfl) (fun _ => rfl) (fun x y hxy => zup_ne _ _ hxy) (fun _ _ _ => rfl) (fun _ _ _ => rfl) ?_ rfl rfl (kk _ _ _ _ (zgo_ok hs))
          unfold zval
          split
          · rename_i e; exact absurd e hn2
          · show Value.int (zup _ _ _ _ _ _) = _; rw [zup_same]
        · cases hs
  -- getstatic
  · have hsq := zl_ok hs; clear hs; obtain ⟨rfl, hs⟩ := hsq
    have hsq := zop_ok hs; clear hs; obtain ⟨q, hq, hs⟩ := hsq
    intro H locs cells slots ls hR hS hc hsl hL
    rcases zsg_rng hq with ⟨ho, rfl, rfl⟩ | ⟨ho, rfl, rfl⟩
    · rw [ho] at hown
      exact va_gets hx hb hSt.2.2.1 hS hown (hts _ (zot_w _ (by decide +kernel))) (fun _ h => h) hd (kk _ _ _ _ (zgo_ok hs) H locs cells slots ls hR hS hc hsl hL)
    · rw [ho] at hown
      exact va_gets hx hb hSt.2.2.2.1 hS hown (hts _ (zot_w _ (by decide +kernel))) (fun _ h => h) hd (kk _ _ _ _ (zgo_ok hs) H locs cells slots ls hR hS hc hsl hL)
  -- arraylength
  · have hsq := zl_ok hs; clear hs; obtain ⟨rfl, hs⟩ := hsq
    have hsq := za1_ok hs; clear hs; obtain ⟨a, rest, rfl, hs⟩ := hsq
    have hsq := zite_ok hs; clear hs; obtain ⟨hk, hs⟩ := hsq
    intro H locs cells slots ls hR hS hc hsl hL
    obtain ⟨cell, g1, g2, g3, g4, g5⟩ := zarr_at hR hK hk.1 hk.2
    exact W.alen hx hb g1 g2 (by rw [g4]; rfl) rfl rfl hd (kk _ _ _ _ (zgo_ok hs) H locs cells slots ls hR hS hc hsl hL)
  -- iaload
  · have hsq := zl_ok hs; clear hs; obtain ⟨rfl, hs⟩ := hsq
    have hsq := zal_ok hs; clear hs; obtain ⟨a, j, rest, rfl, hs⟩ := hsq
    have hsq := zite_ok hs; clear hs; obtain ⟨⟨hk, hj⟩, hs⟩ := hsq
    intro H locs cells slots ls hR hS hc hsl hL
    obtain ⟨cell, g1, g2, g3, g4, g5⟩ := zarr_at hR hK (a := a) (by omega) (by omega)
    have ev := g5 _ hj.2
    rw [zavk_I (by omega) (by omega)] at ev
    have g2' : s.isArrayOf cell .int := by rcases hk with hk | hk <;> rw [hk] at g2 <;> exact g2
    exact W.iald hx hb g1 g2' g3 (by rw [g4]; exact zinb hj) ev rfl rfl hd (kk _ _ _ _ (zgo_ok hs) H locs cells slots ls hR hS hc hsl hL)
  -- baload
  · have hsq := zl_ok hs; clear hs; obtain ⟨rfl, hs⟩ := hsq
    have hsq := zal_ok hs; clear hs; obtain ⟨a, j, rest, rfl, hs⟩ := hsq
    have hsq := zite_ok hs; clear hs; obtain ⟨⟨hk, hj⟩, hs⟩ := hsq
    intro H locs cells slots ls hR hS hc hsl hL
    obtain ⟨cell, g1, g2, g3, g4, g5⟩ := zarr_at hR hK (a := a) (by omega) (by omega)
    have ev := g5 _ hj.2
    rw [zavk_I (by omega) (by omega)] at ev
    rcases hk with hk | hk
    · rw [hk] at g2
      exact W.zald hx hb g1 g2 g3 (by rw [g4]; exact zinb hj) ev rfl rfl hd (kk _ _ _ _ (zgo_ok hs) H locs cells slots ls hR hS hc hsl hL)
    · rw [hk] at g2
      exact W.bald hx hb g1 g2 g3 (by rw [g4]; exact zinb hj) ev rfl rfl hd (kk _ _ _ _ (zgo_ok hs) H locs cells slots ls hR hS hc hsl hL)
  -- laload
  · have hsq := zl_ok hs; clear hs; obtain ⟨rfl, hs⟩ := hsq
    have hsq := zal_ok hs; clear hs; obtain ⟨a, j, rest, rfl, hs⟩ := hsq
    have hsq := zite_ok hs; clear hs; obtain ⟨⟨hk, hj⟩, hs⟩ := hsq
    intro H locs cells slots ls hR hS hc hsl hL
    obtain ⟨cell, g1, g2, g3, g4, g5⟩ := zarr_at hR hK (a := a) (by omega) (by omega)
    have ev := g5 _ hj.2
    rw [hk] at ev g2
    exact W.lald hx hb g1 g2 g3 (by rw [g4]; exact zinb hj) ev rfl rfl hd (kk _ _ _ _ (zgo_ok hs) H locs cells slots ls hR hS hc hsl hL)
  -- aaload
  · have hsq := zl_ok hs; clear hs; obtain ⟨rfl, hs⟩ := hsq
    have hsq := zal_ok hs; clear hs; obtain ⟨a, j, rest, rfl, hs⟩ := hsq
    have hsq := zite_ok hs; clear hs; obtain ⟨⟨hk, hj⟩, hs⟩ := hsq
    intro H locs cells slots ls hR hS hc hsl hL
    obtain ⟨cell, g1, g2, g3, g4, g5⟩ := zarr_at hR hK (a := a) (by omega) (by omega)
    have ev := g5 _ hj.2
    rw [zavk_R hk.1 hk.2] at ev
    have href : (zty (zK h a)).isReference = true := by
      rcases (show zK h a = 22 ∨ zK h a = 23 ∨ zK h a = 24 ∨ zK h a = 25 by omega) with e | e | e | e <;> rw [e] <;> rfl
    exact W.aald hx hb g1 g2 href g3 (by rw [g4]; exact zinb hj) ev rfl rfl hd (kk _ _ _ _ (zgo_ok hs) H locs cells slots ls hR hS hc hsl hL)
  -- iastore
  · have hsq := zl_ok hs; clear hs; obtain ⟨rfl, hs⟩ := hsq
    split at hs
    · rename_i v j a rest
      have hsq := zite_ok hs; clear hs; obtain ⟨⟨hk, hj⟩, hs⟩ := hsq
      intro H locs cells slots ls hR hS hc hsl hL
      have hcell := (hR.2.2.2 a).2.2.1 (by omega) (by omega)
      have hBa : B0 ≤ a := (hR.2.2.2 a).2.2.2.2 (by omega) (by omega) (by omega)
      have hA := hK.2.1 (zK h a) (by omega) (by omega) (zN h a) (zavk (zK h a) h a)
      have hA' : s.isArrayOf (arrV (dT (zK h a)) (zN h a) (zavk (zK h a) h a)) .int := by rw [show zty (zK h a) = .int by rw [hk]; rfl] at hA; exact hA
      refine W.iast hx hb hcell hA' (fun e => by cases e) (by rw [arrV_size]; exact zinb hj) rfl rfl hd fun H' f1 f2 f3 => ?_
      refine kk _ _ _ _ (zgo_ok hs) H' _ cells slots ls (hR.arr (by omega) (by omega) f1 f2 f3 rfl (fun _ => rfl) (fun _ => rfl) (fun x y hxy => zup_ne _ _ hxy) (fun _ _ _ => rfl) (fun _ _ _ => rfl) ?_) (zS_put hS f2 f3 hBa) hc hsl hL
      rw [zavk_I (by omega) (by omega)]; show Value.int (zup _ _ _ _ _ _) = _; rw [zup_same]
    · cases hs
  -- bastore
  · have hsq := zl_ok hs; clear hs; obtain ⟨rfl, hs⟩ := hsq
    split at hs
    · rename_i v j a rest
      have hsq := zite_ok hs; clear hs; obtain ⟨⟨hk, hj, hv⟩, hs⟩ := hsq
      intro H locs cells slots ls hR hS hc hsl hL
      have hcell := (hR.2.2.2 a).2.2.1 (by omega) (by omega)
      have hBa : B0 ≤ a := (hR.2.2.2 a).2.2.2.2 (by omega) (by omega) (by omega)
      have hA := hK.2.1 (zK h a) (by omega) (by omega) (zN h a) (zavk (zK h a) h a)
      have hA' : s.isArrayOf (arrV (dT (zK h a)) (zN h a) (zavk (zK h a) h a)) .boolean := by rw [show zty (zK h a) = .boolean by rw [hk]; rfl] at hA; exact hA
      refine W.zast hx hb hcell hA' (fun e => by cases e) (by rw [arrV_size]; exact zinb hj) rfl rfl hd fun H' f1 f2 f3 => ?_
      rw [(zbool_nf hv).1] at f1
      refine kk _ _ _ _ (zgo_ok hs) H' _ cells slots ls (hR.arr (by omega) (by omega) f1 f2 f3 rfl (fun _ => rfl) (fun _ => rfl) (fun x y hxy => zup_ne _ _ hxy) (fun _ _ _ => rfl) (fun _ _ _ => rfl) ?_) (zS_put hS f2 f3 hBa) hc hsl hL
      rw [zavk_I (by omega) (by omega)]; show Value.int (zup _ _ _ _ _ _) = _; rw [zup_same]
    · cases hs
  -- lastore
  · have hsq := zl_ok hs; clear hs; obtain ⟨rfl, hs⟩ := hsq
    split at hs
    · rename_i v j a rest
      have hsq := zite_ok hs; clear hs; obtain ⟨⟨hk, hj⟩, hs⟩ := hsq
      intro H locs cells slots ls hR hS hc hsl hL
      have hcell := (hR.2.2.2 a).2.2.1 (by omega) (by omega)
      have hBa : B0 ≤ a := (hR.2.2.2 a).2.2.2.2 (by omega) (by omega) (by omega)
      have hA := hK.2.1 (zK h a) (by omega) (by omega) (zN h a) (zavk (zK h a) h a)
      have hA' : s.isArrayOf (arrV (dT (zK h a)) (zN h a) (zavk (zK h a) h a)) .long := by rw [show zty (zK h a) = .long by rw [hk]; rfl] at hA; exact hA
      refine W.last hx hb hcell hA' (fun e => by cases e) (by rw [arrV_size]; exact zinb hj) rfl rfl hd fun H' f1 f2 f3 => ?_
      refine kk _ _ _ _ (zgo_ok hs) H' _ cells slots ls (hR.arr (by omega) (by omega) f1 f2 f3 rfl (fun _ => rfl) (fun _ => rfl) (fun _ _ _ => rfl) (fun _ _ _ => rfl) (fun x y hxy => zup_ne _ _ hxy) ?_) (zS_put hS f2 f3 hBa) hc hsl hL
      rw [hk]; show Value.long (zup _ _ _ _ _ _) = _; rw [zup_same]
    · cases hs
  -- aastore
  · have hsq := zl_ok hs; clear hs; obtain ⟨rfl, hs⟩ := hsq
    split at hs
    · rename_i v j a rest
      have hsq := zite_ok hs; clear hs; obtain ⟨⟨hk, hj⟩, hs⟩ := hsq
      unfold zkidR at hk
      split at hk
      · rename_i e; exact zaastore hC hd (kc := 0) (by omega) (by omega) (by simpa using hk.symm) (by omega) (by rw [e]; rfl) hj (kk _ _ _ _ (zgo_ok hs))
      · rename_i e; exact zaastore hC hd (kc := 1) (by omega) (by omega) (by simpa using hk.symm) (by omega) (by rw [e]; rfl) hj (kk _ _ _ _ (zgo_ok hs))
      · rename_i e; exact zaastore hC hd (kc := 6) (by omega) (by omega) (by simpa using hk.symm) (by omega) (by rw [e]; rfl) hj (kk _ _ _ _ (zgo_ok hs))
      · rename_i e; exact zaastore hC hd (kc := 7) (by omega) (by omega) (by simpa using hk.symm) (by omega) (by rw [e]; rfl) hj (kk _ _ _ _ (zgo_ok hs))
      · cases hk
    · cases hs
  -- newarray
  · have hsq := zl_ok hs; clear hs; obtain ⟨rfl, hs⟩ := hsq
    have hsq := z1_ok hs; clear hs; obtain ⟨j, rest, rfl, hs⟩ := hsq
    have hsq := zite_ok hs; clear hs; obtain ⟨hj, hs⟩ := hsq
    split at hs
    · exact znewarr hC hd (kd := 20) (zot_w _ (by decide +kernel)) hj (by omega) (by omega) (fun h => h) (by decide) (zdefA (by omega)) (hrm _ _ _ _ (zgo_ok hs)) (kk _ _ _ _ (zgo_ok hs))
    · exact znewarr hC hd (kd := 21) (zot_w _ (by decide +kernel)) hj (by omega) (by omega) (fun h => h) (by decide) (zdefA (by omega)) (hrm _ _ _ _ (zgo_ok hs)) (kk _ _ _ _ (zgo_ok hs))
    · exact znewarr hC hd (kd := 26) (zot_w _ (by decide +kernel)) hj (by omega) (by omega) (fun h => h) (by decide) zdefJ (hrm _ _ _ _ (zgo_ok hs)) (kk _ _ _ _ (zgo_ok hs))
    · cases hs
  -- anewarray
  · have hsq := zl_ok hs; clear hs; obtain ⟨rfl, hs⟩ := hsq
    have hsq := z1_ok hs; clear hs; obtain ⟨j, rest, rfl, hs⟩ := hsq
    have hsq := zite_ok hs; clear hs; obtain ⟨hj, hs⟩ := hsq
    split at hs
    · rename_i e; exact zanewarr hC hd (kd := 22) e (by decide +kernel) hj (by omega) (by omega) (by decide +kernel) (hrm _ _ _ _ (zgo_ok hs)) (kk _ _ _ _ (zgo_ok hs))
    · rename_i e; exact zanewarr hC hd (kd := 23) e (by decide +kernel) hj (by omega) (by omega) (by decide +kernel) (hrm _ _ _ _ (zgo_ok hs)) (kk _ _ _ _ (zgo_ok hs))
    · rename_i e; exact zanewarr hC hd (kd := 24) e (by decide +kernel) hj (by omega) (by omega) (by decide +kernel) (hrm _ _ _ _ (zgo_ok hs)) (kk _ _ _ _ (zgo_ok hs))
    · rename_i e; exact zanewarr hC hd (kd := 25) e (by decide +kernel) hj (by omega) (by omega) (by decide +kernel) (hrm _ _ _ _ (zgo_ok hs)) (kk _ _ _ _ (zgo_ok hs))
    · cases hs
  · cases hs
end
