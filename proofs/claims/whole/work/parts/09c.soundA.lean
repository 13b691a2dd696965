/-! SOUNDNESS: constants, locals, arithmetic, branches -/
theorem z_ldcwI {p : Program} {l : Launch} {e : Env} {R : Room} {s : State} {m : MethodId} {args : Array Value} {below : List Frame} {meth : Method} {c : Code} {T : State} {locs : List Loc} {cells slots : Nat} (X : Stand p l e R s m args below meth c T locs cells slots) (hexec : p.tables.exec = Jvm.exec) {own text : String} {index : Nat} {a : Addr} (hown : s.vm.findClass own = some m.cls) (hconst : (Cond.stringRef own index text).before args s = true) (hev : (Term.string own index).eval args s none [] s = some (.ref a)) {g : JFrame} (hg : g.method = m) (hdg : decode c.code g.pc = .ok (.ldc_w index, 3)) : ∀ target, Steps p.tables e below (T.setTop { g with pc := g.pc + 3, stack := .ref a :: g.stack }) target → Steps p.tables e below (T.setTop g) target := by
  obtain ⟨k, cf, i, a', hk, hcf, hcp, -, hr, hev'⟩ := Cond.stringRef_spec hown hconst
  cases hev.symm.trans hev'
  obtain ⟨k', hk', he⟩ := X.warmed.alike.2.2 _ _ hk
  have hr' : k'.resolved[index]? = some (some (.string a)) := by
    rcases X.warmed.entry hk hk' index with h | ⟨h, -⟩
    · rw [h]; exact hr
    · rw [hr] at h; cases h
  intro target hrest
  subst hg
  jvm_step X.here [hexec, hdg, ldc_w.wp_string (e := e) (s := T) (f := g) X.here.top hk' (by rw [he]; exact hcf) hcp hr']
  exact hrest
theorem z_ldcwS {p : Program} {l : Launch} {e : Env} {R : Room} {s : State} {m : MethodId} {args : Array Value} {below : List Frame} {meth : Method} {c : Code} {H : Heap} {locs : List Loc} {cells slots : Nat} {Q : State → Prop} {cc : ByteArray} {pc : Nat} {ls : Array Slot} {rest : List Value} (hexec : p.tables.exec = Jvm.exec) (hb : c.code = cc) {own tx : String} {index q : Nat} (hown : s.vm.findClass own = some m.cls) (hZ : vk_R own index tx q s) (hdg : decode cc pc = .ok (.ldc_w index, 3)) (k : W p l e R s m args below meth c H locs cells slots Q (F0 m (pc + 3) ls (.ref q :: rest))) : W p l e R s m args below meth c H locs cells slots Q (F0 m pc ls rest) := by
  intro T hT X
  obtain ⟨t, a1, b1⟩ := k T hT X
  exact ⟨t, z_ldcwI X hexec hown (text := tx) (a := q) hZ.1 hZ.2 (g := F0 m pc ls rest) rfl (by rw [hb]; exact hdg) t a1, b1⟩
theorem zl_ok {len k : Nat} {x : Option zRes} {r : zRes} (h : zl len k x = some r) : len = k ∧ x = some r := by
  unfold zl at h
  split at h
  · rename_i e; exact ⟨Nat.eq_of_beq_eq_true e, h⟩
  · cases h
theorem z1_ok {st : List Value} {f : Int32 → List Value → Option zRes} {r : zRes} (h : z1 st f = some r) : ∃ x rest, st = .int x :: rest ∧ f x rest = some r := by
  unfold z1 at h
  split at h
  · exact ⟨_, _, rfl, h⟩
  · cases h
theorem z2_ok {st : List Value} {f : Int32 → Int32 → List Value → Option zRes} {r : zRes} (h : z2 st f = some r) : ∃ x y rest, st = .int y :: .int x :: rest ∧ f x y rest = some r := by
  unfold z2 at h
  split at h
  · exact ⟨_, _, _, rfl, h⟩
  · cases h
theorem zq1_ok {st : List Value} {f : Int64 → List Value → Option zRes} {r : zRes} (h : zq1 st f = some r) : ∃ x rest, st = .long x :: rest ∧ f x rest = some r := by
  unfold zq1 at h
  split at h
  · exact ⟨_, _, rfl, h⟩
  · cases h
theorem zq2_ok {st : List Value} {f : Int64 → Int64 → List Value → Option zRes} {r : zRes} (h : zq2 st f = some r) : ∃ x y rest, st = .long y :: .long x :: rest ∧ f x y rest = some r := by
  unfold zq2 at h
  split at h
  · exact ⟨_, _, _, rfl, h⟩
  · cases h
theorem za1_ok {st : List Value} {f : Nat → List Value → Option zRes} {r : zRes} (h : za1 st f = some r) : ∃ a rest, st = .ref a :: rest ∧ f a rest = some r := by
  unfold za1 at h
  split at h
  · exact ⟨_, _, rfl, h⟩
  · cases h
theorem zal_ok {st : List Value} {f : Nat → Int32 → List Value → Option zRes} {r : zRes} (h : zal st f = some r) : ∃ a j rest, st = .int j :: .ref a :: rest ∧ f a j rest = some r := by
  unfold zal at h
  split at h
  · exact ⟨_, _, _, rfl, h⟩
  · cases h
theorem zst1_ok {st : List Value} {q : Value → Bool} {f : Value → List Value → Option zRes} {r : zRes} (h : zst1 st q f = some r) : ∃ v rest, st = v :: rest ∧ q v = true ∧ f v rest = some r := by
  unfold zst1 at h
  split at h
  · split at h
    · rename_i e; exact ⟨_, _, rfl, e, h⟩
    · cases h
  · cases h
theorem zop_ok {α : Type} {o : Option α} {f : α → Option zRes} {r : zRes} (h : zop o f = some r) : ∃ x, o = some x ∧ f x = some r := by
  unfold zop at h
  split at h
  · exact ⟨_, rfl, h⟩
  · cases h
theorem zld_ok {ls : List Value} {k : Nat} {q : Value → Bool} {f : Value → Option zRes} {r : zRes} (h : zld ls k q f = some r) : ∃ v, ls[k]? = some v ∧ q v = true ∧ f v = some r := by
  unfold zld at h
  split at h
  · rename_i e
    split at h
    · rename_i e2; exact ⟨_, e, e2, h⟩
    · cases h
  · cases h
theorem zstore_ok {ls : List Value} {k : Nat} {v : Value} {f : List Value → Option zRes} {r : zRes} (h : zstore ls k v f = some r) : ∃ l, zput ls k v = some l ∧ f l = some r := by
  unfold zstore at h
  split at h
  · rename_i e; exact ⟨_, e, h⟩
  · cases h
theorem zj_ok {pc : Nat} {off : Int} {f : Nat → Option zRes} {r : zRes} (h : zj pc off f = some r) : ∃ t : Nat, (pc : Int) + off = (t : Int) ∧ f t = some r := by
  unfold zj at h
  split at h
  · rename_i e; exact ⟨_, e, h⟩
  · cases h
theorem zisI_ok {v : Value} (h : zisI v = true) : ∃ x, v = .int x := by
  cases v <;> first | exact ⟨_, rfl⟩ | cases h
theorem zrf_ok {v : Value} (h : zrf v = true) : v = .null ∨ ∃ x, v = .ref x := by
  cases v <;> first | exact Or.inl rfl | exact Or.inr ⟨_, rfl⟩ | cases h
/-- the goal at a configuration of the toy machine -/
def zWk (D : va_G) (dT : Nat → ClassId) (B0 C0 S0 : Nat) (p : Program) (l : Launch) (e : Env) (R : Room) (s : State) (m : MethodId) (args : Array Value) (below : List Frame) (meth : Method) (c : Code) (n : Nat) (Q : State → Prop) (pc : Nat) (lst st : List Value) (h : Hp) : Prop :=
  ∀ (H : Heap) (locs : List Loc) (cells slots : Nat) (ls : Array Slot), zRep D dT B0 h H → va_S (zAp B0) s.heap H locs → cells + C0 = zC h → slots + S0 = zS h → zLs (zmax n) lst ls → W p l e R s m args below meth c H locs cells slots Q (F0 m pc ls st)
/-- int constants of the pools -/
theorem zir_ok {n k : Nat} {v : Int32} (h : zir n k = some v) : Cond.constant (zcn (zown n)) k v ∈ zgw := zci_w _ _ _ h
theorem zjr_ok {n k : Nat} {v : Int64} (h : zjr n k = some v) : Cond.constantLong (zcn (zown n)) k v ∈ zgw := zcj_w _ _ _ h
section
variable {D : va_G} {dT : Nat → ClassId} {B0 C0 S0 : Nat} {z : ZE} {p : Program} {l : Launch} {e : Env} {R : Room} {s : State} {m : MethodId} {args : Array Value} {below : List Frame} {meth : Method} {c : Code} {n : Nat} {Q : State → Prop}
set_option maxHeartbeats 4000000 in
theorem zsA_ok {pc len : Nat} {i : Instr} {lst st : List Value} {h : Hp} {r : zRes} (hC : zCx D dT B0 z p l R s m args meth c n) (hd : decode (zcd n) pc = .ok (i, len)) (hs : zsA z n pc i len lst st h = some r)
    (kk : ∀ pc' lst' st' h', r = .inl (pc', lst', st', h') → zWk D dT B0 C0 S0 p l e R s m args below meth c n Q pc' lst' st' h') : zWk D dT B0 C0 S0 p l e R s m args below meth c n Q pc lst st h := by
  obtain ⟨hx, hb, hml, hr, hown, hts, hlocks, hin, hK, hSt, hl, hxt⟩ := id hC
  intro H locs cells slots ls hR hS hc hsl hL
  unfold zsA at hs
  split at hs
  · have hsq := zl_ok hs; clear hs; obtain ⟨rfl, hs⟩ := hsq
    unfold zgo at hs; cases hs
    exact lv_iconst hx hb hd rfl (kk _ _ _ _ rfl H locs cells slots ls hR hS hc hsl hL)
  · have hsq := zl_ok hs; clear hs; obtain ⟨rfl, hs⟩ := hsq
    unfold zgo at hs; cases hs
    exact lv_bipush hx hb hd rfl (kk _ _ _ _ rfl H locs cells slots ls hR hS hc hsl hL)
  · have hsq := zl_ok hs; clear hs; obtain ⟨rfl, hs⟩ := hsq
    unfold zgo at hs; cases hs
    exact lv_sipush hx hb hd rfl (kk _ _ _ _ rfl H locs cells slots ls hR hS hc hsl hL)
  · have hsq := zl_ok hs; clear hs; obtain ⟨rfl, hs⟩ := hsq
    unfold zgo at hs; cases hs
    exact lv_lconst hx hb hd rfl (kk _ _ _ _ rfl H locs cells slots ls hR hS hc hsl hL)
  · have hsq := zl_ok hs; clear hs; obtain ⟨rfl, hs⟩ := hsq
    unfold zgo at hs; cases hs
    exact lv_null hx hb hd (kk _ _ _ _ rfl H locs cells slots ls hR hS hc hsl hL)
  · have hsq := zl_ok hs; clear hs; obtain ⟨rfl, hs⟩ := hsq
    split at hs
    · rename_i v hv
      unfold zgo at hs; cases hs
      exact lv_ldc hx hb hown (hts _ (zir_ok hv)) hd (kk _ _ _ _ rfl H locs cells slots ls hR hS hc hsl hL)
    · have hsq := zop_ok hs; clear hs; obtain ⟨q, hq, hs⟩ := hsq
      unfold zgo at hs; cases hs
      obtain ⟨tx, ht⟩ := hSt.2.2.2.2.1 _ _ _ hq
      exact va_ldcS hx hb hown ht hd (kk _ _ _ _ rfl H locs cells slots ls hR hS hc hsl hL)
  · have hsq := zl_ok hs; clear hs; obtain ⟨rfl, hs⟩ := hsq
    split at hs
    · rename_i v hv
      unfold zgo at hs; cases hs
      exact lv_ldcw hx hb hown (hts _ (zir_ok hv)) hd (kk _ _ _ _ rfl H locs cells slots ls hR hS hc hsl hL)
    · have hsq := zop_ok hs; clear hs; obtain ⟨q, hq, hs⟩ := hsq
      unfold zgo at hs; cases hs
      obtain ⟨tx, ht⟩ := hSt.2.2.2.2.1 _ _ _ hq
      exact z_ldcwS hx hb hown ht hd (kk _ _ _ _ rfl H locs cells slots ls hR hS hc hsl hL)
  · have hsq := zl_ok hs; clear hs; obtain ⟨rfl, hs⟩ := hsq
    have hsq := zop_ok hs; clear hs; obtain ⟨v, hv, hs⟩ := hsq
    unfold zgo at hs; cases hs
    exact lv_ldc2 hx hb hown (hts _ (zjr_ok hv)) hd (kk _ _ _ _ rfl H locs cells slots ls hR hS hc hsl hL)
  · have hsq := zl_ok hs; clear hs; obtain ⟨rfl, hs⟩ := hsq
    have hsq := zld_ok hs; clear hs; obtain ⟨v, hv, hq, hs⟩ := hsq
    obtain ⟨x, rfl⟩ := zisI_ok hq
    unfold zgo at hs; cases hs
    exact lv_iload hx hb hd (zLs_at hL hv rfl) (kk _ _ _ _ rfl H locs cells slots ls hR hS hc hsl hL)
  · have hsq := zl_ok hs; clear hs; obtain ⟨rfl, hs⟩ := hsq
    have hsq := zld_ok hs; clear hs; obtain ⟨v, hv, hq, hs⟩ := hsq
    obtain ⟨x, rfl⟩ := zisI_ok hq
    unfold zgo at hs; cases hs
    exact lv_iload_n hx hb hd rfl (zLs_at hL hv rfl) (kk _ _ _ _ rfl H locs cells slots ls hR hS hc hsl hL)
  · have hsq := zl_ok hs; clear hs; obtain ⟨rfl, hs⟩ := hsq
    have hsq := zld_ok hs; clear hs; obtain ⟨v, hv, hq, hs⟩ := hsq
    rcases zrf_ok hq with rfl | ⟨x, rfl⟩
    · unfold zgo at hs; cases hs
      exact lv_aloadN hx hb hd (zLs_at hL hv rfl) (kk _ _ _ _ rfl H locs cells slots ls hR hS hc hsl hL)
    · unfold zgo at hs; cases hs
      exact lv_aload hx hb hd (zLs_at hL hv rfl) (kk _ _ _ _ rfl H locs cells slots ls hR hS hc hsl hL)
  · have hsq := zl_ok hs; clear hs; obtain ⟨rfl, hs⟩ := hsq
    have hsq := zld_ok hs; clear hs; obtain ⟨v, hv, hq, hs⟩ := hsq
    rcases zrf_ok hq with rfl | ⟨x, rfl⟩
    · unfold zgo at hs; cases hs
      exact lv_aload_nN hx hb hd rfl (zLs_at hL hv rfl) (kk _ _ _ _ rfl H locs cells slots ls hR hS hc hsl hL)
    · unfold zgo at hs; cases hs
      exact lv_aload_n hx hb hd rfl (zLs_at hL hv rfl) (kk _ _ _ _ rfl H locs cells slots ls hR hS hc hsl hL)
  · have hsq := zl_ok hs; clear hs; obtain ⟨rfl, hs⟩ := hsq
    split at hs
    · rename_i x hv
      unfold zgo at hs; cases hs
      exact lv_lload hx hb hd (zLs_at hL hv rfl) (kk _ _ _ _ rfl H locs cells slots ls hR hS hc hsl hL)
    · cases hs
  · have hsq := zl_ok hs; clear hs; obtain ⟨rfl, hs⟩ := hsq
    split at hs
    · rename_i x hv
      unfold zgo at hs; cases hs
      exact lv_lload_n hx hb hd rfl (zLs_at hL hv rfl) (kk _ _ _ _ rfl H locs cells slots ls hR hS hc hsl hL)
    · cases hs
  · have hsq := zl_ok hs; clear hs; obtain ⟨rfl, hs⟩ := hsq
    have hsq := zst1_ok hs; clear hs; obtain ⟨v, rest, rfl, hq, hs⟩ := hsq
    have hsq := zstore_ok hs; clear hs; obtain ⟨l2, hp, hs⟩ := hsq
    have hput := zput_ok hL hp
    obtain ⟨x, rfl⟩ := zisI_ok hq
    unfold zgo at hs; cases hs
    exact lv_istore hx hb hd hL.2 hput.1 rfl (fun ls2 h2 => kk _ _ _ _ rfl H locs cells slots ls2 hR hS hc hsl (hput.2 ls2 h2))
  · have hsq := zl_ok hs; clear hs; obtain ⟨rfl, hs⟩ := hsq
    have hsq := zst1_ok hs; clear hs; obtain ⟨v, rest, rfl, hq, hs⟩ := hsq
    have hsq := zstore_ok hs; clear hs; obtain ⟨l2, hp, hs⟩ := hsq
    have hput := zput_ok hL hp
    obtain ⟨x, rfl⟩ := zisI_ok hq
    unfold zgo at hs; cases hs
    exact lv_istore_n hx hb hd rfl hL.2 hput.1 rfl (fun ls2 h2 => kk _ _ _ _ rfl H locs cells slots ls2 hR hS hc hsl (hput.2 ls2 h2))
  · have hsq := zl_ok hs; clear hs; obtain ⟨rfl, hs⟩ := hsq
    have hsq := zst1_ok hs; clear hs; obtain ⟨v, rest, rfl, hq, hs⟩ := hsq
    have hsq := zstore_ok hs; clear hs; obtain ⟨l2, hp, hs⟩ := hsq
    have hput := zput_ok hL hp
    rcases zrf_ok hq with rfl | ⟨x, rfl⟩
    · unfold zgo at hs; cases hs
      exact lv_astoreN hx hb hd hL.2 hput.1 rfl (fun ls2 h2 => kk _ _ _ _ rfl H locs cells slots ls2 hR hS hc hsl (hput.2 ls2 h2))
    · unfold zgo at hs; cases hs
      exact lv_astore hx hb hd hL.2 hput.1 rfl (fun ls2 h2 => kk _ _ _ _ rfl H locs cells slots ls2 hR hS hc hsl (hput.2 ls2 h2))
  · have hsq := zl_ok hs; clear hs; obtain ⟨rfl, hs⟩ := hsq
    have hsq := zst1_ok hs; clear hs; obtain ⟨v, rest, rfl, hq, hs⟩ := hsq
    have hsq := zstore_ok hs; clear hs; obtain ⟨l2, hp, hs⟩ := hsq
    have hput := zput_ok hL hp
    rcases zrf_ok hq with rfl | ⟨x, rfl⟩
    · unfold zgo at hs; cases hs
      exact lv_astore_nN hx hb hd rfl hL.2 hput.1 rfl (fun ls2 h2 => kk _ _ _ _ rfl H locs cells slots ls2 hR hS hc hsl (hput.2 ls2 h2))
    · unfold zgo at hs; cases hs
      exact lv_astore_n hx hb hd rfl hL.2 hput.1 rfl (fun ls2 h2 => kk _ _ _ _ rfl H locs cells slots ls2 hR hS hc hsl (hput.2 ls2 h2))
  · have hsq := zl_ok hs; clear hs; obtain ⟨rfl, hs⟩ := hsq
    have hsq := zq1_ok hs; clear hs; obtain ⟨x, rest, rfl, hs⟩ := hsq
    split at hs
    · rename_i hlt
      have hsq := zstore_ok hs; clear hs; obtain ⟨l2, hp, hs⟩ := hsq
      have hput := zputL_ok hL hp (by simpa using hlt)
      unfold zgo at hs; cases hs
      exact lv_lstore hx hb hd hL.2 hput.1 rfl (fun ls2 h2 => kk _ _ _ _ rfl H locs cells slots ls2 hR hS hc hsl (hput.2 ls2 h2))
    · cases hs
  · have hsq := zl_ok hs; clear hs; obtain ⟨rfl, hs⟩ := hsq
    have hsq := zq1_ok hs; clear hs; obtain ⟨x, rest, rfl, hs⟩ := hsq
    split at hs
    · rename_i hlt
      have hsq := zstore_ok hs; clear hs; obtain ⟨l2, hp, hs⟩ := hsq
      have hput := zputL_ok hL hp (by simpa using hlt)
      unfold zgo at hs; cases hs
      exact lv_lstore_n hx hb hd rfl hL.2 hput.1 rfl (fun ls2 h2 => kk _ _ _ _ rfl H locs cells slots ls2 hR hS hc hsl (hput.2 ls2 h2))
    · cases hs
  · have hsq := zl_ok hs; clear hs; obtain ⟨rfl, hs⟩ := hsq
    split at hs
    · rename_i x hv
      have hsq := zstore_ok hs; clear hs; obtain ⟨l2, hp, hs⟩ := hsq
      have hput := zput_ok hL hp
      unfold zgo at hs; cases hs
      obtain ⟨kq, hkq⟩ := List.getElem?_of_mem ((zpr_mem lst 0 _ (.int x)).mpr ⟨_, (Nat.zero_add _).symm, hv, rfl⟩)
      exact lv_iinc hx hb hd hL.2 hkq rfl hput.1 rfl (fun ls2 h2 => kk _ _ _ _ rfl H locs cells slots ls2 hR hS hc hsl (hput.2 ls2 h2))
    · cases hs
  · have hsq := zl_ok hs; clear hs; obtain ⟨rfl, hs⟩ := hsq
    have hsq := z2_ok hs; clear hs; obtain ⟨x, y, rest, rfl, hs⟩ := hsq
    unfold zgo at hs; cases hs
    exact lv_iadd hx hb hd (kk _ _ _ _ rfl H locs cells slots ls hR hS hc hsl hL)
  · have hsq := zl_ok hs; clear hs; obtain ⟨rfl, hs⟩ := hsq
    have hsq := z2_ok hs; clear hs; obtain ⟨x, y, rest, rfl, hs⟩ := hsq
    unfold zgo at hs; cases hs
    exact lv_isub hx hb hd (kk _ _ _ _ rfl H locs cells slots ls hR hS hc hsl hL)
  · have hsq := zl_ok hs; clear hs; obtain ⟨rfl, hs⟩ := hsq
    have hsq := z2_ok hs; clear hs; obtain ⟨x, y, rest, rfl, hs⟩ := hsq
    unfold zgo at hs; cases hs
    exact lv_imul hx hb hd (kk _ _ _ _ rfl H locs cells slots ls hR hS hc hsl hL)
  · have hsq := zl_ok hs; clear hs; obtain ⟨rfl, hs⟩ := hsq
    have hsq := z2_ok hs; clear hs; obtain ⟨x, y, rest, rfl, hs⟩ := hsq
    split at hs
    · cases hs
    · rename_i hne
      unfold zgo at hs; cases hs
      exact lv_idiv hx hb hd hne (kk _ _ _ _ rfl H locs cells slots ls hR hS hc hsl hL)
  · have hsq := zl_ok hs; clear hs; obtain ⟨rfl, hs⟩ := hsq
    have hsq := z2_ok hs; clear hs; obtain ⟨x, y, rest, rfl, hs⟩ := hsq
    split at hs
    · cases hs
    · rename_i hne
      unfold zgo at hs; cases hs
      exact lv_irem hx hb hd hne (kk _ _ _ _ rfl H locs cells slots ls hR hS hc hsl hL)
  · have hsq := zl_ok hs; clear hs; obtain ⟨rfl, hs⟩ := hsq
    have hsq := z2_ok hs; clear hs; obtain ⟨x, y, rest, rfl, hs⟩ := hsq
    unfold zgo at hs; cases hs
    exact lv_iand hx hb hd (kk _ _ _ _ rfl H locs cells slots ls hR hS hc hsl hL)
  · have hsq := zl_ok hs; clear hs; obtain ⟨rfl, hs⟩ := hsq
    have hsq := z2_ok hs; clear hs; obtain ⟨x, y, rest, rfl, hs⟩ := hsq
    unfold zgo at hs; cases hs
    exact lv_ior hx hb hd (kk _ _ _ _ rfl H locs cells slots ls hR hS hc hsl hL)
  · have hsq := zl_ok hs; clear hs; obtain ⟨rfl, hs⟩ := hsq
    have hsq := z2_ok hs; clear hs; obtain ⟨x, y, rest, rfl, hs⟩ := hsq
    unfold zgo at hs; cases hs
    exact lv_ixor hx hb hd (kk _ _ _ _ rfl H locs cells slots ls hR hS hc hsl hL)
  · have hsq := zl_ok hs; clear hs; obtain ⟨rfl, hs⟩ := hsq
    have hsq := z2_ok hs; clear hs; obtain ⟨x, y, rest, rfl, hs⟩ := hsq
    unfold zgo at hs; cases hs
    exact lv_ishl hx hb hd (kk _ _ _ _ rfl H locs cells slots ls hR hS hc hsl hL)
  · have hsq := zl_ok hs; clear hs; obtain ⟨rfl, hs⟩ := hsq
    have hsq := z2_ok hs; clear hs; obtain ⟨x, y, rest, rfl, hs⟩ := hsq
    unfold zgo at hs; cases hs
    exact lv_ishr hx hb hd (kk _ _ _ _ rfl H locs cells slots ls hR hS hc hsl hL)
  · have hsq := zl_ok hs; clear hs; obtain ⟨rfl, hs⟩ := hsq
    have hsq := z2_ok hs; clear hs; obtain ⟨x, y, rest, rfl, hs⟩ := hsq
    unfold zgo at hs; cases hs
    exact lv_iushr hx hb hd rfl (kk _ _ _ _ rfl H locs cells slots ls hR hS hc hsl hL)
  · have hsq := zl_ok hs; clear hs; obtain ⟨rfl, hs⟩ := hsq
    have hsq := z1_ok hs; clear hs; obtain ⟨x, rest, rfl, hs⟩ := hsq
    unfold zgo at hs; cases hs
    exact lv_ineg hx hb hd (kk _ _ _ _ rfl H locs cells slots ls hR hS hc hsl hL)
  · have hsq := zl_ok hs; clear hs; obtain ⟨rfl, hs⟩ := hsq
    have hsq := zq2_ok hs; clear hs; obtain ⟨x, y, rest, rfl, hs⟩ := hsq
    unfold zgo at hs; cases hs
    exact lv_ladd hx hb hd (kk _ _ _ _ rfl H locs cells slots ls hR hS hc hsl hL)
  · have hsq := zl_ok hs; clear hs; obtain ⟨rfl, hs⟩ := hsq
    have hsq := zq2_ok hs; clear hs; obtain ⟨x, y, rest, rfl, hs⟩ := hsq
    unfold zgo at hs; cases hs
    exact lv_lmul hx hb hd (kk _ _ _ _ rfl H locs cells slots ls hR hS hc hsl hL)
  · have hsq := zl_ok hs; clear hs; obtain ⟨rfl, hs⟩ := hsq
    have hsq := zq2_ok hs; clear hs; obtain ⟨x, y, rest, rfl, hs⟩ := hsq
    split at hs
    · cases hs
    · rename_i hne
      unfold zgo at hs; cases hs
      exact lv_ldiv hx hb hd hne (kk _ _ _ _ rfl H locs cells slots ls hR hS hc hsl hL)
  · have hsq := zl_ok hs; clear hs; obtain ⟨rfl, hs⟩ := hsq
    have hsq := zq2_ok hs; clear hs; obtain ⟨x, y, rest, rfl, hs⟩ := hsq
    unfold zgo at hs; cases hs
    exact W.lcmp hx hb hd (kk _ _ _ _ rfl H locs cells slots ls hR hS hc hsl hL)
  · have hsq := zl_ok hs; clear hs; obtain ⟨rfl, hs⟩ := hsq
    have hsq := z1_ok hs; clear hs; obtain ⟨x, rest, rfl, hs⟩ := hsq
    unfold zgo at hs; cases hs
    exact lv_i2l hx hb hd rfl (kk _ _ _ _ rfl H locs cells slots ls hR hS hc hsl hL)
  · have hsq := zl_ok hs; clear hs; obtain ⟨rfl, hs⟩ := hsq
    have hsq := zq1_ok hs; clear hs; obtain ⟨x, rest, rfl, hs⟩ := hsq
    unfold zgo at hs; cases hs
    exact lv_l2i hx hb hd rfl (kk _ _ _ _ rfl H locs cells slots ls hR hS hc hsl hL)
  · have hsq := zl_ok hs; clear hs; obtain ⟨rfl, hs⟩ := hsq
    have hsq := z1_ok hs; clear hs; obtain ⟨x, rest, rfl, hs⟩ := hsq
    unfold zgo at hs; cases hs
    exact lv_i2c hx hb hd rfl (kk _ _ _ _ rfl H locs cells slots ls hR hS hc hsl hL)
  · have hsq := zl_ok hs; clear hs; obtain ⟨rfl, hs⟩ := hsq
    have hsq := zst1_ok hs; clear hs; obtain ⟨v, rest, rfl, hq, hs⟩ := hsq
    unfold zgo at hs; cases hs
    exact lv_dup hx hb hd (zcat1_1 hq) (kk _ _ _ _ rfl H locs cells slots ls hR hS hc hsl hL)
  · have hsq := zl_ok hs; clear hs; obtain ⟨rfl, hs⟩ := hsq
    have hsq := zst1_ok hs; clear hs; obtain ⟨v, rest, rfl, hq, hs⟩ := hsq
    unfold zgo at hs; cases hs
    exact lv_pop hx hb hd (zcat1_1 hq) (kk _ _ _ _ rfl H locs cells slots ls hR hS hc hsl hL)
  · have hsq := zl_ok hs; clear hs; obtain ⟨rfl, hs⟩ := hsq
    have hsq := zst1_ok hs; clear hs; obtain ⟨v, rest, rfl, hq, hs⟩ := hsq
    have hsq := zst1_ok hs; clear hs; obtain ⟨w, rest2, rfl, hq2, hs⟩ := hsq
    unfold zgo at hs; cases hs
    exact lv_dup2_11 hx hb hd (zcat1_1 hq) (zcat1_1 hq2) (kk _ _ _ _ rfl H locs cells slots ls hR hS hc hsl hL)
  · have hsq := zl_ok hs; clear hs; obtain ⟨rfl, hs⟩ := hsq
    have hsq := z1_ok hs; clear hs; obtain ⟨x, rest, rfl, hs⟩ := hsq
    have hsq := zj_ok hs; clear hs; obtain ⟨t, ht, hs⟩ := hsq
    unfold zcnd at hs
    split at hs
    · exact lv_if_eq hx hb hd ht (fun hP => by (try rw [if_pos hP] at hs); (try rw [if_neg hP] at hs); unfold zgo at hs; cases hs; exact kk _ _ _ _ rfl H locs cells slots ls hR hS hc hsl hL) (fun hP => by (try rw [if_pos hP] at hs); (try rw [if_neg hP] at hs); unfold zgo at hs; cases hs; exact kk _ _ _ _ rfl H locs cells slots ls hR hS hc hsl hL)
    · exact lv_if_ne hx hb hd ht (fun hP => by (try rw [if_pos hP] at hs); (try rw [if_neg hP] at hs); unfold zgo at hs; cases hs; exact kk _ _ _ _ rfl H locs cells slots ls hR hS hc hsl hL) (fun hP => by (try rw [if_pos hP] at hs); (try rw [if_neg hP] at hs); unfold zgo at hs; cases hs; exact kk _ _ _ _ rfl H locs cells slots ls hR hS hc hsl hL)
    · exact lv_if_lt hx hb hd ht (fun hP => by (try rw [if_pos hP] at hs); (try rw [if_neg hP] at hs); unfold zgo at hs; cases hs; exact kk _ _ _ _ rfl H locs cells slots ls hR hS hc hsl hL) (fun hP => by (try rw [if_pos hP] at hs); (try rw [if_neg hP] at hs); unfold zgo at hs; cases hs; exact kk _ _ _ _ rfl H locs cells slots ls hR hS hc hsl hL)
    · exact lv_if_ge hx hb hd ht (fun hP => by (try rw [if_pos hP] at hs); (try rw [if_neg hP] at hs); unfold zgo at hs; cases hs; exact kk _ _ _ _ rfl H locs cells slots ls hR hS hc hsl hL) (fun hP => by (try rw [if_pos hP] at hs); (try rw [if_neg hP] at hs); unfold zgo at hs; cases hs; exact kk _ _ _ _ rfl H locs cells slots ls hR hS hc hsl hL)
    · exact lv_if_gt hx hb hd ht (fun hP => by (try rw [if_pos hP] at hs); (try rw [if_neg hP] at hs); unfold zgo at hs; cases hs; exact kk _ _ _ _ rfl H locs cells slots ls hR hS hc hsl hL) (fun hP => by (try rw [if_pos hP] at hs); (try rw [if_neg hP] at hs); unfold zgo at hs; cases hs; exact kk _ _ _ _ rfl H locs cells slots ls hR hS hc hsl hL)
    · exact lv_if_le hx hb hd ht (fun hP => by (try rw [if_pos hP] at hs); (try rw [if_neg hP] at hs); unfold zgo at hs; cases hs; exact kk _ _ _ _ rfl H locs cells slots ls hR hS hc hsl hL) (fun hP => by (try rw [if_pos hP] at hs); (try rw [if_neg hP] at hs); unfold zgo at hs; cases hs; exact kk _ _ _ _ rfl H locs cells slots ls hR hS hc hsl hL)
  · have hsq := zl_ok hs; clear hs; obtain ⟨rfl, hs⟩ := hsq
    have hsq := z2_ok hs; clear hs; obtain ⟨x, y, rest, rfl, hs⟩ := hsq
    have hsq := zj_ok hs; clear hs; obtain ⟨t, ht, hs⟩ := hsq
    unfold zcnd at hs
    split at hs
    · exact lv_icmp_eq hx hb hd ht (fun hP => by (try rw [if_pos hP] at hs); (try rw [if_neg hP] at hs); unfold zgo at hs; cases hs; exact kk _ _ _ _ rfl H locs cells slots ls hR hS hc hsl hL) (fun hP => by (try rw [if_pos hP] at hs); (try rw [if_neg hP] at hs); unfold zgo at hs; cases hs; exact kk _ _ _ _ rfl H locs cells slots ls hR hS hc hsl hL)
    · exact lv_icmp_ne hx hb hd ht (fun hP => by (try rw [if_pos hP] at hs); (try rw [if_neg hP] at hs); unfold zgo at hs; cases hs; exact kk _ _ _ _ rfl H locs cells slots ls hR hS hc hsl hL) (fun hP => by (try rw [if_pos hP] at hs); (try rw [if_neg hP] at hs); unfold zgo at hs; cases hs; exact kk _ _ _ _ rfl H locs cells slots ls hR hS hc hsl hL)
    · exact lv_icmp_lt hx hb hd ht (fun hP => by (try rw [if_pos hP] at hs); (try rw [if_neg hP] at hs); unfold zgo at hs; cases hs; exact kk _ _ _ _ rfl H locs cells slots ls hR hS hc hsl hL) (fun hP => by (try rw [if_pos hP] at hs); (try rw [if_neg hP] at hs); unfold zgo at hs; cases hs; exact kk _ _ _ _ rfl H locs cells slots ls hR hS hc hsl hL)
    · exact lv_icmp_ge hx hb hd ht (fun hP => by (try rw [if_pos hP] at hs); (try rw [if_neg hP] at hs); unfold zgo at hs; cases hs; exact kk _ _ _ _ rfl H locs cells slots ls hR hS hc hsl hL) (fun hP => by (try rw [if_pos hP] at hs); (try rw [if_neg hP] at hs); unfold zgo at hs; cases hs; exact kk _ _ _ _ rfl H locs cells slots ls hR hS hc hsl hL)
    · exact lv_icmp_gt hx hb hd ht (fun hP => by (try rw [if_pos hP] at hs); (try rw [if_neg hP] at hs); unfold zgo at hs; cases hs; exact kk _ _ _ _ rfl H locs cells slots ls hR hS hc hsl hL) (fun hP => by (try rw [if_pos hP] at hs); (try rw [if_neg hP] at hs); unfold zgo at hs; cases hs; exact kk _ _ _ _ rfl H locs cells slots ls hR hS hc hsl hL)
    · exact lv_icmp_le hx hb hd ht (fun hP => by (try rw [if_pos hP] at hs); (try rw [if_neg hP] at hs); unfold zgo at hs; cases hs; exact kk _ _ _ _ rfl H locs cells slots ls hR hS hc hsl hL) (fun hP => by (try rw [if_pos hP] at hs); (try rw [if_neg hP] at hs); unfold zgo at hs; cases hs; exact kk _ _ _ _ rfl H locs cells slots ls hR hS hc hsl hL)
  · have hsq := zl_ok hs; clear hs; obtain ⟨rfl, hs⟩ := hsq
    have hsq := zj_ok hs; clear hs; obtain ⟨t, ht, hs⟩ := hsq
    unfold zgo at hs; cases hs
    exact lv_goto hx hb hd ht (kk _ _ _ _ rfl H locs cells slots ls hR hS hc hsl hL)
  · have hsq := zl_ok hs; clear hs; obtain ⟨rfl, hs⟩ := hsq
    have hsq := zj_ok hs; clear hs; obtain ⟨t, ht, hs⟩ := hsq
    split at hs
    · unfold zgo at hs; cases hs
      exact lv_ifnullN hx hb hd ht (kk _ _ _ _ rfl H locs cells slots ls hR hS hc hsl hL)
    · unfold zgo at hs; cases hs
      exact lv_ifnull hx hb hd (kk _ _ _ _ rfl H locs cells slots ls hR hS hc hsl hL)
    · cases hs
  · have hsq := zl_ok hs; clear hs; obtain ⟨rfl, hs⟩ := hsq
    have hsq := zj_ok hs; clear hs; obtain ⟨t, ht, hs⟩ := hsq
    split at hs
    · unfold zgo at hs; cases hs
      exact lv_ifnonnullN hx hb hd (kk _ _ _ _ rfl H locs cells slots ls hR hS hc hsl hL)
    · unfold zgo at hs; cases hs
      exact lv_ifnonnull hx hb hd ht (kk _ _ _ _ rfl H locs cells slots ls hR hS hc hsl hL)
    · cases hs
  · have hsq := z1_ok hs; clear hs; obtain ⟨x, rest, rfl, hs⟩ := hsq
    split at hs
    · rename_i ho
      have hsq := zj_ok hs; clear hs; obtain ⟨t, ht, hs⟩ := hsq
      unfold zgo at hs; cases hs
      exact lv_tableOut hx hb hd ho ht (kk _ _ _ _ rfl H locs cells slots ls hR hS hc hsl hL)
    · rename_i ho
      have hsq := zop_ok hs; clear hs; obtain ⟨off, hof, hs⟩ := hsq
      have hsq := zj_ok hs; clear hs; obtain ⟨t, ht, hs⟩ := hsq
      unfold zgo at hs; cases hs
      exact lv_tableIn hx hb hd (fun h => ho (Or.inl h)) (fun h => ho (Or.inr h)) hof ht (kk _ _ _ _ rfl H locs cells slots ls hR hS hc hsl hL)
  · cases hs
end
