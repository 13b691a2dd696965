/-! THE LAW'S WRAPPERS: a call, its exceptions numbered, the answer in an array -/
def Mw (A : Nat → Prop) (o c s : Nat) (h h' : Hp) : Prop := (∀ x, x < zT h → zK h' x = zK h x ∧ zN h' x = zN h x) ∧ (∀ x, x < zT h → ¬ A x → zI h' x = zI h x ∧ zR h' x = zR h x) ∧ (∀ x, x < zT h → x ≠ o → zJ h' x = zJ h x) ∧ zT h ≤ zT h' ∧ (Tp h → Tp h') ∧ zC h' ≤ zC h + c ∧ zS h' ≤ zS h + s
theorem Mw.of {A : Nat → Prop} {o c s : Nat} {h h' : Hp} (M : Mv A c s h h') : Mw A o c s h h' := ⟨fun x hx => ⟨(M.1 x hx).1, (M.1 x hx).2.1⟩, M.2.1, fun x hx _ => (M.1 x hx).2.2, M.2.2⟩
theorem Mw.wJ {A : Nat → Prop} {o c s : Nat} {h h' : Hp} {v : Int64} (M : Mv A c s h h') : Mw A o c s h (zwJ h' o 0 v) := by
  refine ⟨fun x hx => ⟨(M.1 x hx).1, (M.1 x hx).2.1⟩, M.2.1, fun x hx hn => ?_, M.2.2.1, M.2.2.2.1, M.2.2.2.2⟩
  refine Eq.trans ?_ (M.1 x hx).2.2
  funext y
  show zup (zJ h') o 0 v x y = zJ h' x y
  unfold zup
  exact if_neg (fun q => hn q.1)
theorem CI.wJ {z : ZE} {h : Hp} {X : Nat} {S : PSt} {ls : List LN} {Lo : Option Nat} {K : Option Img} {A : List PSt} {tl : Nat} {T : Row} {ft : Int32} {o : Nat} {v : Int64} (H : CI z h X S ls Lo K A tl T ft) : CI z (zwJ h o 0 v) X S ls Lo K A tl T ft := H.ag (D := fun _ => True) (E := fun _ => True) ⟨fun x _ => ⟨rfl, rfl, rfl⟩, fun x _ => rfl⟩ (fun _ _ => trivial) (fun _ _ _ => trivial) (fun _ _ => ⟨trivial, trivial⟩) (fun _ _ _ _ _ _ => ⟨trivial, trivial⟩)
def Wq (z : ZE) (d : Nat) (h : Hp) (X : Nat) (Lo : Option Nat) (o m : Nat) (as : List Value) (k : Nat) (v : Int32) (q : Stt) : Prop := ∃ h', ev z d m 0 as [] h = some (.inl (some (.int (nI k))), h') ∧ Mw (Xz X Lo) o 10 1000 h h' ∧ CV z h' X q ∧ (k = 0 → zJ h' o 0 = v.toInt64)
theorem zJ_wa {h : Hp} {o : Nat} {v : Int64} : zJ (zwJ h o 0 v) o 0 = v := by
  show zup (zJ h) o 0 v o 0 = v
  unfold zup
  exact if_pos ⟨rfl, rfl⟩
section
variable {z : ZE} {d : Nat} {h h' : Hp} {X o : Nat} {Lo : Option Nat} {k : Nat} {v a b c e f : Int32} {q : Stt}
theorem Wr_317 (hX : zK h X = 10) (hl : o < zT h) (k26 : zK h o = 26) (n1 : zN h o = 1) (hk : k ≤ 2) (C : CA z d h X Lo 103 [.ref X] [0, 3] k v q) : Wq z d h X Lo o 317 [.ref X, .ref o, zu] k v q := by
  obtain ⟨h', ee, M, C⟩ := C
  have ko : zK h' o = 26 := (M.1 o hl).1.trans k26
  have kn : zN h' o = 1 := (M.1 o hl).2.1.trans n1
  have st : ev z d 317 0 [.ref X, .ref o, zu] [] h = ev z d 317 3 [.ref X, .ref o, zu] [.ref X, .int (nI 0), .ref o] h := ev_fa 3 (pc' := 3) (ls' := [.ref X, .ref o, zu]) (st' := [.ref X, .int (nI 0), .ref o]) (h' := h) rfl
  rcases k with _ | k
  · refine ⟨zwJ h' o 0 v.toInt64, ?_, Mw.wJ M, CI.wJ C, fun _ => zJ_wa⟩
    refine (st.trans (e_K (ent := [.ref X]) rfl rfl rfl (zsC_v rfl rfl rfl hX (Nat.le_of_ble_eq_true rfl)) rfl rfl ee)).trans ?_
    refine (ev_fa 1 (pc' := 7) (ls' := [.ref X, .ref o, zu]) (st' := [.long v.toInt64, .int (nI 0), .ref o]) (h' := h') rfl).trans ?_
    refine (e_lastoreK (k := 0) (N := 1) rfl ko kn ⟨by decide, by decide⟩).trans ?_
    refine (ev_fa 2 (pc' := 18) (ls' := [.ref X, .ref o, zu]) (st' := [.int (nI 0)]) (h' := zwJ h' o 0 v.toInt64) rfl).trans ?_
    exact e_ireti rfl rfl
  · rcases k with _ | k
    · refine ⟨h', ?_, Mw.of M, C, fun q => by cases q⟩
      refine (st.trans (e_H (x := 0) (ent := [.ref X]) (ls2 := [.ref X, .ref o, zu]) rfl rfl rfl (zsC_v rfl rfl rfl hX (Nat.le_of_ble_eq_true rfl)) rfl rfl rfl rfl rfl rfl ee)).trans ?_
      refine (ev_fa 1 (pc' := 13) (ls' := [.ref X, .ref o, zu]) (st' := [.int (nI 1)]) (h' := h') rfl).trans ?_
      exact e_ireti rfl rfl
    · obtain rfl : k = 0 := by omega
      refine ⟨h', ?_, Mw.of M, C, fun q => by cases q⟩
      refine (st.trans (e_H (x := 3) (ent := [.ref X]) (ls2 := [.ref X, .ref o, zu]) rfl rfl rfl (zsC_v rfl rfl rfl hX (Nat.le_of_ble_eq_true rfl)) rfl rfl rfl rfl rfl rfl ee)).trans ?_
      refine (ev_fa 1 (pc' := 16) (ls' := [.ref X, .ref o, zu]) (st' := [.int (nI 2)]) (h' := h') rfl).trans ?_
      exact e_ireti rfl rfl
theorem Wr_318 (hX : zK h X = 10) (hl : o < zT h) (k26 : zK h o = 26) (n1 : zN h o = 1) (hk : k ≤ 1) (C : CA z d h X Lo 104 [.ref X, zu] [0] k v q) : Wq z d h X Lo o 318 [.ref X, .ref o, zu] k v q := by
  obtain ⟨h', ee, M, C⟩ := C
  have ko : zK h' o = 26 := (M.1 o hl).1.trans k26
  have kn : zN h' o = 1 := (M.1 o hl).2.1.trans n1
  have st : ev z d 318 0 [.ref X, .ref o, zu] [] h = ev z d 318 3 [.ref X, .ref o, zu] [.ref X, .int (nI 0), .ref o] h := ev_fa 3 (pc' := 3) (ls' := [.ref X, .ref o, zu]) (st' := [.ref X, .int (nI 0), .ref o]) (h' := h) rfl
  rcases k with _ | k
  · refine ⟨zwJ h' o 0 v.toInt64, ?_, Mw.wJ M, CI.wJ C, fun _ => zJ_wa⟩
    refine (st.trans (e_K (ent := [.ref X, zu]) rfl rfl rfl (zsC_v rfl rfl rfl hX (Nat.le_of_ble_eq_true rfl)) rfl rfl ee)).trans ?_
    refine (ev_fa 1 (pc' := 7) (ls' := [.ref X, .ref o, zu]) (st' := [.long v.toInt64, .int (nI 0), .ref o]) (h' := h') rfl).trans ?_
    refine (e_lastoreK (k := 0) (N := 1) rfl ko kn ⟨by decide, by decide⟩).trans ?_
    refine (ev_fa 2 (pc' := 15) (ls' := [.ref X, .ref o, zu]) (st' := [.int (nI 0)]) (h' := zwJ h' o 0 v.toInt64) rfl).trans ?_
    exact e_ireti rfl rfl
  · obtain rfl : k = 0 := by omega
    refine ⟨h', ?_, Mw.of M, C, fun q => by cases q⟩
    refine (st.trans (e_H (x := 0) (ent := [.ref X, zu]) (ls2 := [.ref X, .ref o, zu]) rfl rfl rfl (zsC_v rfl rfl rfl hX (Nat.le_of_ble_eq_true rfl)) rfl rfl rfl rfl rfl rfl ee)).trans ?_
    refine (ev_fa 1 (pc' := 13) (ls' := [.ref X, .ref o, zu]) (st' := [.int (nI 1)]) (h' := h') rfl).trans ?_
    exact e_ireti rfl rfl
theorem Wr_319 (hX : zK h X = 10) (hl : o < zT h) (k26 : zK h o = 26) (n1 : zN h o = 1) (hk : k ≤ 2) (C : CA z d h X Lo 106 [.ref X, .int a, .int b] [2, 4] k v q) : Wq z d h X Lo o 319 [.ref X, .int a, .int b, .ref o, zu] k v q := by
  obtain ⟨h', ee, M, C⟩ := C
  have ko : zK h' o = 26 := (M.1 o hl).1.trans k26
  have kn : zN h' o = 1 := (M.1 o hl).2.1.trans n1
  have st : ev z d 319 0 [.ref X, .int a, .int b, .ref o, zu] [] h = ev z d 319 5 [.ref X, .int a, .int b, .ref o, zu] [.int b, .int a, .ref X, .int (nI 0), .ref o] h := ev_fa 5 (pc' := 5) (ls' := [.ref X, .int a, .int b, .ref o, zu]) (st' := [.int b, .int a, .ref X, .int (nI 0), .ref o]) (h' := h) rfl
  rcases k with _ | k
  · refine ⟨zwJ h' o 0 v.toInt64, ?_, Mw.wJ M, CI.wJ C, fun _ => zJ_wa⟩
    refine (st.trans (e_K (ent := [.ref X, .int a, .int b]) rfl rfl rfl (zsC_v rfl rfl rfl hX (Nat.le_of_ble_eq_true rfl)) rfl rfl ee)).trans ?_
    refine (ev_fa 1 (pc' := 9) (ls' := [.ref X, .int a, .int b, .ref o, zu]) (st' := [.long v.toInt64, .int (nI 0), .ref o]) (h' := h') rfl).trans ?_
    refine (e_lastoreK (k := 0) (N := 1) rfl ko kn ⟨by decide, by decide⟩).trans ?_
    refine (ev_fa 2 (pc' := 22) (ls' := [.ref X, .int a, .int b, .ref o, zu]) (st' := [.int (nI 0)]) (h' := zwJ h' o 0 v.toInt64) rfl).trans ?_
    exact e_ireti rfl rfl
  · rcases k with _ | k
    · refine ⟨h', ?_, Mw.of M, C, fun q => by cases q⟩
      refine (st.trans (e_H (x := 2) (ent := [.ref X, .int a, .int b]) (ls2 := [.ref X, .int a, .int b, .ref o, zu]) rfl rfl rfl (zsC_v rfl rfl rfl hX (Nat.le_of_ble_eq_true rfl)) rfl rfl rfl rfl rfl rfl ee)).trans ?_
      refine (ev_fa 1 (pc' := 16) (ls' := [.ref X, .int a, .int b, .ref o, zu]) (st' := [.int (nI 1)]) (h' := h') rfl).trans ?_
      exact e_ireti rfl rfl
    · obtain rfl : k = 0 := by omega
      refine ⟨h', ?_, Mw.of M, C, fun q => by cases q⟩
      refine (st.trans (e_H (x := 4) (ent := [.ref X, .int a, .int b]) (ls2 := [.ref X, .int a, .int b, .ref o, zu]) rfl rfl rfl (zsC_v rfl rfl rfl hX (Nat.le_of_ble_eq_true rfl)) rfl rfl rfl rfl rfl rfl ee)).trans ?_
      refine (ev_fa 1 (pc' := 20) (ls' := [.ref X, .int a, .int b, .ref o, zu]) (st' := [.int (nI 2)]) (h' := h') rfl).trans ?_
      exact e_ireti rfl rfl
theorem Wr_320 (hX : zK h X = 10) (hl : o < zT h) (k26 : zK h o = 26) (n1 : zN h o = 1) (hk : k ≤ 2) (C : CA z d h X Lo 107 [.ref X, .int a, .int b] [2, 4] k v q) : Wq z d h X Lo o 320 [.ref X, .int a, .int b, .ref o, zu] k v q := by
  obtain ⟨h', ee, M, C⟩ := C
  have ko : zK h' o = 26 := (M.1 o hl).1.trans k26
  have kn : zN h' o = 1 := (M.1 o hl).2.1.trans n1
  have st : ev z d 320 0 [.ref X, .int a, .int b, .ref o, zu] [] h = ev z d 320 5 [.ref X, .int a, .int b, .ref o, zu] [.int b, .int a, .ref X, .int (nI 0), .ref o] h := ev_fa 5 (pc' := 5) (ls' := [.ref X, .int a, .int b, .ref o, zu]) (st' := [.int b, .int a, .ref X, .int (nI 0), .ref o]) (h' := h) rfl
  rcases k with _ | k
  · refine ⟨zwJ h' o 0 v.toInt64, ?_, Mw.wJ M, CI.wJ C, fun _ => zJ_wa⟩
    refine (st.trans (e_K (ent := [.ref X, .int a, .int b]) rfl rfl rfl (zsC_v rfl rfl rfl hX (Nat.le_of_ble_eq_true rfl)) rfl rfl ee)).trans ?_
    refine (ev_fa 1 (pc' := 9) (ls' := [.ref X, .int a, .int b, .ref o, zu]) (st' := [.long v.toInt64, .int (nI 0), .ref o]) (h' := h') rfl).trans ?_
    refine (e_lastoreK (k := 0) (N := 1) rfl ko kn ⟨by decide, by decide⟩).trans ?_
    refine (ev_fa 2 (pc' := 22) (ls' := [.ref X, .int a, .int b, .ref o, zu]) (st' := [.int (nI 0)]) (h' := zwJ h' o 0 v.toInt64) rfl).trans ?_
    exact e_ireti rfl rfl
  · rcases k with _ | k
    · refine ⟨h', ?_, Mw.of M, C, fun q => by cases q⟩
      refine (st.trans (e_H (x := 2) (ent := [.ref X, .int a, .int b]) (ls2 := [.ref X, .int a, .int b, .ref o, zu]) rfl rfl rfl (zsC_v rfl rfl rfl hX (Nat.le_of_ble_eq_true rfl)) rfl rfl rfl rfl rfl rfl ee)).trans ?_
      refine (ev_fa 1 (pc' := 16) (ls' := [.ref X, .int a, .int b, .ref o, zu]) (st' := [.int (nI 1)]) (h' := h') rfl).trans ?_
      exact e_ireti rfl rfl
    · obtain rfl : k = 0 := by omega
      refine ⟨h', ?_, Mw.of M, C, fun q => by cases q⟩
      refine (st.trans (e_H (x := 4) (ent := [.ref X, .int a, .int b]) (ls2 := [.ref X, .int a, .int b, .ref o, zu]) rfl rfl rfl (zsC_v rfl rfl rfl hX (Nat.le_of_ble_eq_true rfl)) rfl rfl rfl rfl rfl rfl ee)).trans ?_
      refine (ev_fa 1 (pc' := 20) (ls' := [.ref X, .int a, .int b, .ref o, zu]) (st' := [.int (nI 2)]) (h' := h') rfl).trans ?_
      exact e_ireti rfl rfl
theorem Wr_321 (hX : zK h X = 10) (hl : o < zT h) (k26 : zK h o = 26) (n1 : zN h o = 1) (hk : k ≤ 2) (C : CA z d h X Lo 108 [.ref X, .int a, .int b] [2, 4] k v q) : Wq z d h X Lo o 321 [.ref X, .int a, .int b, .ref o, zu] k v q := by
  obtain ⟨h', ee, M, C⟩ := C
  have ko : zK h' o = 26 := (M.1 o hl).1.trans k26
  have kn : zN h' o = 1 := (M.1 o hl).2.1.trans n1
  have st : ev z d 321 0 [.ref X, .int a, .int b, .ref o, zu] [] h = ev z d 321 5 [.ref X, .int a, .int b, .ref o, zu] [.int b, .int a, .ref X, .int (nI 0), .ref o] h := ev_fa 5 (pc' := 5) (ls' := [.ref X, .int a, .int b, .ref o, zu]) (st' := [.int b, .int a, .ref X, .int (nI 0), .ref o]) (h' := h) rfl
  rcases k with _ | k
  · refine ⟨zwJ h' o 0 v.toInt64, ?_, Mw.wJ M, CI.wJ C, fun _ => zJ_wa⟩
    refine (st.trans (e_K (ent := [.ref X, .int a, .int b]) rfl rfl rfl (zsC_v rfl rfl rfl hX (Nat.le_of_ble_eq_true rfl)) rfl rfl ee)).trans ?_
    refine (ev_fa 1 (pc' := 9) (ls' := [.ref X, .int a, .int b, .ref o, zu]) (st' := [.long v.toInt64, .int (nI 0), .ref o]) (h' := h') rfl).trans ?_
    refine (e_lastoreK (k := 0) (N := 1) rfl ko kn ⟨by decide, by decide⟩).trans ?_
    refine (ev_fa 2 (pc' := 22) (ls' := [.ref X, .int a, .int b, .ref o, zu]) (st' := [.int (nI 0)]) (h' := zwJ h' o 0 v.toInt64) rfl).trans ?_
    exact e_ireti rfl rfl
  · rcases k with _ | k
    · refine ⟨h', ?_, Mw.of M, C, fun q => by cases q⟩
      refine (st.trans (e_H (x := 2) (ent := [.ref X, .int a, .int b]) (ls2 := [.ref X, .int a, .int b, .ref o, zu]) rfl rfl rfl (zsC_v rfl rfl rfl hX (Nat.le_of_ble_eq_true rfl)) rfl rfl rfl rfl rfl rfl ee)).trans ?_
      refine (ev_fa 1 (pc' := 16) (ls' := [.ref X, .int a, .int b, .ref o, zu]) (st' := [.int (nI 1)]) (h' := h') rfl).trans ?_
      exact e_ireti rfl rfl
    · obtain rfl : k = 0 := by omega
      refine ⟨h', ?_, Mw.of M, C, fun q => by cases q⟩
      refine (st.trans (e_H (x := 4) (ent := [.ref X, .int a, .int b]) (ls2 := [.ref X, .int a, .int b, .ref o, zu]) rfl rfl rfl (zsC_v rfl rfl rfl hX (Nat.le_of_ble_eq_true rfl)) rfl rfl rfl rfl rfl rfl ee)).trans ?_
      refine (ev_fa 1 (pc' := 20) (ls' := [.ref X, .int a, .int b, .ref o, zu]) (st' := [.int (nI 2)]) (h' := h') rfl).trans ?_
      exact e_ireti rfl rfl
theorem Wr_322 (hX : zK h X = 10) (hl : o < zT h) (k26 : zK h o = 26) (n1 : zN h o = 1) (hk : k ≤ 1) (C : CA z d h X Lo 109 [.ref X, .int a, zu, zu] [0] k v q) : Wq z d h X Lo o 322 [.ref X, .int a, .ref o, zu] k v q := by
  obtain ⟨h', ee, M, C⟩ := C
  have ko : zK h' o = 26 := (M.1 o hl).1.trans k26
  have kn : zN h' o = 1 := (M.1 o hl).2.1.trans n1
  have st : ev z d 322 0 [.ref X, .int a, .ref o, zu] [] h = ev z d 322 4 [.ref X, .int a, .ref o, zu] [.int a, .ref X, .int (nI 0), .ref o] h := ev_fa 4 (pc' := 4) (ls' := [.ref X, .int a, .ref o, zu]) (st' := [.int a, .ref X, .int (nI 0), .ref o]) (h' := h) rfl
  rcases k with _ | k
  · refine ⟨zwJ h' o 0 v.toInt64, ?_, Mw.wJ M, CI.wJ C, fun _ => zJ_wa⟩
    refine (st.trans (e_K (ent := [.ref X, .int a, zu, zu]) rfl rfl rfl (zsC_v rfl rfl rfl hX (Nat.le_of_ble_eq_true rfl)) rfl rfl ee)).trans ?_
    refine (ev_fa 1 (pc' := 8) (ls' := [.ref X, .int a, .ref o, zu]) (st' := [.long v.toInt64, .int (nI 0), .ref o]) (h' := h') rfl).trans ?_
    refine (e_lastoreK (k := 0) (N := 1) rfl ko kn ⟨by decide, by decide⟩).trans ?_
    refine (ev_fa 2 (pc' := 16) (ls' := [.ref X, .int a, .ref o, zu]) (st' := [.int (nI 0)]) (h' := zwJ h' o 0 v.toInt64) rfl).trans ?_
    exact e_ireti rfl rfl
  · obtain rfl : k = 0 := by omega
    refine ⟨h', ?_, Mw.of M, C, fun q => by cases q⟩
    refine (st.trans (e_H (x := 0) (ent := [.ref X, .int a, zu, zu]) (ls2 := [.ref X, .int a, .ref o, zu]) rfl rfl rfl (zsC_v rfl rfl rfl hX (Nat.le_of_ble_eq_true rfl)) rfl rfl rfl rfl rfl rfl ee)).trans ?_
    refine (ev_fa 1 (pc' := 14) (ls' := [.ref X, .int a, .ref o, zu]) (st' := [.int (nI 1)]) (h' := h') rfl).trans ?_
    exact e_ireti rfl rfl
theorem Wr_323 (hX : zK h X = 10) (hl : o < zT h) (k26 : zK h o = 26) (n1 : zN h o = 1) (hk : k ≤ 3) (C : CA z d h X Lo 110 [.ref X, .int a, .int b, .int c, .int e, .int f, zu] [2, 0, 1] k v q) : Wq z d h X Lo o 323 [.ref X, .int a, .int b, .int c, .int e, .int f, .ref o, zu] k v q := by
  obtain ⟨h', ee, M, C⟩ := C
  have ko : zK h' o = 26 := (M.1 o hl).1.trans k26
  have kn : zN h' o = 1 := (M.1 o hl).2.1.trans n1
  have st : ev z d 323 0 [.ref X, .int a, .int b, .int c, .int e, .int f, .ref o, zu] [] h = ev z d 323 11 [.ref X, .int a, .int b, .int c, .int e, .int f, .ref o, zu] [.int f, .int e, .int c, .int b, .int a, .ref X, .int (nI 0), .ref o] h := ev_fa 8 (pc' := 11) (ls' := [.ref X, .int a, .int b, .int c, .int e, .int f, .ref o, zu]) (st' := [.int f, .int e, .int c, .int b, .int a, .ref X, .int (nI 0), .ref o]) (h' := h) rfl
  rcases k with _ | k
  · refine ⟨zwJ h' o 0 v.toInt64, ?_, Mw.wJ M, CI.wJ C, fun _ => zJ_wa⟩
    refine (st.trans (e_K (ent := [.ref X, .int a, .int b, .int c, .int e, .int f, zu]) rfl rfl rfl (zsC_v rfl rfl rfl hX (Nat.le_of_ble_eq_true rfl)) rfl rfl ee)).trans ?_
    refine (ev_fa 1 (pc' := 15) (ls' := [.ref X, .int a, .int b, .int c, .int e, .int f, .ref o, zu]) (st' := [.long v.toInt64, .int (nI 0), .ref o]) (h' := h') rfl).trans ?_
    refine (e_lastoreK (k := 0) (N := 1) rfl ko kn ⟨by decide, by decide⟩).trans ?_
    refine (ev_fa 2 (pc' := 32) (ls' := [.ref X, .int a, .int b, .int c, .int e, .int f, .ref o, zu]) (st' := [.int (nI 0)]) (h' := zwJ h' o 0 v.toInt64) rfl).trans ?_
    exact e_ireti rfl rfl
  · rcases k with _ | k
    · refine ⟨h', ?_, Mw.of M, C, fun q => by cases q⟩
      refine (st.trans (e_H (x := 2) (ent := [.ref X, .int a, .int b, .int c, .int e, .int f, zu]) (ls2 := [.ref X, .int a, .int b, .int c, .int e, .int f, .ref o, zu]) rfl rfl rfl (zsC_v rfl rfl rfl hX (Nat.le_of_ble_eq_true rfl)) rfl rfl rfl rfl rfl rfl ee)).trans ?_
      refine (ev_fa 1 (pc' := 22) (ls' := [.ref X, .int a, .int b, .int c, .int e, .int f, .ref o, zu]) (st' := [.int (nI 1)]) (h' := h') rfl).trans ?_
      exact e_ireti rfl rfl
    · rcases k with _ | k
      · refine ⟨h', ?_, Mw.of M, C, fun q => by cases q⟩
        refine (st.trans (e_H (x := 0) (ent := [.ref X, .int a, .int b, .int c, .int e, .int f, zu]) (ls2 := [.ref X, .int a, .int b, .int c, .int e, .int f, .ref o, zu]) rfl rfl rfl (zsC_v rfl rfl rfl hX (Nat.le_of_ble_eq_true rfl)) rfl rfl rfl rfl rfl rfl ee)).trans ?_
        refine (ev_fa 1 (pc' := 26) (ls' := [.ref X, .int a, .int b, .int c, .int e, .int f, .ref o, zu]) (st' := [.int (nI 2)]) (h' := h') rfl).trans ?_
        exact e_ireti rfl rfl
      · obtain rfl : k = 0 := by omega
        refine ⟨h', ?_, Mw.of M, C, fun q => by cases q⟩
        refine (st.trans (e_H (x := 1) (ent := [.ref X, .int a, .int b, .int c, .int e, .int f, zu]) (ls2 := [.ref X, .int a, .int b, .int c, .int e, .int f, .ref o, zu]) rfl rfl rfl (zsC_v rfl rfl rfl hX (Nat.le_of_ble_eq_true rfl)) rfl rfl rfl rfl rfl rfl ee)).trans ?_
        refine (ev_fa 1 (pc' := 30) (ls' := [.ref X, .int a, .int b, .int c, .int e, .int f, .ref o, zu]) (st' := [.int (nI 3)]) (h' := h') rfl).trans ?_
        exact e_ireti rfl rfl
theorem Wr_324 (hX : zK h X = 10) (hl : o < zT h) (k26 : zK h o = 26) (n1 : zN h o = 1) (hk : k ≤ 2) (C : CA z d h X Lo 111 [.ref X, .int a, .int b, zu] [2, 1] k v q) : Wq z d h X Lo o 324 [.ref X, .int a, .int b, .ref o, zu] k v q := by
  obtain ⟨h', ee, M, C⟩ := C
  have ko : zK h' o = 26 := (M.1 o hl).1.trans k26
  have kn : zN h' o = 1 := (M.1 o hl).2.1.trans n1
  have st : ev z d 324 0 [.ref X, .int a, .int b, .ref o, zu] [] h = ev z d 324 5 [.ref X, .int a, .int b, .ref o, zu] [.int b, .int a, .ref X, .int (nI 0), .ref o] h := ev_fa 5 (pc' := 5) (ls' := [.ref X, .int a, .int b, .ref o, zu]) (st' := [.int b, .int a, .ref X, .int (nI 0), .ref o]) (h' := h) rfl
  rcases k with _ | k
  · refine ⟨zwJ h' o 0 v.toInt64, ?_, Mw.wJ M, CI.wJ C, fun _ => zJ_wa⟩
    refine (st.trans (e_K (ent := [.ref X, .int a, .int b, zu]) rfl rfl rfl (zsC_v rfl rfl rfl hX (Nat.le_of_ble_eq_true rfl)) rfl rfl ee)).trans ?_
    refine (ev_fa 1 (pc' := 9) (ls' := [.ref X, .int a, .int b, .ref o, zu]) (st' := [.long v.toInt64, .int (nI 0), .ref o]) (h' := h') rfl).trans ?_
    refine (e_lastoreK (k := 0) (N := 1) rfl ko kn ⟨by decide, by decide⟩).trans ?_
    refine (ev_fa 2 (pc' := 22) (ls' := [.ref X, .int a, .int b, .ref o, zu]) (st' := [.int (nI 0)]) (h' := zwJ h' o 0 v.toInt64) rfl).trans ?_
    exact e_ireti rfl rfl
  · rcases k with _ | k
    · refine ⟨h', ?_, Mw.of M, C, fun q => by cases q⟩
      refine (st.trans (e_H (x := 2) (ent := [.ref X, .int a, .int b, zu]) (ls2 := [.ref X, .int a, .int b, .ref o, zu]) rfl rfl rfl (zsC_v rfl rfl rfl hX (Nat.le_of_ble_eq_true rfl)) rfl rfl rfl rfl rfl rfl ee)).trans ?_
      refine (ev_fa 1 (pc' := 16) (ls' := [.ref X, .int a, .int b, .ref o, zu]) (st' := [.int (nI 1)]) (h' := h') rfl).trans ?_
      exact e_ireti rfl rfl
    · obtain rfl : k = 0 := by omega
      refine ⟨h', ?_, Mw.of M, C, fun q => by cases q⟩
      refine (st.trans (e_H (x := 1) (ent := [.ref X, .int a, .int b, zu]) (ls2 := [.ref X, .int a, .int b, .ref o, zu]) rfl rfl rfl (zsC_v rfl rfl rfl hX (Nat.le_of_ble_eq_true rfl)) rfl rfl rfl rfl rfl rfl ee)).trans ?_
      refine (ev_fa 1 (pc' := 20) (ls' := [.ref X, .int a, .int b, .ref o, zu]) (st' := [.int (nI 2)]) (h' := h') rfl).trans ?_
      exact e_ireti rfl rfl
theorem Wr_325 (hX : zK h X = 10) (hl : o < zT h) (k26 : zK h o = 26) (n1 : zN h o = 1) (hk : k ≤ 2) (C : CA z d h X Lo 112 [.ref X, .int a, zu] [2, 1] k v q) : Wq z d h X Lo o 325 [.ref X, .int a, .ref o, zu] k v q := by
  obtain ⟨h', ee, M, C⟩ := C
  have ko : zK h' o = 26 := (M.1 o hl).1.trans k26
  have kn : zN h' o = 1 := (M.1 o hl).2.1.trans n1
  have st : ev z d 325 0 [.ref X, .int a, .ref o, zu] [] h = ev z d 325 4 [.ref X, .int a, .ref o, zu] [.int a, .ref X, .int (nI 0), .ref o] h := ev_fa 4 (pc' := 4) (ls' := [.ref X, .int a, .ref o, zu]) (st' := [.int a, .ref X, .int (nI 0), .ref o]) (h' := h) rfl
  rcases k with _ | k
  · refine ⟨zwJ h' o 0 v.toInt64, ?_, Mw.wJ M, CI.wJ C, fun _ => zJ_wa⟩
    refine (st.trans (e_K (ent := [.ref X, .int a, zu]) rfl rfl rfl (zsC_v rfl rfl rfl hX (Nat.le_of_ble_eq_true rfl)) rfl rfl ee)).trans ?_
    refine (ev_fa 1 (pc' := 8) (ls' := [.ref X, .int a, .ref o, zu]) (st' := [.long v.toInt64, .int (nI 0), .ref o]) (h' := h') rfl).trans ?_
    refine (e_lastoreK (k := 0) (N := 1) rfl ko kn ⟨by decide, by decide⟩).trans ?_
    refine (ev_fa 2 (pc' := 19) (ls' := [.ref X, .int a, .ref o, zu]) (st' := [.int (nI 0)]) (h' := zwJ h' o 0 v.toInt64) rfl).trans ?_
    exact e_ireti rfl rfl
  · rcases k with _ | k
    · refine ⟨h', ?_, Mw.of M, C, fun q => by cases q⟩
      refine (st.trans (e_H (x := 2) (ent := [.ref X, .int a, zu]) (ls2 := [.ref X, .int a, .ref o, zu]) rfl rfl rfl (zsC_v rfl rfl rfl hX (Nat.le_of_ble_eq_true rfl)) rfl rfl rfl rfl rfl rfl ee)).trans ?_
      refine (ev_fa 1 (pc' := 14) (ls' := [.ref X, .int a, .ref o, zu]) (st' := [.int (nI 1)]) (h' := h') rfl).trans ?_
      exact e_ireti rfl rfl
    · obtain rfl : k = 0 := by omega
      refine ⟨h', ?_, Mw.of M, C, fun q => by cases q⟩
      refine (st.trans (e_H (x := 1) (ent := [.ref X, .int a, zu]) (ls2 := [.ref X, .int a, .ref o, zu]) rfl rfl rfl (zsC_v rfl rfl rfl hX (Nat.le_of_ble_eq_true rfl)) rfl rfl rfl rfl rfl rfl ee)).trans ?_
      refine (ev_fa 1 (pc' := 17) (ls' := [.ref X, .int a, .ref o, zu]) (st' := [.int (nI 2)]) (h' := h') rfl).trans ?_
      exact e_ireti rfl rfl
theorem Wr_326 (hX : zK h X = 10) (hl : o < zT h) (k26 : zK h o = 26) (n1 : zN h o = 1) (hk : k ≤ 3) (C : CA z d h X Lo 113 [.ref X, .int a, .int b, .int c] [2, 0, 1] k v q) : Wq z d h X Lo o 326 [.ref X, .int a, .int b, .int c, .ref o, zu] k v q := by
  obtain ⟨h', ee, M, C⟩ := C
  have ko : zK h' o = 26 := (M.1 o hl).1.trans k26
  have kn : zN h' o = 1 := (M.1 o hl).2.1.trans n1
  have st : ev z d 326 0 [.ref X, .int a, .int b, .int c, .ref o, zu] [] h = ev z d 326 7 [.ref X, .int a, .int b, .int c, .ref o, zu] [.int c, .int b, .int a, .ref X, .int (nI 0), .ref o] h := ev_fa 6 (pc' := 7) (ls' := [.ref X, .int a, .int b, .int c, .ref o, zu]) (st' := [.int c, .int b, .int a, .ref X, .int (nI 0), .ref o]) (h' := h) rfl
  rcases k with _ | k
  · refine ⟨zwJ h' o 0 v.toInt64, ?_, Mw.wJ M, CI.wJ C, fun _ => zJ_wa⟩
    refine (st.trans (e_K (ent := [.ref X, .int a, .int b, .int c]) rfl rfl rfl (zsC_v rfl rfl rfl hX (Nat.le_of_ble_eq_true rfl)) rfl rfl ee)).trans ?_
    refine (ev_fa 1 (pc' := 11) (ls' := [.ref X, .int a, .int b, .int c, .ref o, zu]) (st' := [.long v.toInt64, .int (nI 0), .ref o]) (h' := h') rfl).trans ?_
    refine (e_lastoreK (k := 0) (N := 1) rfl ko kn ⟨by decide, by decide⟩).trans ?_
    refine (ev_fa 2 (pc' := 28) (ls' := [.ref X, .int a, .int b, .int c, .ref o, zu]) (st' := [.int (nI 0)]) (h' := zwJ h' o 0 v.toInt64) rfl).trans ?_
    exact e_ireti rfl rfl
  · rcases k with _ | k
    · refine ⟨h', ?_, Mw.of M, C, fun q => by cases q⟩
      refine (st.trans (e_H (x := 2) (ent := [.ref X, .int a, .int b, .int c]) (ls2 := [.ref X, .int a, .int b, .int c, .ref o, zu]) rfl rfl rfl (zsC_v rfl rfl rfl hX (Nat.le_of_ble_eq_true rfl)) rfl rfl rfl rfl rfl rfl ee)).trans ?_
      refine (ev_fa 1 (pc' := 18) (ls' := [.ref X, .int a, .int b, .int c, .ref o, zu]) (st' := [.int (nI 1)]) (h' := h') rfl).trans ?_
      exact e_ireti rfl rfl
    · rcases k with _ | k
      · refine ⟨h', ?_, Mw.of M, C, fun q => by cases q⟩
        refine (st.trans (e_H (x := 0) (ent := [.ref X, .int a, .int b, .int c]) (ls2 := [.ref X, .int a, .int b, .int c, .ref o, zu]) rfl rfl rfl (zsC_v rfl rfl rfl hX (Nat.le_of_ble_eq_true rfl)) rfl rfl rfl rfl rfl rfl ee)).trans ?_
        refine (ev_fa 1 (pc' := 22) (ls' := [.ref X, .int a, .int b, .int c, .ref o, zu]) (st' := [.int (nI 2)]) (h' := h') rfl).trans ?_
        exact e_ireti rfl rfl
      · obtain rfl : k = 0 := by omega
        refine ⟨h', ?_, Mw.of M, C, fun q => by cases q⟩
        refine (st.trans (e_H (x := 1) (ent := [.ref X, .int a, .int b, .int c]) (ls2 := [.ref X, .int a, .int b, .int c, .ref o, zu]) rfl rfl rfl (zsC_v rfl rfl rfl hX (Nat.le_of_ble_eq_true rfl)) rfl rfl rfl rfl rfl rfl ee)).trans ?_
        refine (ev_fa 1 (pc' := 26) (ls' := [.ref X, .int a, .int b, .int c, .ref o, zu]) (st' := [.int (nI 3)]) (h' := h') rfl).trans ?_
        exact e_ireti rfl rfl
theorem Wr_327 (hX : zK h X = 10) (hl : o < zT h) (k26 : zK h o = 26) (n1 : zN h o = 1) (hk : k ≤ 1) (C : CA z d h X Lo 114 [.ref X, .int a, zu] [0] k v q) : Wq z d h X Lo o 327 [.ref X, .int a, .ref o, zu] k v q := by
  obtain ⟨h', ee, M, C⟩ := C
  have ko : zK h' o = 26 := (M.1 o hl).1.trans k26
  have kn : zN h' o = 1 := (M.1 o hl).2.1.trans n1
  have st : ev z d 327 0 [.ref X, .int a, .ref o, zu] [] h = ev z d 327 4 [.ref X, .int a, .ref o, zu] [.int a, .ref X, .int (nI 0), .ref o] h := ev_fa 4 (pc' := 4) (ls' := [.ref X, .int a, .ref o, zu]) (st' := [.int a, .ref X, .int (nI 0), .ref o]) (h' := h) rfl
  rcases k with _ | k
  · refine ⟨zwJ h' o 0 v.toInt64, ?_, Mw.wJ M, CI.wJ C, fun _ => zJ_wa⟩
    refine (st.trans (e_K (ent := [.ref X, .int a, zu]) rfl rfl rfl (zsC_v rfl rfl rfl hX (Nat.le_of_ble_eq_true rfl)) rfl rfl ee)).trans ?_
    refine (ev_fa 1 (pc' := 8) (ls' := [.ref X, .int a, .ref o, zu]) (st' := [.long v.toInt64, .int (nI 0), .ref o]) (h' := h') rfl).trans ?_
    refine (e_lastoreK (k := 0) (N := 1) rfl ko kn ⟨by decide, by decide⟩).trans ?_
    refine (ev_fa 2 (pc' := 16) (ls' := [.ref X, .int a, .ref o, zu]) (st' := [.int (nI 0)]) (h' := zwJ h' o 0 v.toInt64) rfl).trans ?_
    exact e_ireti rfl rfl
  · obtain rfl : k = 0 := by omega
    refine ⟨h', ?_, Mw.of M, C, fun q => by cases q⟩
    refine (st.trans (e_H (x := 0) (ent := [.ref X, .int a, zu]) (ls2 := [.ref X, .int a, .ref o, zu]) rfl rfl rfl (zsC_v rfl rfl rfl hX (Nat.le_of_ble_eq_true rfl)) rfl rfl rfl rfl rfl rfl ee)).trans ?_
    refine (ev_fa 1 (pc' := 14) (ls' := [.ref X, .int a, .ref o, zu]) (st' := [.int (nI 1)]) (h' := h') rfl).trans ?_
    exact e_ireti rfl rfl
theorem Wr_328 (hX : zK h X = 10) (hl : o < zT h) (k26 : zK h o = 26) (n1 : zN h o = 1) (hk : k ≤ 2) (C : CA z d h X Lo 115 [.ref X, .int a, .int b, zu] [2, 0] k v q) : Wq z d h X Lo o 328 [.ref X, .int a, .int b, .ref o, zu] k v q := by
  obtain ⟨h', ee, M, C⟩ := C
  have ko : zK h' o = 26 := (M.1 o hl).1.trans k26
  have kn : zN h' o = 1 := (M.1 o hl).2.1.trans n1
  have st : ev z d 328 0 [.ref X, .int a, .int b, .ref o, zu] [] h = ev z d 328 5 [.ref X, .int a, .int b, .ref o, zu] [.int b, .int a, .ref X, .int (nI 0), .ref o] h := ev_fa 5 (pc' := 5) (ls' := [.ref X, .int a, .int b, .ref o, zu]) (st' := [.int b, .int a, .ref X, .int (nI 0), .ref o]) (h' := h) rfl
  rcases k with _ | k
  · refine ⟨zwJ h' o 0 v.toInt64, ?_, Mw.wJ M, CI.wJ C, fun _ => zJ_wa⟩
    refine (st.trans (e_K (ent := [.ref X, .int a, .int b, zu]) rfl rfl rfl (zsC_v rfl rfl rfl hX (Nat.le_of_ble_eq_true rfl)) rfl rfl ee)).trans ?_
    refine (ev_fa 1 (pc' := 9) (ls' := [.ref X, .int a, .int b, .ref o, zu]) (st' := [.long v.toInt64, .int (nI 0), .ref o]) (h' := h') rfl).trans ?_
    refine (e_lastoreK (k := 0) (N := 1) rfl ko kn ⟨by decide, by decide⟩).trans ?_
    refine (ev_fa 2 (pc' := 22) (ls' := [.ref X, .int a, .int b, .ref o, zu]) (st' := [.int (nI 0)]) (h' := zwJ h' o 0 v.toInt64) rfl).trans ?_
    exact e_ireti rfl rfl
  · rcases k with _ | k
    · refine ⟨h', ?_, Mw.of M, C, fun q => by cases q⟩
      refine (st.trans (e_H (x := 2) (ent := [.ref X, .int a, .int b, zu]) (ls2 := [.ref X, .int a, .int b, .ref o, zu]) rfl rfl rfl (zsC_v rfl rfl rfl hX (Nat.le_of_ble_eq_true rfl)) rfl rfl rfl rfl rfl rfl ee)).trans ?_
      refine (ev_fa 1 (pc' := 16) (ls' := [.ref X, .int a, .int b, .ref o, zu]) (st' := [.int (nI 1)]) (h' := h') rfl).trans ?_
      exact e_ireti rfl rfl
    · obtain rfl : k = 0 := by omega
      refine ⟨h', ?_, Mw.of M, C, fun q => by cases q⟩
      refine (st.trans (e_H (x := 0) (ent := [.ref X, .int a, .int b, zu]) (ls2 := [.ref X, .int a, .int b, .ref o, zu]) rfl rfl rfl (zsC_v rfl rfl rfl hX (Nat.le_of_ble_eq_true rfl)) rfl rfl rfl rfl rfl rfl ee)).trans ?_
      refine (ev_fa 1 (pc' := 20) (ls' := [.ref X, .int a, .int b, .ref o, zu]) (st' := [.int (nI 2)]) (h' := h') rfl).trans ?_
      exact e_ireti rfl rfl
theorem Wr_329 (hX : zK h X = 10) (hl : o < zT h) (k26 : zK h o = 26) (n1 : zN h o = 1) (hk : k ≤ 1) (C : CA z d h X Lo 119 [.ref X, .int a] [2] k v q) : Wq z d h X Lo o 329 [.ref X, .int a, .ref o, zu] k v q := by
  obtain ⟨h', ee, M, C⟩ := C
  have ko : zK h' o = 26 := (M.1 o hl).1.trans k26
  have kn : zN h' o = 1 := (M.1 o hl).2.1.trans n1
  have st : ev z d 329 0 [.ref X, .int a, .ref o, zu] [] h = ev z d 329 4 [.ref X, .int a, .ref o, zu] [.int a, .ref X, .int (nI 0), .ref o] h := ev_fa 4 (pc' := 4) (ls' := [.ref X, .int a, .ref o, zu]) (st' := [.int a, .ref X, .int (nI 0), .ref o]) (h' := h) rfl
  rcases k with _ | k
  · refine ⟨zwJ h' o 0 v.toInt64, ?_, Mw.wJ M, CI.wJ C, fun _ => zJ_wa⟩
    refine (st.trans (e_K (ent := [.ref X, .int a]) rfl rfl rfl (zsC_v rfl rfl rfl hX (Nat.le_of_ble_eq_true rfl)) rfl rfl ee)).trans ?_
    refine (ev_fa 1 (pc' := 8) (ls' := [.ref X, .int a, .ref o, zu]) (st' := [.long v.toInt64, .int (nI 0), .ref o]) (h' := h') rfl).trans ?_
    refine (e_lastoreK (k := 0) (N := 1) rfl ko kn ⟨by decide, by decide⟩).trans ?_
    refine (ev_fa 2 (pc' := 16) (ls' := [.ref X, .int a, .ref o, zu]) (st' := [.int (nI 0)]) (h' := zwJ h' o 0 v.toInt64) rfl).trans ?_
    exact e_ireti rfl rfl
  · obtain rfl : k = 0 := by omega
    refine ⟨h', ?_, Mw.of M, C, fun q => by cases q⟩
    refine (st.trans (e_H (x := 2) (ent := [.ref X, .int a]) (ls2 := [.ref X, .int a, .ref o, zu]) rfl rfl rfl (zsC_v rfl rfl rfl hX (Nat.le_of_ble_eq_true rfl)) rfl rfl rfl rfl rfl rfl ee)).trans ?_
    refine (ev_fa 1 (pc' := 14) (ls' := [.ref X, .int a, .ref o, zu]) (st' := [.int (nI 1)]) (h' := h') rfl).trans ?_
    exact e_ireti rfl rfl
theorem Wr_330 (hX : zK h X = 10) (hl : o < zT h) (k26 : zK h o = 26) (n1 : zN h o = 1) (hk : k ≤ 1) (C : CA z d h X Lo 120 [.ref X, .int a, zu] [2] k v q) : Wq z d h X Lo o 330 [.ref X, .int a, .ref o, zu] k v q := by
  obtain ⟨h', ee, M, C⟩ := C
  have ko : zK h' o = 26 := (M.1 o hl).1.trans k26
  have kn : zN h' o = 1 := (M.1 o hl).2.1.trans n1
  have st : ev z d 330 0 [.ref X, .int a, .ref o, zu] [] h = ev z d 330 4 [.ref X, .int a, .ref o, zu] [.int a, .ref X, .int (nI 0), .ref o] h := ev_fa 4 (pc' := 4) (ls' := [.ref X, .int a, .ref o, zu]) (st' := [.int a, .ref X, .int (nI 0), .ref o]) (h' := h) rfl
  rcases k with _ | k
  · refine ⟨zwJ h' o 0 v.toInt64, ?_, Mw.wJ M, CI.wJ C, fun _ => zJ_wa⟩
    refine (st.trans (e_K (ent := [.ref X, .int a, zu]) rfl rfl rfl (zsC_v rfl rfl rfl hX (Nat.le_of_ble_eq_true rfl)) rfl rfl ee)).trans ?_
    refine (ev_fa 1 (pc' := 8) (ls' := [.ref X, .int a, .ref o, zu]) (st' := [.long v.toInt64, .int (nI 0), .ref o]) (h' := h') rfl).trans ?_
    refine (e_lastoreK (k := 0) (N := 1) rfl ko kn ⟨by decide, by decide⟩).trans ?_
    refine (ev_fa 2 (pc' := 16) (ls' := [.ref X, .int a, .ref o, zu]) (st' := [.int (nI 0)]) (h' := zwJ h' o 0 v.toInt64) rfl).trans ?_
    exact e_ireti rfl rfl
  · obtain rfl : k = 0 := by omega
    refine ⟨h', ?_, Mw.of M, C, fun q => by cases q⟩
    refine (st.trans (e_H (x := 2) (ent := [.ref X, .int a, zu]) (ls2 := [.ref X, .int a, .ref o, zu]) rfl rfl rfl (zsC_v rfl rfl rfl hX (Nat.le_of_ble_eq_true rfl)) rfl rfl rfl rfl rfl rfl ee)).trans ?_
    refine (ev_fa 1 (pc' := 14) (ls' := [.ref X, .int a, .ref o, zu]) (st' := [.int (nI 1)]) (h' := h') rfl).trans ?_
    exact e_ireti rfl rfl
theorem Wr_331 (hX : zK h X = 10) (hl : o < zT h) (k26 : zK h o = 26) (n1 : zN h o = 1) (hk : k ≤ 2) (C : CA z d h X Lo 122 [.ref X, .int a, .int b] [2, 0] k v q) : Wq z d h X Lo o 331 [.ref X, .int a, .int b, .ref o, zu] k v q := by
  obtain ⟨h', ee, M, C⟩ := C
  have ko : zK h' o = 26 := (M.1 o hl).1.trans k26
  have kn : zN h' o = 1 := (M.1 o hl).2.1.trans n1
  have st : ev z d 331 0 [.ref X, .int a, .int b, .ref o, zu] [] h = ev z d 331 5 [.ref X, .int a, .int b, .ref o, zu] [.int b, .int a, .ref X, .int (nI 0), .ref o] h := ev_fa 5 (pc' := 5) (ls' := [.ref X, .int a, .int b, .ref o, zu]) (st' := [.int b, .int a, .ref X, .int (nI 0), .ref o]) (h' := h) rfl
  rcases k with _ | k
  · refine ⟨zwJ h' o 0 v.toInt64, ?_, Mw.wJ M, CI.wJ C, fun _ => zJ_wa⟩
    refine (st.trans (e_K (ent := [.ref X, .int a, .int b]) rfl rfl rfl (zsC_v rfl rfl rfl hX (Nat.le_of_ble_eq_true rfl)) rfl rfl ee)).trans ?_
    refine (ev_fa 1 (pc' := 9) (ls' := [.ref X, .int a, .int b, .ref o, zu]) (st' := [.long v.toInt64, .int (nI 0), .ref o]) (h' := h') rfl).trans ?_
    refine (e_lastoreK (k := 0) (N := 1) rfl ko kn ⟨by decide, by decide⟩).trans ?_
    refine (ev_fa 2 (pc' := 22) (ls' := [.ref X, .int a, .int b, .ref o, zu]) (st' := [.int (nI 0)]) (h' := zwJ h' o 0 v.toInt64) rfl).trans ?_
    exact e_ireti rfl rfl
  · rcases k with _ | k
    · refine ⟨h', ?_, Mw.of M, C, fun q => by cases q⟩
      refine (st.trans (e_H (x := 2) (ent := [.ref X, .int a, .int b]) (ls2 := [.ref X, .int a, .int b, .ref o, zu]) rfl rfl rfl (zsC_v rfl rfl rfl hX (Nat.le_of_ble_eq_true rfl)) rfl rfl rfl rfl rfl rfl ee)).trans ?_
      refine (ev_fa 1 (pc' := 16) (ls' := [.ref X, .int a, .int b, .ref o, zu]) (st' := [.int (nI 1)]) (h' := h') rfl).trans ?_
      exact e_ireti rfl rfl
    · obtain rfl : k = 0 := by omega
      refine ⟨h', ?_, Mw.of M, C, fun q => by cases q⟩
      refine (st.trans (e_H (x := 0) (ent := [.ref X, .int a, .int b]) (ls2 := [.ref X, .int a, .int b, .ref o, zu]) rfl rfl rfl (zsC_v rfl rfl rfl hX (Nat.le_of_ble_eq_true rfl)) rfl rfl rfl rfl rfl rfl ee)).trans ?_
      refine (ev_fa 1 (pc' := 20) (ls' := [.ref X, .int a, .int b, .ref o, zu]) (st' := [.int (nI 2)]) (h' := h') rfl).trans ?_
      exact e_ireti rfl rfl
theorem Wr_332 (hX : zK h X = 10) (hl : o < zT h) (k26 : zK h o = 26) (n1 : zN h o = 1) (hk : k ≤ 1) (C : CA z d h X Lo 123 [.ref X, .int a] [2] k v q) : Wq z d h X Lo o 332 [.ref X, .int a, .ref o, zu] k v q := by
  obtain ⟨h', ee, M, C⟩ := C
  have ko : zK h' o = 26 := (M.1 o hl).1.trans k26
  have kn : zN h' o = 1 := (M.1 o hl).2.1.trans n1
  have st : ev z d 332 0 [.ref X, .int a, .ref o, zu] [] h = ev z d 332 4 [.ref X, .int a, .ref o, zu] [.int a, .ref X, .int (nI 0), .ref o] h := ev_fa 4 (pc' := 4) (ls' := [.ref X, .int a, .ref o, zu]) (st' := [.int a, .ref X, .int (nI 0), .ref o]) (h' := h) rfl
  rcases k with _ | k
  · refine ⟨zwJ h' o 0 v.toInt64, ?_, Mw.wJ M, CI.wJ C, fun _ => zJ_wa⟩
    refine (st.trans (e_K (ent := [.ref X, .int a]) rfl rfl rfl (zsC_v rfl rfl rfl hX (Nat.le_of_ble_eq_true rfl)) rfl rfl ee)).trans ?_
    refine (ev_fa 1 (pc' := 8) (ls' := [.ref X, .int a, .ref o, zu]) (st' := [.long v.toInt64, .int (nI 0), .ref o]) (h' := h') rfl).trans ?_
    refine (e_lastoreK (k := 0) (N := 1) rfl ko kn ⟨by decide, by decide⟩).trans ?_
    refine (ev_fa 2 (pc' := 16) (ls' := [.ref X, .int a, .ref o, zu]) (st' := [.int (nI 0)]) (h' := zwJ h' o 0 v.toInt64) rfl).trans ?_
    exact e_ireti rfl rfl
  · obtain rfl : k = 0 := by omega
    refine ⟨h', ?_, Mw.of M, C, fun q => by cases q⟩
    refine (st.trans (e_H (x := 2) (ent := [.ref X, .int a]) (ls2 := [.ref X, .int a, .ref o, zu]) rfl rfl rfl (zsC_v rfl rfl rfl hX (Nat.le_of_ble_eq_true rfl)) rfl rfl rfl rfl rfl rfl ee)).trans ?_
    refine (ev_fa 1 (pc' := 14) (ls' := [.ref X, .int a, .ref o, zu]) (st' := [.int (nI 1)]) (h' := h') rfl).trans ?_
    exact e_ireti rfl rfl
theorem Wr_333 (hX : zK h X = 10) (hl : o < zT h) (k26 : zK h o = 26) (n1 : zN h o = 1) (hk : k ≤ 1) (C : CA z d h X Lo 124 [.ref X, .int a, zu, zu] [2] k v q) : Wq z d h X Lo o 333 [.ref X, .int a, .ref o, zu] k v q := by
  obtain ⟨h', ee, M, C⟩ := C
  have ko : zK h' o = 26 := (M.1 o hl).1.trans k26
  have kn : zN h' o = 1 := (M.1 o hl).2.1.trans n1
  have st : ev z d 333 0 [.ref X, .int a, .ref o, zu] [] h = ev z d 333 4 [.ref X, .int a, .ref o, zu] [.int a, .ref X, .int (nI 0), .ref o] h := ev_fa 4 (pc' := 4) (ls' := [.ref X, .int a, .ref o, zu]) (st' := [.int a, .ref X, .int (nI 0), .ref o]) (h' := h) rfl
  rcases k with _ | k
  · refine ⟨zwJ h' o 0 v.toInt64, ?_, Mw.wJ M, CI.wJ C, fun _ => zJ_wa⟩
    refine (st.trans (e_K (ent := [.ref X, .int a, zu, zu]) rfl rfl rfl (zsC_v rfl rfl rfl hX (Nat.le_of_ble_eq_true rfl)) rfl rfl ee)).trans ?_
    refine (ev_fa 1 (pc' := 8) (ls' := [.ref X, .int a, .ref o, zu]) (st' := [.long v.toInt64, .int (nI 0), .ref o]) (h' := h') rfl).trans ?_
    refine (e_lastoreK (k := 0) (N := 1) rfl ko kn ⟨by decide, by decide⟩).trans ?_
    refine (ev_fa 2 (pc' := 16) (ls' := [.ref X, .int a, .ref o, zu]) (st' := [.int (nI 0)]) (h' := zwJ h' o 0 v.toInt64) rfl).trans ?_
    exact e_ireti rfl rfl
  · obtain rfl : k = 0 := by omega
    refine ⟨h', ?_, Mw.of M, C, fun q => by cases q⟩
    refine (st.trans (e_H (x := 2) (ent := [.ref X, .int a, zu, zu]) (ls2 := [.ref X, .int a, .ref o, zu]) rfl rfl rfl (zsC_v rfl rfl rfl hX (Nat.le_of_ble_eq_true rfl)) rfl rfl rfl rfl rfl rfl ee)).trans ?_
    refine (ev_fa 1 (pc' := 14) (ls' := [.ref X, .int a, .ref o, zu]) (st' := [.int (nI 1)]) (h' := h') rfl).trans ?_
    exact e_ireti rfl rfl
theorem Wr_334 (hX : zK h X = 10) (hl : o < zT h) (k26 : zK h o = 26) (n1 : zN h o = 1) (hk : k ≤ 1) (C : CA z d h X Lo 126 [.ref X, .int a, .int b] [2] k v q) : Wq z d h X Lo o 334 [.ref X, .int a, .int b, .ref o, zu] k v q := by
  obtain ⟨h', ee, M, C⟩ := C
  have ko : zK h' o = 26 := (M.1 o hl).1.trans k26
  have kn : zN h' o = 1 := (M.1 o hl).2.1.trans n1
  have st : ev z d 334 0 [.ref X, .int a, .int b, .ref o, zu] [] h = ev z d 334 5 [.ref X, .int a, .int b, .ref o, zu] [.int b, .int a, .ref X, .int (nI 0), .ref o] h := ev_fa 5 (pc' := 5) (ls' := [.ref X, .int a, .int b, .ref o, zu]) (st' := [.int b, .int a, .ref X, .int (nI 0), .ref o]) (h' := h) rfl
  rcases k with _ | k
  · refine ⟨zwJ h' o 0 v.toInt64, ?_, Mw.wJ M, CI.wJ C, fun _ => zJ_wa⟩
    refine (st.trans (e_K (ent := [.ref X, .int a, .int b]) rfl rfl rfl (zsC_v rfl rfl rfl hX (Nat.le_of_ble_eq_true rfl)) rfl rfl ee)).trans ?_
    refine (ev_fa 1 (pc' := 9) (ls' := [.ref X, .int a, .int b, .ref o, zu]) (st' := [.long v.toInt64, .int (nI 0), .ref o]) (h' := h') rfl).trans ?_
    refine (e_lastoreK (k := 0) (N := 1) rfl ko kn ⟨by decide, by decide⟩).trans ?_
    refine (ev_fa 2 (pc' := 18) (ls' := [.ref X, .int a, .int b, .ref o, zu]) (st' := [.int (nI 0)]) (h' := zwJ h' o 0 v.toInt64) rfl).trans ?_
    exact e_ireti rfl rfl
  · obtain rfl : k = 0 := by omega
    refine ⟨h', ?_, Mw.of M, C, fun q => by cases q⟩
    refine (st.trans (e_H (x := 2) (ent := [.ref X, .int a, .int b]) (ls2 := [.ref X, .int a, .int b, .ref o, zu]) rfl rfl rfl (zsC_v rfl rfl rfl hX (Nat.le_of_ble_eq_true rfl)) rfl rfl rfl rfl rfl rfl ee)).trans ?_
    refine (ev_fa 1 (pc' := 16) (ls' := [.ref X, .int a, .int b, .ref o, zu]) (st' := [.int (nI 1)]) (h' := h') rfl).trans ?_
    exact e_ireti rfl rfl
theorem Wr_335 (hX : zK h X = 10) (hl : o < zT h) (k26 : zK h o = 26) (n1 : zN h o = 1) (hk : k ≤ 2) (C : CA z d h X Lo 127 [.ref X, .int a, .int b, .int c, zu, zu, zu, zu, zu, zu] [2, 0] k v q) : Wq z d h X Lo o 335 [.ref X, .int a, .int b, .int c, .ref o, zu] k v q := by
  obtain ⟨h', ee, M, C⟩ := C
  have ko : zK h' o = 26 := (M.1 o hl).1.trans k26
  have kn : zN h' o = 1 := (M.1 o hl).2.1.trans n1
  have st : ev z d 335 0 [.ref X, .int a, .int b, .int c, .ref o, zu] [] h = ev z d 335 7 [.ref X, .int a, .int b, .int c, .ref o, zu] [.int c, .int b, .int a, .ref X, .int (nI 0), .ref o] h := ev_fa 6 (pc' := 7) (ls' := [.ref X, .int a, .int b, .int c, .ref o, zu]) (st' := [.int c, .int b, .int a, .ref X, .int (nI 0), .ref o]) (h' := h) rfl
  rcases k with _ | k
  · refine ⟨zwJ h' o 0 v.toInt64, ?_, Mw.wJ M, CI.wJ C, fun _ => zJ_wa⟩
    refine (st.trans (e_K (ent := [.ref X, .int a, .int b, .int c, zu, zu, zu, zu, zu, zu]) rfl rfl rfl (zsC_v rfl rfl rfl hX (Nat.le_of_ble_eq_true rfl)) rfl rfl ee)).trans ?_
    refine (ev_fa 1 (pc' := 11) (ls' := [.ref X, .int a, .int b, .int c, .ref o, zu]) (st' := [.long v.toInt64, .int (nI 0), .ref o]) (h' := h') rfl).trans ?_
    refine (e_lastoreK (k := 0) (N := 1) rfl ko kn ⟨by decide, by decide⟩).trans ?_
    refine (ev_fa 2 (pc' := 24) (ls' := [.ref X, .int a, .int b, .int c, .ref o, zu]) (st' := [.int (nI 0)]) (h' := zwJ h' o 0 v.toInt64) rfl).trans ?_
    exact e_ireti rfl rfl
  · rcases k with _ | k
    · refine ⟨h', ?_, Mw.of M, C, fun q => by cases q⟩
      refine (st.trans (e_H (x := 2) (ent := [.ref X, .int a, .int b, .int c, zu, zu, zu, zu, zu, zu]) (ls2 := [.ref X, .int a, .int b, .int c, .ref o, zu]) rfl rfl rfl (zsC_v rfl rfl rfl hX (Nat.le_of_ble_eq_true rfl)) rfl rfl rfl rfl rfl rfl ee)).trans ?_
      refine (ev_fa 1 (pc' := 18) (ls' := [.ref X, .int a, .int b, .int c, .ref o, zu]) (st' := [.int (nI 1)]) (h' := h') rfl).trans ?_
      exact e_ireti rfl rfl
    · obtain rfl : k = 0 := by omega
      refine ⟨h', ?_, Mw.of M, C, fun q => by cases q⟩
      refine (st.trans (e_H (x := 0) (ent := [.ref X, .int a, .int b, .int c, zu, zu, zu, zu, zu, zu]) (ls2 := [.ref X, .int a, .int b, .int c, .ref o, zu]) rfl rfl rfl (zsC_v rfl rfl rfl hX (Nat.le_of_ble_eq_true rfl)) rfl rfl rfl rfl rfl rfl ee)).trans ?_
      refine (ev_fa 1 (pc' := 22) (ls' := [.ref X, .int a, .int b, .int c, .ref o, zu]) (st' := [.int (nI 2)]) (h' := h') rfl).trans ?_
      exact e_ireti rfl rfl
theorem Wr_336 (hX : zK h X = 10) (hl : o < zT h) (k26 : zK h o = 26) (n1 : zN h o = 1) (hk : k ≤ 1) (C : CA z d h X Lo 128 [.ref X, .int a] [0] k v q) : Wq z d h X Lo o 336 [.ref X, .int a, .ref o, zu] k v q := by
  obtain ⟨h', ee, M, C⟩ := C
  have ko : zK h' o = 26 := (M.1 o hl).1.trans k26
  have kn : zN h' o = 1 := (M.1 o hl).2.1.trans n1
  have st : ev z d 336 0 [.ref X, .int a, .ref o, zu] [] h = ev z d 336 4 [.ref X, .int a, .ref o, zu] [.int a, .ref X, .int (nI 0), .ref o] h := ev_fa 4 (pc' := 4) (ls' := [.ref X, .int a, .ref o, zu]) (st' := [.int a, .ref X, .int (nI 0), .ref o]) (h' := h) rfl
  rcases k with _ | k
  · refine ⟨zwJ h' o 0 v.toInt64, ?_, Mw.wJ M, CI.wJ C, fun _ => zJ_wa⟩
    refine (st.trans (e_K (ent := [.ref X, .int a]) rfl rfl rfl (zsC_v rfl rfl rfl hX (Nat.le_of_ble_eq_true rfl)) rfl rfl ee)).trans ?_
    refine (ev_fa 1 (pc' := 8) (ls' := [.ref X, .int a, .ref o, zu]) (st' := [.long v.toInt64, .int (nI 0), .ref o]) (h' := h') rfl).trans ?_
    refine (e_lastoreK (k := 0) (N := 1) rfl ko kn ⟨by decide, by decide⟩).trans ?_
    refine (ev_fa 2 (pc' := 16) (ls' := [.ref X, .int a, .ref o, zu]) (st' := [.int (nI 0)]) (h' := zwJ h' o 0 v.toInt64) rfl).trans ?_
    exact e_ireti rfl rfl
  · obtain rfl : k = 0 := by omega
    refine ⟨h', ?_, Mw.of M, C, fun q => by cases q⟩
    refine (st.trans (e_H (x := 0) (ent := [.ref X, .int a]) (ls2 := [.ref X, .int a, .ref o, zu]) rfl rfl rfl (zsC_v rfl rfl rfl hX (Nat.le_of_ble_eq_true rfl)) rfl rfl rfl rfl rfl rfl ee)).trans ?_
    refine (ev_fa 1 (pc' := 14) (ls' := [.ref X, .int a, .ref o, zu]) (st' := [.int (nI 1)]) (h' := h') rfl).trans ?_
    exact e_ireti rfl rfl
theorem Wr_337 (hX : zK h X = 10) (hl : o < zT h) (k26 : zK h o = 26) (n1 : zN h o = 1) (hk : k ≤ 1) (C : CA z d h X Lo 129 [.ref X] [0] k v q) : Wq z d h X Lo o 337 [.ref X, .ref o, zu] k v q := by
  obtain ⟨h', ee, M, C⟩ := C
  have ko : zK h' o = 26 := (M.1 o hl).1.trans k26
  have kn : zN h' o = 1 := (M.1 o hl).2.1.trans n1
  have st : ev z d 337 0 [.ref X, .ref o, zu] [] h = ev z d 337 3 [.ref X, .ref o, zu] [.ref X, .int (nI 0), .ref o] h := ev_fa 3 (pc' := 3) (ls' := [.ref X, .ref o, zu]) (st' := [.ref X, .int (nI 0), .ref o]) (h' := h) rfl
  rcases k with _ | k
  · refine ⟨zwJ h' o 0 v.toInt64, ?_, Mw.wJ M, CI.wJ C, fun _ => zJ_wa⟩
    refine (st.trans (e_K (ent := [.ref X]) rfl rfl rfl (zsC_v rfl rfl rfl hX (Nat.le_of_ble_eq_true rfl)) rfl rfl ee)).trans ?_
    refine (ev_fa 1 (pc' := 7) (ls' := [.ref X, .ref o, zu]) (st' := [.long v.toInt64, .int (nI 0), .ref o]) (h' := h') rfl).trans ?_
    refine (e_lastoreK (k := 0) (N := 1) rfl ko kn ⟨by decide, by decide⟩).trans ?_
    refine (ev_fa 2 (pc' := 15) (ls' := [.ref X, .ref o, zu]) (st' := [.int (nI 0)]) (h' := zwJ h' o 0 v.toInt64) rfl).trans ?_
    exact e_ireti rfl rfl
  · obtain rfl : k = 0 := by omega
    refine ⟨h', ?_, Mw.of M, C, fun q => by cases q⟩
    refine (st.trans (e_H (x := 0) (ent := [.ref X]) (ls2 := [.ref X, .ref o, zu]) rfl rfl rfl (zsC_v rfl rfl rfl hX (Nat.le_of_ble_eq_true rfl)) rfl rfl rfl rfl rfl rfl ee)).trans ?_
    refine (ev_fa 1 (pc' := 13) (ls' := [.ref X, .ref o, zu]) (st' := [.int (nI 1)]) (h' := h') rfl).trans ?_
    exact e_ireti rfl rfl
theorem Wr_339 (hX : zK h X = 10) (hl : o < zT h) (k26 : zK h o = 26) (n1 : zN h o = 1) (hk : k ≤ 2) (C : CA z d h X Lo 133 [.ref X, .int a, .int b] [2, 0] k v q) : Wq z d h X Lo o 339 [.ref X, .int a, .int b, .ref o, zu] k v q := by
  obtain ⟨h', ee, M, C⟩ := C
  have ko : zK h' o = 26 := (M.1 o hl).1.trans k26
  have kn : zN h' o = 1 := (M.1 o hl).2.1.trans n1
  have st : ev z d 339 0 [.ref X, .int a, .int b, .ref o, zu] [] h = ev z d 339 5 [.ref X, .int a, .int b, .ref o, zu] [.int b, .int a, .ref X, .int (nI 0), .ref o] h := ev_fa 5 (pc' := 5) (ls' := [.ref X, .int a, .int b, .ref o, zu]) (st' := [.int b, .int a, .ref X, .int (nI 0), .ref o]) (h' := h) rfl
  rcases k with _ | k
  · refine ⟨zwJ h' o 0 v.toInt64, ?_, Mw.wJ M, CI.wJ C, fun _ => zJ_wa⟩
    refine (st.trans (e_K (ent := [.ref X, .int a, .int b]) rfl rfl rfl (zsC_v rfl rfl rfl hX (Nat.le_of_ble_eq_true rfl)) rfl rfl ee)).trans ?_
    refine (ev_fa 1 (pc' := 9) (ls' := [.ref X, .int a, .int b, .ref o, zu]) (st' := [.long v.toInt64, .int (nI 0), .ref o]) (h' := h') rfl).trans ?_
    refine (e_lastoreK (k := 0) (N := 1) rfl ko kn ⟨by decide, by decide⟩).trans ?_
    refine (ev_fa 2 (pc' := 22) (ls' := [.ref X, .int a, .int b, .ref o, zu]) (st' := [.int (nI 0)]) (h' := zwJ h' o 0 v.toInt64) rfl).trans ?_
    exact e_ireti rfl rfl
  · rcases k with _ | k
    · refine ⟨h', ?_, Mw.of M, C, fun q => by cases q⟩
      refine (st.trans (e_H (x := 2) (ent := [.ref X, .int a, .int b]) (ls2 := [.ref X, .int a, .int b, .ref o, zu]) rfl rfl rfl (zsC_v rfl rfl rfl hX (Nat.le_of_ble_eq_true rfl)) rfl rfl rfl rfl rfl rfl ee)).trans ?_
      refine (ev_fa 1 (pc' := 16) (ls' := [.ref X, .int a, .int b, .ref o, zu]) (st' := [.int (nI 1)]) (h' := h') rfl).trans ?_
      exact e_ireti rfl rfl
    · obtain rfl : k = 0 := by omega
      refine ⟨h', ?_, Mw.of M, C, fun q => by cases q⟩
      refine (st.trans (e_H (x := 0) (ent := [.ref X, .int a, .int b]) (ls2 := [.ref X, .int a, .int b, .ref o, zu]) rfl rfl rfl (zsC_v rfl rfl rfl hX (Nat.le_of_ble_eq_true rfl)) rfl rfl rfl rfl rfl rfl ee)).trans ?_
      refine (ev_fa 1 (pc' := 20) (ls' := [.ref X, .int a, .int b, .ref o, zu]) (st' := [.int (nI 2)]) (h' := h') rfl).trans ?_
      exact e_ireti rfl rfl
theorem Wr_341 (hX : zK h X = 10) (hl : o < zT h) (k26 : zK h o = 26) (n1 : zN h o = 1) (hk : k ≤ 1) (C : CA z d h X Lo 137 [.ref X, .int a] [2] k v q) : Wq z d h X Lo o 341 [.ref X, .int a, .ref o, zu] k v q := by
  obtain ⟨h', ee, M, C⟩ := C
  have ko : zK h' o = 26 := (M.1 o hl).1.trans k26
  have kn : zN h' o = 1 := (M.1 o hl).2.1.trans n1
  have st : ev z d 341 0 [.ref X, .int a, .ref o, zu] [] h = ev z d 341 4 [.ref X, .int a, .ref o, zu] [.int a, .ref X, .int (nI 0), .ref o] h := ev_fa 4 (pc' := 4) (ls' := [.ref X, .int a, .ref o, zu]) (st' := [.int a, .ref X, .int (nI 0), .ref o]) (h' := h) rfl
  rcases k with _ | k
  · refine ⟨zwJ h' o 0 v.toInt64, ?_, Mw.wJ M, CI.wJ C, fun _ => zJ_wa⟩
    refine (st.trans (e_K (ent := [.ref X, .int a]) rfl rfl rfl (zsC_v rfl rfl rfl hX (Nat.le_of_ble_eq_true rfl)) rfl rfl ee)).trans ?_
    refine (ev_fa 1 (pc' := 8) (ls' := [.ref X, .int a, .ref o, zu]) (st' := [.long v.toInt64, .int (nI 0), .ref o]) (h' := h') rfl).trans ?_
    refine (e_lastoreK (k := 0) (N := 1) rfl ko kn ⟨by decide, by decide⟩).trans ?_
    refine (ev_fa 2 (pc' := 16) (ls' := [.ref X, .int a, .ref o, zu]) (st' := [.int (nI 0)]) (h' := zwJ h' o 0 v.toInt64) rfl).trans ?_
    exact e_ireti rfl rfl
  · obtain rfl : k = 0 := by omega
    refine ⟨h', ?_, Mw.of M, C, fun q => by cases q⟩
    refine (st.trans (e_H (x := 2) (ent := [.ref X, .int a]) (ls2 := [.ref X, .int a, .ref o, zu]) rfl rfl rfl (zsC_v rfl rfl rfl hX (Nat.le_of_ble_eq_true rfl)) rfl rfl rfl rfl rfl rfl ee)).trans ?_
    refine (ev_fa 1 (pc' := 14) (ls' := [.ref X, .int a, .ref o, zu]) (st' := [.int (nI 1)]) (h' := h') rfl).trans ?_
    exact e_ireti rfl rfl
theorem Wr_342 (hX : zK h X = 10) (hl : o < zT h) (k26 : zK h o = 26) (n1 : zN h o = 1) (hk : k ≤ 2) (C : CA z d h X Lo 138 [.ref X, .int a, .int b, .int c, zu, zu, zu, zu] [2, 0] k v q) : Wq z d h X Lo o 342 [.ref X, .int a, .int b, .int c, .ref o, zu] k v q := by
  obtain ⟨h', ee, M, C⟩ := C
  have ko : zK h' o = 26 := (M.1 o hl).1.trans k26
  have kn : zN h' o = 1 := (M.1 o hl).2.1.trans n1
  have st : ev z d 342 0 [.ref X, .int a, .int b, .int c, .ref o, zu] [] h = ev z d 342 7 [.ref X, .int a, .int b, .int c, .ref o, zu] [.int c, .int b, .int a, .ref X, .int (nI 0), .ref o] h := ev_fa 6 (pc' := 7) (ls' := [.ref X, .int a, .int b, .int c, .ref o, zu]) (st' := [.int c, .int b, .int a, .ref X, .int (nI 0), .ref o]) (h' := h) rfl
  rcases k with _ | k
  · refine ⟨zwJ h' o 0 v.toInt64, ?_, Mw.wJ M, CI.wJ C, fun _ => zJ_wa⟩
    refine (st.trans (e_K (ent := [.ref X, .int a, .int b, .int c, zu, zu, zu, zu]) rfl rfl rfl (zsC_v rfl rfl rfl hX (Nat.le_of_ble_eq_true rfl)) rfl rfl ee)).trans ?_
    refine (ev_fa 1 (pc' := 11) (ls' := [.ref X, .int a, .int b, .int c, .ref o, zu]) (st' := [.long v.toInt64, .int (nI 0), .ref o]) (h' := h') rfl).trans ?_
    refine (e_lastoreK (k := 0) (N := 1) rfl ko kn ⟨by decide, by decide⟩).trans ?_
    refine (ev_fa 2 (pc' := 24) (ls' := [.ref X, .int a, .int b, .int c, .ref o, zu]) (st' := [.int (nI 0)]) (h' := zwJ h' o 0 v.toInt64) rfl).trans ?_
    exact e_ireti rfl rfl
  · rcases k with _ | k
    · refine ⟨h', ?_, Mw.of M, C, fun q => by cases q⟩
      refine (st.trans (e_H (x := 2) (ent := [.ref X, .int a, .int b, .int c, zu, zu, zu, zu]) (ls2 := [.ref X, .int a, .int b, .int c, .ref o, zu]) rfl rfl rfl (zsC_v rfl rfl rfl hX (Nat.le_of_ble_eq_true rfl)) rfl rfl rfl rfl rfl rfl ee)).trans ?_
      refine (ev_fa 1 (pc' := 18) (ls' := [.ref X, .int a, .int b, .int c, .ref o, zu]) (st' := [.int (nI 1)]) (h' := h') rfl).trans ?_
      exact e_ireti rfl rfl
    · obtain rfl : k = 0 := by omega
      refine ⟨h', ?_, Mw.of M, C, fun q => by cases q⟩
      refine (st.trans (e_H (x := 0) (ent := [.ref X, .int a, .int b, .int c, zu, zu, zu, zu]) (ls2 := [.ref X, .int a, .int b, .int c, .ref o, zu]) rfl rfl rfl (zsC_v rfl rfl rfl hX (Nat.le_of_ble_eq_true rfl)) rfl rfl rfl rfl rfl rfl ee)).trans ?_
      refine (ev_fa 1 (pc' := 22) (ls' := [.ref X, .int a, .int b, .int c, .ref o, zu]) (st' := [.int (nI 2)]) (h' := h') rfl).trans ?_
      exact e_ireti rfl rfl
theorem Wr_343 (hX : zK h X = 10) (hl : o < zT h) (k26 : zK h o = 26) (n1 : zN h o = 1) (hk : k ≤ 1) (C : CA z d h X Lo 139 [.ref X, .int a, .int b, zu, zu, zu] [0] k v q) : Wq z d h X Lo o 343 [.ref X, .int a, .int b, .ref o, zu] k v q := by
  obtain ⟨h', ee, M, C⟩ := C
  have ko : zK h' o = 26 := (M.1 o hl).1.trans k26
  have kn : zN h' o = 1 := (M.1 o hl).2.1.trans n1
  have st : ev z d 343 0 [.ref X, .int a, .int b, .ref o, zu] [] h = ev z d 343 5 [.ref X, .int a, .int b, .ref o, zu] [.int b, .int a, .ref X, .int (nI 0), .ref o] h := ev_fa 5 (pc' := 5) (ls' := [.ref X, .int a, .int b, .ref o, zu]) (st' := [.int b, .int a, .ref X, .int (nI 0), .ref o]) (h' := h) rfl
  rcases k with _ | k
  · refine ⟨zwJ h' o 0 v.toInt64, ?_, Mw.wJ M, CI.wJ C, fun _ => zJ_wa⟩
    refine (st.trans (e_K (ent := [.ref X, .int a, .int b, zu, zu, zu]) rfl rfl rfl (zsC_v rfl rfl rfl hX (Nat.le_of_ble_eq_true rfl)) rfl rfl ee)).trans ?_
    refine (ev_fa 1 (pc' := 9) (ls' := [.ref X, .int a, .int b, .ref o, zu]) (st' := [.long v.toInt64, .int (nI 0), .ref o]) (h' := h') rfl).trans ?_
    refine (e_lastoreK (k := 0) (N := 1) rfl ko kn ⟨by decide, by decide⟩).trans ?_
    refine (ev_fa 2 (pc' := 18) (ls' := [.ref X, .int a, .int b, .ref o, zu]) (st' := [.int (nI 0)]) (h' := zwJ h' o 0 v.toInt64) rfl).trans ?_
    exact e_ireti rfl rfl
  · obtain rfl : k = 0 := by omega
    refine ⟨h', ?_, Mw.of M, C, fun q => by cases q⟩
    refine (st.trans (e_H (x := 0) (ent := [.ref X, .int a, .int b, zu, zu, zu]) (ls2 := [.ref X, .int a, .int b, .ref o, zu]) rfl rfl rfl (zsC_v rfl rfl rfl hX (Nat.le_of_ble_eq_true rfl)) rfl rfl rfl rfl rfl rfl ee)).trans ?_
    refine (ev_fa 1 (pc' := 16) (ls' := [.ref X, .int a, .int b, .ref o, zu]) (st' := [.int (nI 1)]) (h' := h') rfl).trans ?_
    exact e_ireti rfl rfl
theorem Wr_344 (hX : zK h X = 10) (hl : o < zT h) (k26 : zK h o = 26) (n1 : zN h o = 1) (hk : k ≤ 1) (C : CA z d h X Lo 140 [.ref X, .int a, zu, zu] [2] k v q) : Wq z d h X Lo o 344 [.ref X, .int a, .ref o, zu] k v q := by
  obtain ⟨h', ee, M, C⟩ := C
  have ko : zK h' o = 26 := (M.1 o hl).1.trans k26
  have kn : zN h' o = 1 := (M.1 o hl).2.1.trans n1
  have st : ev z d 344 0 [.ref X, .int a, .ref o, zu] [] h = ev z d 344 4 [.ref X, .int a, .ref o, zu] [.int a, .ref X, .int (nI 0), .ref o] h := ev_fa 4 (pc' := 4) (ls' := [.ref X, .int a, .ref o, zu]) (st' := [.int a, .ref X, .int (nI 0), .ref o]) (h' := h) rfl
  rcases k with _ | k
  · refine ⟨zwJ h' o 0 v.toInt64, ?_, Mw.wJ M, CI.wJ C, fun _ => zJ_wa⟩
    refine (st.trans (e_K (ent := [.ref X, .int a, zu, zu]) rfl rfl rfl (zsC_v rfl rfl rfl hX (Nat.le_of_ble_eq_true rfl)) rfl rfl ee)).trans ?_
    refine (ev_fa 1 (pc' := 8) (ls' := [.ref X, .int a, .ref o, zu]) (st' := [.long v.toInt64, .int (nI 0), .ref o]) (h' := h') rfl).trans ?_
    refine (e_lastoreK (k := 0) (N := 1) rfl ko kn ⟨by decide, by decide⟩).trans ?_
    refine (ev_fa 2 (pc' := 16) (ls' := [.ref X, .int a, .ref o, zu]) (st' := [.int (nI 0)]) (h' := zwJ h' o 0 v.toInt64) rfl).trans ?_
    exact e_ireti rfl rfl
  · obtain rfl : k = 0 := by omega
    refine ⟨h', ?_, Mw.of M, C, fun q => by cases q⟩
    refine (st.trans (e_H (x := 2) (ent := [.ref X, .int a, zu, zu]) (ls2 := [.ref X, .int a, .ref o, zu]) rfl rfl rfl (zsC_v rfl rfl rfl hX (Nat.le_of_ble_eq_true rfl)) rfl rfl rfl rfl rfl rfl ee)).trans ?_
    refine (ev_fa 1 (pc' := 14) (ls' := [.ref X, .int a, .ref o, zu]) (st' := [.int (nI 1)]) (h' := h') rfl).trans ?_
    exact e_ireti rfl rfl
theorem Wr_345 (hX : zK h X = 10) (hl : o < zT h) (k26 : zK h o = 26) (n1 : zN h o = 1) (hk : k ≤ 3) (C : CA z d h X Lo 144 [.ref X, .int a, .int b, .int c, zu] [2, 0, 4] k v q) : Wq z d h X Lo o 345 [.ref X, .int a, .int b, .int c, .ref o, zu] k v q := by
  obtain ⟨h', ee, M, C⟩ := C
  have ko : zK h' o = 26 := (M.1 o hl).1.trans k26
  have kn : zN h' o = 1 := (M.1 o hl).2.1.trans n1
  have st : ev z d 345 0 [.ref X, .int a, .int b, .int c, .ref o, zu] [] h = ev z d 345 7 [.ref X, .int a, .int b, .int c, .ref o, zu] [.int c, .int b, .int a, .ref X, .int (nI 0), .ref o] h := ev_fa 6 (pc' := 7) (ls' := [.ref X, .int a, .int b, .int c, .ref o, zu]) (st' := [.int c, .int b, .int a, .ref X, .int (nI 0), .ref o]) (h' := h) rfl
  rcases k with _ | k
  · refine ⟨zwJ h' o 0 v.toInt64, ?_, Mw.wJ M, CI.wJ C, fun _ => zJ_wa⟩
    refine (st.trans (e_K (ent := [.ref X, .int a, .int b, .int c, zu]) rfl rfl rfl (zsC_v rfl rfl rfl hX (Nat.le_of_ble_eq_true rfl)) rfl rfl ee)).trans ?_
    refine (ev_fa 1 (pc' := 11) (ls' := [.ref X, .int a, .int b, .int c, .ref o, zu]) (st' := [.long v.toInt64, .int (nI 0), .ref o]) (h' := h') rfl).trans ?_
    refine (e_lastoreK (k := 0) (N := 1) rfl ko kn ⟨by decide, by decide⟩).trans ?_
    refine (ev_fa 2 (pc' := 28) (ls' := [.ref X, .int a, .int b, .int c, .ref o, zu]) (st' := [.int (nI 0)]) (h' := zwJ h' o 0 v.toInt64) rfl).trans ?_
    exact e_ireti rfl rfl
  · rcases k with _ | k
    · refine ⟨h', ?_, Mw.of M, C, fun q => by cases q⟩
      refine (st.trans (e_H (x := 2) (ent := [.ref X, .int a, .int b, .int c, zu]) (ls2 := [.ref X, .int a, .int b, .int c, .ref o, zu]) rfl rfl rfl (zsC_v rfl rfl rfl hX (Nat.le_of_ble_eq_true rfl)) rfl rfl rfl rfl rfl rfl ee)).trans ?_
      refine (ev_fa 1 (pc' := 18) (ls' := [.ref X, .int a, .int b, .int c, .ref o, zu]) (st' := [.int (nI 1)]) (h' := h') rfl).trans ?_
      exact e_ireti rfl rfl
    · rcases k with _ | k
      · refine ⟨h', ?_, Mw.of M, C, fun q => by cases q⟩
        refine (st.trans (e_H (x := 0) (ent := [.ref X, .int a, .int b, .int c, zu]) (ls2 := [.ref X, .int a, .int b, .int c, .ref o, zu]) rfl rfl rfl (zsC_v rfl rfl rfl hX (Nat.le_of_ble_eq_true rfl)) rfl rfl rfl rfl rfl rfl ee)).trans ?_
        refine (ev_fa 1 (pc' := 22) (ls' := [.ref X, .int a, .int b, .int c, .ref o, zu]) (st' := [.int (nI 2)]) (h' := h') rfl).trans ?_
        exact e_ireti rfl rfl
      · obtain rfl : k = 0 := by omega
        refine ⟨h', ?_, Mw.of M, C, fun q => by cases q⟩
        refine (st.trans (e_H (x := 4) (ent := [.ref X, .int a, .int b, .int c, zu]) (ls2 := [.ref X, .int a, .int b, .int c, .ref o, zu]) rfl rfl rfl (zsC_v rfl rfl rfl hX (Nat.le_of_ble_eq_true rfl)) rfl rfl rfl rfl rfl rfl ee)).trans ?_
        refine (ev_fa 1 (pc' := 26) (ls' := [.ref X, .int a, .int b, .int c, .ref o, zu]) (st' := [.int (nI 3)]) (h' := h') rfl).trans ?_
        exact e_ireti rfl rfl
theorem Wr_346 (hX : zK h X = 10) (hl : o < zT h) (k26 : zK h o = 26) (n1 : zN h o = 1) (hk : k ≤ 1) (C : CA z d h X Lo 145 [.ref X, .int a, .int b] [0] k v q) : Wq z d h X Lo o 346 [.ref X, .int a, .int b, .ref o, zu] k v q := by
  obtain ⟨h', ee, M, C⟩ := C
  have ko : zK h' o = 26 := (M.1 o hl).1.trans k26
  have kn : zN h' o = 1 := (M.1 o hl).2.1.trans n1
  have st : ev z d 346 0 [.ref X, .int a, .int b, .ref o, zu] [] h = ev z d 346 5 [.ref X, .int a, .int b, .ref o, zu] [.int b, .int a, .ref X, .int (nI 0), .ref o] h := ev_fa 5 (pc' := 5) (ls' := [.ref X, .int a, .int b, .ref o, zu]) (st' := [.int b, .int a, .ref X, .int (nI 0), .ref o]) (h' := h) rfl
  rcases k with _ | k
  · refine ⟨zwJ h' o 0 v.toInt64, ?_, Mw.wJ M, CI.wJ C, fun _ => zJ_wa⟩
    refine (st.trans (e_K (ent := [.ref X, .int a, .int b]) rfl rfl rfl (zsC_v rfl rfl rfl hX (Nat.le_of_ble_eq_true rfl)) rfl rfl ee)).trans ?_
    refine (ev_fa 1 (pc' := 9) (ls' := [.ref X, .int a, .int b, .ref o, zu]) (st' := [.long v.toInt64, .int (nI 0), .ref o]) (h' := h') rfl).trans ?_
    refine (e_lastoreK (k := 0) (N := 1) rfl ko kn ⟨by decide, by decide⟩).trans ?_
    refine (ev_fa 2 (pc' := 18) (ls' := [.ref X, .int a, .int b, .ref o, zu]) (st' := [.int (nI 0)]) (h' := zwJ h' o 0 v.toInt64) rfl).trans ?_
    exact e_ireti rfl rfl
  · obtain rfl : k = 0 := by omega
    refine ⟨h', ?_, Mw.of M, C, fun q => by cases q⟩
    refine (st.trans (e_H (x := 0) (ent := [.ref X, .int a, .int b]) (ls2 := [.ref X, .int a, .int b, .ref o, zu]) rfl rfl rfl (zsC_v rfl rfl rfl hX (Nat.le_of_ble_eq_true rfl)) rfl rfl rfl rfl rfl rfl ee)).trans ?_
    refine (ev_fa 1 (pc' := 16) (ls' := [.ref X, .int a, .int b, .ref o, zu]) (st' := [.int (nI 1)]) (h' := h') rfl).trans ?_
    exact e_ireti rfl rfl
theorem Wr_347 (hX : zK h X = 10) (hl : o < zT h) (k26 : zK h o = 26) (n1 : zN h o = 1) (hk : k ≤ 1) (C : CA z d h X Lo 146 [.ref X, .int a, .int b, zu, zu, zu, zu] [0] k v q) : Wq z d h X Lo o 347 [.ref X, .int a, .int b, .ref o, zu] k v q := by
  obtain ⟨h', ee, M, C⟩ := C
  have ko : zK h' o = 26 := (M.1 o hl).1.trans k26
  have kn : zN h' o = 1 := (M.1 o hl).2.1.trans n1
  have st : ev z d 347 0 [.ref X, .int a, .int b, .ref o, zu] [] h = ev z d 347 5 [.ref X, .int a, .int b, .ref o, zu] [.int b, .int a, .ref X, .int (nI 0), .ref o] h := ev_fa 5 (pc' := 5) (ls' := [.ref X, .int a, .int b, .ref o, zu]) (st' := [.int b, .int a, .ref X, .int (nI 0), .ref o]) (h' := h) rfl
  rcases k with _ | k
  · refine ⟨zwJ h' o 0 v.toInt64, ?_, Mw.wJ M, CI.wJ C, fun _ => zJ_wa⟩
    refine (st.trans (e_K (ent := [.ref X, .int a, .int b, zu, zu, zu, zu]) rfl rfl rfl (zsC_v rfl rfl rfl hX (Nat.le_of_ble_eq_true rfl)) rfl rfl ee)).trans ?_
    refine (ev_fa 1 (pc' := 9) (ls' := [.ref X, .int a, .int b, .ref o, zu]) (st' := [.long v.toInt64, .int (nI 0), .ref o]) (h' := h') rfl).trans ?_
    refine (e_lastoreK (k := 0) (N := 1) rfl ko kn ⟨by decide, by decide⟩).trans ?_
    refine (ev_fa 2 (pc' := 18) (ls' := [.ref X, .int a, .int b, .ref o, zu]) (st' := [.int (nI 0)]) (h' := zwJ h' o 0 v.toInt64) rfl).trans ?_
    exact e_ireti rfl rfl
  · obtain rfl : k = 0 := by omega
    refine ⟨h', ?_, Mw.of M, C, fun q => by cases q⟩
    refine (st.trans (e_H (x := 0) (ent := [.ref X, .int a, .int b, zu, zu, zu, zu]) (ls2 := [.ref X, .int a, .int b, .ref o, zu]) rfl rfl rfl (zsC_v rfl rfl rfl hX (Nat.le_of_ble_eq_true rfl)) rfl rfl rfl rfl rfl rfl ee)).trans ?_
    refine (ev_fa 1 (pc' := 16) (ls' := [.ref X, .int a, .int b, .ref o, zu]) (st' := [.int (nI 1)]) (h' := h') rfl).trans ?_
    exact e_ireti rfl rfl
theorem Wr_348 (hX : zK h X = 10) (hl : o < zT h) (k26 : zK h o = 26) (n1 : zN h o = 1) (hk : k ≤ 1) (C : CA z d h X Lo 147 [.ref X, .int a, .int b] [2] k v q) : Wq z d h X Lo o 348 [.ref X, .int a, .int b, .ref o, zu] k v q := by
  obtain ⟨h', ee, M, C⟩ := C
  have ko : zK h' o = 26 := (M.1 o hl).1.trans k26
  have kn : zN h' o = 1 := (M.1 o hl).2.1.trans n1
  have st : ev z d 348 0 [.ref X, .int a, .int b, .ref o, zu] [] h = ev z d 348 5 [.ref X, .int a, .int b, .ref o, zu] [.int b, .int a, .ref X, .int (nI 0), .ref o] h := ev_fa 5 (pc' := 5) (ls' := [.ref X, .int a, .int b, .ref o, zu]) (st' := [.int b, .int a, .ref X, .int (nI 0), .ref o]) (h' := h) rfl
  rcases k with _ | k
  · refine ⟨zwJ h' o 0 v.toInt64, ?_, Mw.wJ M, CI.wJ C, fun _ => zJ_wa⟩
    refine (st.trans (e_K (ent := [.ref X, .int a, .int b]) rfl rfl rfl (zsC_v rfl rfl rfl hX (Nat.le_of_ble_eq_true rfl)) rfl rfl ee)).trans ?_
    refine (ev_fa 1 (pc' := 9) (ls' := [.ref X, .int a, .int b, .ref o, zu]) (st' := [.long v.toInt64, .int (nI 0), .ref o]) (h' := h') rfl).trans ?_
    refine (e_lastoreK (k := 0) (N := 1) rfl ko kn ⟨by decide, by decide⟩).trans ?_
    refine (ev_fa 2 (pc' := 18) (ls' := [.ref X, .int a, .int b, .ref o, zu]) (st' := [.int (nI 0)]) (h' := zwJ h' o 0 v.toInt64) rfl).trans ?_
    exact e_ireti rfl rfl
  · obtain rfl : k = 0 := by omega
    refine ⟨h', ?_, Mw.of M, C, fun q => by cases q⟩
    refine (st.trans (e_H (x := 2) (ent := [.ref X, .int a, .int b]) (ls2 := [.ref X, .int a, .int b, .ref o, zu]) rfl rfl rfl (zsC_v rfl rfl rfl hX (Nat.le_of_ble_eq_true rfl)) rfl rfl rfl rfl rfl rfl ee)).trans ?_
    refine (ev_fa 1 (pc' := 16) (ls' := [.ref X, .int a, .int b, .ref o, zu]) (st' := [.int (nI 1)]) (h' := h') rfl).trans ?_
    exact e_ireti rfl rfl
theorem Wr_349 (hX : zK h X = 10) (hl : o < zT h) (k26 : zK h o = 26) (n1 : zN h o = 1) (hk : k ≤ 1) (C : CA z d h X Lo 148 [.ref X, .int a, .int b] [4] k v q) : Wq z d h X Lo o 349 [.ref X, .int a, .int b, .ref o, zu] k v q := by
  obtain ⟨h', ee, M, C⟩ := C
  have ko : zK h' o = 26 := (M.1 o hl).1.trans k26
  have kn : zN h' o = 1 := (M.1 o hl).2.1.trans n1
  have st : ev z d 349 0 [.ref X, .int a, .int b, .ref o, zu] [] h = ev z d 349 5 [.ref X, .int a, .int b, .ref o, zu] [.int b, .int a, .ref X, .int (nI 0), .ref o] h := ev_fa 5 (pc' := 5) (ls' := [.ref X, .int a, .int b, .ref o, zu]) (st' := [.int b, .int a, .ref X, .int (nI 0), .ref o]) (h' := h) rfl
  rcases k with _ | k
  · refine ⟨zwJ h' o 0 v.toInt64, ?_, Mw.wJ M, CI.wJ C, fun _ => zJ_wa⟩
    refine (st.trans (e_K (ent := [.ref X, .int a, .int b]) rfl rfl rfl (zsC_v rfl rfl rfl hX (Nat.le_of_ble_eq_true rfl)) rfl rfl ee)).trans ?_
    refine (ev_fa 1 (pc' := 9) (ls' := [.ref X, .int a, .int b, .ref o, zu]) (st' := [.long v.toInt64, .int (nI 0), .ref o]) (h' := h') rfl).trans ?_
    refine (e_lastoreK (k := 0) (N := 1) rfl ko kn ⟨by decide, by decide⟩).trans ?_
    refine (ev_fa 2 (pc' := 18) (ls' := [.ref X, .int a, .int b, .ref o, zu]) (st' := [.int (nI 0)]) (h' := zwJ h' o 0 v.toInt64) rfl).trans ?_
    exact e_ireti rfl rfl
  · obtain rfl : k = 0 := by omega
    refine ⟨h', ?_, Mw.of M, C, fun q => by cases q⟩
    refine (st.trans (e_H (x := 4) (ent := [.ref X, .int a, .int b]) (ls2 := [.ref X, .int a, .int b, .ref o, zu]) rfl rfl rfl (zsC_v rfl rfl rfl hX (Nat.le_of_ble_eq_true rfl)) rfl rfl rfl rfl rfl rfl ee)).trans ?_
    refine (ev_fa 1 (pc' := 16) (ls' := [.ref X, .int a, .int b, .ref o, zu]) (st' := [.int (nI 1)]) (h' := h') rfl).trans ?_
    exact e_ireti rfl rfl
theorem Wr_350 (hX : zK h X = 10) (hl : o < zT h) (k26 : zK h o = 26) (n1 : zN h o = 1) (hk : k ≤ 1) (C : CA z d h X Lo 149 [.ref X, .int a] [2] k v q) : Wq z d h X Lo o 350 [.ref X, .int a, .ref o, zu] k v q := by
  obtain ⟨h', ee, M, C⟩ := C
  have ko : zK h' o = 26 := (M.1 o hl).1.trans k26
  have kn : zN h' o = 1 := (M.1 o hl).2.1.trans n1
  have st : ev z d 350 0 [.ref X, .int a, .ref o, zu] [] h = ev z d 350 4 [.ref X, .int a, .ref o, zu] [.int a, .ref X, .int (nI 0), .ref o] h := ev_fa 4 (pc' := 4) (ls' := [.ref X, .int a, .ref o, zu]) (st' := [.int a, .ref X, .int (nI 0), .ref o]) (h' := h) rfl
  rcases k with _ | k
  · refine ⟨zwJ h' o 0 v.toInt64, ?_, Mw.wJ M, CI.wJ C, fun _ => zJ_wa⟩
    refine (st.trans (e_K (ent := [.ref X, .int a]) rfl rfl rfl (zsC_v rfl rfl rfl hX (Nat.le_of_ble_eq_true rfl)) rfl rfl ee)).trans ?_
    refine (ev_fa 1 (pc' := 8) (ls' := [.ref X, .int a, .ref o, zu]) (st' := [.long v.toInt64, .int (nI 0), .ref o]) (h' := h') rfl).trans ?_
    refine (e_lastoreK (k := 0) (N := 1) rfl ko kn ⟨by decide, by decide⟩).trans ?_
    refine (ev_fa 2 (pc' := 16) (ls' := [.ref X, .int a, .ref o, zu]) (st' := [.int (nI 0)]) (h' := zwJ h' o 0 v.toInt64) rfl).trans ?_
    exact e_ireti rfl rfl
  · obtain rfl : k = 0 := by omega
    refine ⟨h', ?_, Mw.of M, C, fun q => by cases q⟩
    refine (st.trans (e_H (x := 2) (ent := [.ref X, .int a]) (ls2 := [.ref X, .int a, .ref o, zu]) rfl rfl rfl (zsC_v rfl rfl rfl hX (Nat.le_of_ble_eq_true rfl)) rfl rfl rfl rfl rfl rfl ee)).trans ?_
    refine (ev_fa 1 (pc' := 14) (ls' := [.ref X, .int a, .ref o, zu]) (st' := [.int (nI 1)]) (h' := h') rfl).trans ?_
    exact e_ireti rfl rfl
end
