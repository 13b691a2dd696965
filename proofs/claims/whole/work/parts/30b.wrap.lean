/-! THE LAW'S WRAPPERS of booleans -/
section
variable {z : ZE} {d : Nat} {h h' : Hp} {X o : Nat} {Lo : Option Nat} {k : Nat} {v a b c e f : Int32} {q : Stt}
theorem Wr_338 (hX : zK h X = 10) (hl : o < zT h) (k26 : zK h o = 26) (n1 : zN h o = 1) (hk : k ≤ 2) (hv : v = 0 ∨ v = 1) (C : CA z d h X Lo 130 [.ref X, .int a, zu] [2, 1] k v q) : Wq z d h X Lo o 338 [.ref X, .int a, .ref o, zu] k v q := by
  obtain ⟨h', ee, M, C⟩ := C
  have ko : zK h' o = 26 := (M.1 o hl).1.trans k26
  have kn : zN h' o = 1 := (M.1 o hl).2.1.trans n1
  have st : ev z d 338 0 [.ref X, .int a, .ref o, zu] [] h = ev z d 338 4 [.ref X, .int a, .ref o, zu] [.int a, .ref X, .int (nI 0), .ref o] h := ev_fa 4 (pc' := 4) (ls' := [.ref X, .int a, .ref o, zu]) (st' := [.int a, .ref X, .int (nI 0), .ref o]) (h' := h) rfl
  rcases k with _ | k
  · refine ⟨zwJ h' o 0 v.toInt64, ?_, Mw.wJ M, CI.wJ C, fun _ => zJ_wa⟩
    refine (st.trans (e_K (ent := [.ref X, .int a, zu]) rfl rfl rfl (zsC_v rfl rfl rfl hX (Nat.le_of_ble_eq_true rfl)) rfl rfl ee)).trans ?_
    refine (e_if_eq (t := 14) rfl (by decide)).trans ?_
    have fin : ∀ w : Int64, ev z d 338 15 [.ref X, .int a, .ref o, zu] [.long w, .int (nI 0), .ref o] h' = some (.inl (some (.int (nI 0))), zwJ h' o 0 w) := by
      intro w
      refine (e_lastoreK (k := 0) (N := 1) rfl ko kn ⟨by decide, by decide⟩).trans ?_
      refine (ev_fa 2 (pc' := 26) (ls' := [.ref X, .int a, .ref o, zu]) (st' := [.int (nI 0)]) (h' := zwJ h' o 0 w) rfl).trans ?_
      exact e_ireti rfl rfl
    rcases hv with e | e
    · subst e
      rw [if_pos rfl]
      exact (ev_fa 1 (pc' := 15) (ls' := [.ref X, .int a, .ref o, zu]) (st' := [.long 0, .int (nI 0), .ref o]) (h' := h') rfl).trans (fin 0)
    · subst e
      rw [if_neg (by decide)]
      exact (ev_fa 2 (pc' := 15) (ls' := [.ref X, .int a, .ref o, zu]) (st' := [.long 1, .int (nI 0), .ref o]) (h' := h') rfl).trans (fin 1)
  · rcases k with _ | k
    · refine ⟨h', ?_, Mw.of M, C, fun q => by cases q⟩
      refine (st.trans (e_H (x := 2) (ent := [.ref X, .int a, zu]) (ls2 := [.ref X, .int a, .ref o, zu]) rfl rfl rfl (zsC_v rfl rfl rfl hX (Nat.le_of_ble_eq_true rfl)) rfl rfl rfl rfl rfl rfl ee)).trans ?_
      refine (ev_fa 1 (pc' := 21) (ls' := [.ref X, .int a, .ref o, zu]) (st' := [.int (nI 1)]) (h' := h') rfl).trans ?_
      exact e_ireti rfl rfl
    · obtain rfl : k = 0 := by omega
      refine ⟨h', ?_, Mw.of M, C, fun q => by cases q⟩
      refine (st.trans (e_H (x := 1) (ent := [.ref X, .int a, zu]) (ls2 := [.ref X, .int a, .ref o, zu]) rfl rfl rfl (zsC_v rfl rfl rfl hX (Nat.le_of_ble_eq_true rfl)) rfl rfl rfl rfl rfl rfl ee)).trans ?_
      refine (ev_fa 1 (pc' := 24) (ls' := [.ref X, .int a, .ref o, zu]) (st' := [.int (nI 2)]) (h' := h') rfl).trans ?_
      exact e_ireti rfl rfl
theorem Wr_340 (hX : zK h X = 10) (hl : o < zT h) (k26 : zK h o = 26) (n1 : zN h o = 1) (hk : k ≤ 1) (hv : v = 0 ∨ v = 1) (C : CA z d h X Lo 135 [.ref X, .int a, zu, zu, zu] [2] k v q) : Wq z d h X Lo o 340 [.ref X, .int a, .ref o, zu] k v q := by
  obtain ⟨h', ee, M, C⟩ := C
  have ko : zK h' o = 26 := (M.1 o hl).1.trans k26
  have kn : zN h' o = 1 := (M.1 o hl).2.1.trans n1
  have st : ev z d 340 0 [.ref X, .int a, .ref o, zu] [] h = ev z d 340 4 [.ref X, .int a, .ref o, zu] [.int a, .ref X, .int (nI 0), .ref o] h := ev_fa 4 (pc' := 4) (ls' := [.ref X, .int a, .ref o, zu]) (st' := [.int a, .ref X, .int (nI 0), .ref o]) (h' := h) rfl
  rcases k with _ | k
  · refine ⟨zwJ h' o 0 v.toInt64, ?_, Mw.wJ M, CI.wJ C, fun _ => zJ_wa⟩
    refine (st.trans (e_K (ent := [.ref X, .int a, zu, zu, zu]) rfl rfl rfl (zsC_v rfl rfl rfl hX (Nat.le_of_ble_eq_true rfl)) rfl rfl ee)).trans ?_
    refine (e_if_eq (t := 14) rfl (by decide)).trans ?_
    have fin : ∀ w : Int64, ev z d 340 15 [.ref X, .int a, .ref o, zu] [.long w, .int (nI 0), .ref o] h' = some (.inl (some (.int (nI 0))), zwJ h' o 0 w) := by
      intro w
      refine (e_lastoreK (k := 0) (N := 1) rfl ko kn ⟨by decide, by decide⟩).trans ?_
      refine (ev_fa 2 (pc' := 23) (ls' := [.ref X, .int a, .ref o, zu]) (st' := [.int (nI 0)]) (h' := zwJ h' o 0 w) rfl).trans ?_
      exact e_ireti rfl rfl
    rcases hv with e | e
    · subst e
      rw [if_pos rfl]
      exact (ev_fa 1 (pc' := 15) (ls' := [.ref X, .int a, .ref o, zu]) (st' := [.long 0, .int (nI 0), .ref o]) (h' := h') rfl).trans (fin 0)
    · subst e
      rw [if_neg (by decide)]
      exact (ev_fa 2 (pc' := 15) (ls' := [.ref X, .int a, .ref o, zu]) (st' := [.long 1, .int (nI 0), .ref o]) (h' := h') rfl).trans (fin 1)
  · obtain rfl : k = 0 := by omega
    refine ⟨h', ?_, Mw.of M, C, fun q => by cases q⟩
    refine (st.trans (e_H (x := 2) (ent := [.ref X, .int a, zu, zu, zu]) (ls2 := [.ref X, .int a, .ref o, zu]) rfl rfl rfl (zsC_v rfl rfl rfl hX (Nat.le_of_ble_eq_true rfl)) rfl rfl rfl rfl rfl rfl ee)).trans ?_
    refine (ev_fa 1 (pc' := 21) (ls' := [.ref X, .int a, .ref o, zu]) (st' := [.int (nI 1)]) (h' := h') rfl).trans ?_
    exact e_ireti rfl rfl
end
