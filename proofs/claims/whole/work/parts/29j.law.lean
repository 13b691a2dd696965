/-! LAW: the method in the class, its steps -/
section
variable {z : ZE} {d : Nat} {h h' g : Hp} {X L N n j : Nat} {v : Int32}
theorem La_0 (hX : XSk h X) : ev z d 104 0 [.ref X, zu] [] h = zbd (ev z d 90 0 [.ref (X + 2), .ref (X + 1), .int (zI h X 1)] [] h) (fun v h' => ev z d 104 15 [.ref X, zu] (v.toList ++ []) h') (fun e h' => evx z d 104 12 [.ref X, zu] e h') := by
  refine (ev_fa 1 (pc' := 1) (ls' := [.ref X, zu]) (st' := [.ref X]) (h' := h) rfl).trans ?_
  refine (e_getR rfl rfl rfl (XSk_K hX) (XSk_R2 hX)).trans ?_
  refine (ev_fa 1 (pc' := 5) (ls' := [.ref X, zu]) (st' := [.ref X, .ref (X + 2)]) (h' := h) rfl).trans ?_
  refine (e_getR rfl rfl rfl (XSk_K hX) (XSk_R0 hX)).trans ?_
  refine (ev_fa 1 (pc' := 9) (ls' := [.ref X, zu]) (st' := [.ref X, .ref (X + 1), .ref (X + 2)]) (h' := h) rfl).trans ?_
  refine (e_getI rfl rfl (fun _ _ => rfl) (XSk_K hX)).trans ?_
  exact e_cb (ent := [.ref (X + 2), .ref (X + 1), .int (zI h X 1)]) rfl rfl rfl (zsC_v rfl rfl rfl (XSk_Kr hX) (Nat.le_of_ble_eq_true rfl)) rfl rfl rfl
theorem La_15 : ev z d 104 15 [.ref X, zu] [] h = ev z d 104 18 [.ref X, zu] [.ref (zT h)] (znw h 4 7) := e_new (ci := 3) rfl rfl rfl
theorem La_18 (hk : zK h X = 10) (hl : zK h L = 4) (hc : ev z d 18 0 [.ref L, .int (zI h X 1)] [] h = some (.inl none, h')) : ev z d 104 18 [.ref X, zu] [.ref L] h = ev z d 104 26 [.ref X, zu] [.ref L] h' := by
  refine (ev_fa 2 (pc' := 20) (ls' := [.ref X, zu]) (st' := [.ref X, .ref L, .ref L]) (h' := h) rfl).trans ?_
  refine (e_getI rfl rfl (fun _ _ => rfl) hk).trans ?_
  exact e_K (ent := [.ref L, .int (zI h X 1)]) rfl rfl rfl (zsC_i rfl rfl rfl rfl hl (Nat.le_of_ble_eq_true rfl)) rfl rfl hc
theorem La_26 (hX : XSk h X) : ev z d 104 26 [.ref X, zu] [.ref L] h = zbd (ev z d 24 0 [.ref L, .ref (X + 2), zu, zu, zu] [] (zwI h X 1 (nI 0))) (fun v h' => ev z d 104 40 [.ref X, .ref L] (v.toList ++ []) h') (fun e h' => evx z d 104 37 [.ref X, .ref L] e h') := by
  refine (ev_fa 3 (pc' := 29) (ls' := [.ref X, .ref L]) (st' := [.int (nI 0), .ref X]) (h' := h) rfl).trans ?_
  refine (e_putI rfl rfl rfl rfl (XSk_K hX)).trans ?_
  refine (ev_fa 2 (pc' := 34) (ls' := [.ref X, .ref L]) (st' := [.ref X, .ref L]) (h' := zwI h X 1 (nI 0)) rfl).trans ?_
  refine (e_getR rfl rfl rfl (XSk_K (h := zwI h X 1 (nI 0)) hX) (XSk_R2 (h := zwI h X 1 (nI 0)) hX)).trans ?_
  exact e_cb (ent := [.ref L, .ref (X + 2), zu, zu, zu]) rfl rfl rfl (zsC_s rfl rfl rfl rfl) rfl rfl rfl
theorem La_40 (hX : XSk h X) : ev z d 104 40 [.ref X, .ref L] [] h = zbd (ev z d 163 0 [.ref X] [] (zwR h (X + 4) 12 (some L))) (fun v h' => ev z d 104 52 [.ref X, .ref L] (v.toList ++ []) h') (fun e h' => evx z d 104 49 [.ref X, .ref L] e h') := by
  refine (ev_fa 1 (pc' := 41) (ls' := [.ref X, .ref L]) (st' := [.ref X]) (h' := h) rfl).trans ?_
  refine (e_getR rfl rfl rfl (XSk_K hX) (XSk_R3 hX)).trans ?_
  refine (ev_fa 1 (pc' := 45) (ls' := [.ref X, .ref L]) (st' := [.ref L, .ref (X + 4)]) (h' := h) rfl).trans ?_
  refine (e_putR rfl rfl rfl rfl (PSk_K (XSk_P3 hX))).trans ?_
  refine (ev_fa 1 (pc' := 49) (ls' := [.ref X, .ref L]) (st' := [.ref X]) (h' := zwR h (X + 4) 12 (some L)) rfl).trans ?_
  exact e_cb (ent := [.ref X]) rfl rfl rfl (zsC_v rfl rfl rfl (show zK (zwR h (X + 4) 12 (some L)) X = 10 from (XSk_K hX : zK h X = 10)) (Nat.le_of_ble_eq_true rfl)) rfl rfl rfl
theorem La_52 (hl : zK h L = 4) : ev z d 104 52 [.ref X, .ref L] [] h = some (.inl (some (.int (zI h L 5))), h) := by
  refine (ev_fa 1 (pc' := 53) (ls' := [.ref X, .ref L]) (st' := [.ref L]) (h' := h) rfl).trans ?_
  refine (e_getI rfl rfl (fun _ _ => rfl) hl).trans ?_
  exact e_ireti rfl rfl
end
