/-! THE LAW'S BRANCHES -/
section
variable {z : ZE} {b L X R o : Nat} {xs : Nat → Int32}
theorem B_0 (hL : L ≤ 384) : Br z b L X R o xs 272 := by
  intro j h w5 w6 hj I
  obtain ⟨S, ls, Lo, K, A, tl, T, ft, s, C, H, ok, n, hT⟩ := I.un
  obtain ⟨vv, h1, h2, e1, s1, r1, e2, I2⟩ := both_V s C H n (CE_feed (d := 8) C) (O_feed ok) (m2 := 190) (as2 := [.ref R, .int (xs (6 * j + 1)), .int (xs (6 * j + 2)), .int (xs (6 * j + 3)), .int (xs (6 * j + 4)), .int (xs (6 * j + 5)), zu, zu]) (fun h1 M1 => RE_feed (d := 8) M1.2.2.1)
  refine ⟨w5, w6, h2, ?_, I2⟩
  refine (ev_fw Tb_0 1 (pc := 272) (pc' := 273) (ls' := (lsW b X R o (nI (6 * j)) w5 w6)) (st' := [.ref X]) (h' := h) rfl).trans ?_
  refine (e_arg (p := 273) (cn := 1) (ls := (lsW b X R o (nI (6 * j)) w5 w6)) (st := [.ref X]) Tb_0 rfl rfl s (by omega) hL).trans ?_
  refine (e_arg (p := 279) (cn := 2) (ls := (lsW b X R o (nI (6 * j)) w5 w6)) (st := [.int (xs (6 * j + 1)), .ref X]) Tb_0 rfl rfl s (by omega) hL).trans ?_
  refine (e_arg (p := 285) (cn := 3) (ls := (lsW b X R o (nI (6 * j)) w5 w6)) (st := [.int (xs (6 * j + 2)), .int (xs (6 * j + 1)), .ref X]) Tb_0 rfl rfl s (by omega) hL).trans ?_
  refine (e_arg (p := 291) (cn := 4) (ls := (lsW b X R o (nI (6 * j)) w5 w6)) (st := [.int (xs (6 * j + 3)), .int (xs (6 * j + 2)), .int (xs (6 * j + 1)), .ref X]) Tb_0 rfl rfl s (by omega) hL).trans ?_
  refine (e_arg (p := 297) (cn := 5) (ls := (lsW b X R o (nI (6 * j)) w5 w6)) (st := [.int (xs (6 * j + 4)), .int (xs (6 * j + 3)), .int (xs (6 * j + 2)), .int (xs (6 * j + 1)), .ref X]) Tb_0 rfl rfl s (by omega) hL).trans ?_
  refine (e_K (pc := 303) (m := 101) (rest := []) (ent := [.ref X, .int (xs (6 * j + 1)), .int (xs (6 * j + 2)), .int (xs (6 * j + 3)), .int (xs (6 * j + 4)), .int (xs (6 * j + 5))]) (Tb_0 _ _ rfl) rfl rfl (zsC_v rfl rfl rfl (XSk_K C.1.1) (Nat.le_of_ble_eq_true rfl)) rfl rfl e1).trans ?_
  refine (ev_fw Tb_0 1 (pc := 306) (pc' := 307) (ls' := (lsW b X R o (nI (6 * j)) w5 w6)) (st' := [.ref R, .int vv]) (h' := h1) rfl).trans ?_
  refine (e_arg (p := 307) (cn := 1) (ls := (lsW b X R o (nI (6 * j)) w5 w6)) (st := [.ref R, .int vv]) Tb_0 rfl rfl s1 (by omega) hL).trans ?_
  refine (e_arg (p := 313) (cn := 2) (ls := (lsW b X R o (nI (6 * j)) w5 w6)) (st := [.int (xs (6 * j + 1)), .ref R, .int vv]) Tb_0 rfl rfl s1 (by omega) hL).trans ?_
  refine (e_arg (p := 319) (cn := 3) (ls := (lsW b X R o (nI (6 * j)) w5 w6)) (st := [.int (xs (6 * j + 2)), .int (xs (6 * j + 1)), .ref R, .int vv]) Tb_0 rfl rfl s1 (by omega) hL).trans ?_
  refine (e_arg (p := 325) (cn := 4) (ls := (lsW b X R o (nI (6 * j)) w5 w6)) (st := [.int (xs (6 * j + 3)), .int (xs (6 * j + 2)), .int (xs (6 * j + 1)), .ref R, .int vv]) Tb_0 rfl rfl s1 (by omega) hL).trans ?_
  refine (e_arg (p := 331) (cn := 5) (ls := (lsW b X R o (nI (6 * j)) w5 w6)) (st := [.int (xs (6 * j + 4)), .int (xs (6 * j + 3)), .int (xs (6 * j + 2)), .int (xs (6 * j + 1)), .ref R, .int vv]) Tb_0 rfl rfl s1 (by omega) hL).trans ?_
  refine (e_K (pc := 337) (m := 190) (rest := [.int vv]) (ent := [.ref R, .int (xs (6 * j + 1)), .int (xs (6 * j + 2)), .int (xs (6 * j + 3)), .int (xs (6 * j + 4)), .int (xs (6 * j + 5)), zu, zu]) (Tb_0 _ _ rfl) rfl rfl (zsC_v rfl rfl rfl (RSk_K r1) (Nat.le_of_ble_eq_true rfl)) rfl rfl e2).trans ?_
  refine (e_icmp_eq (pc := 340) (t := 2944) (Tb_0 _ _ rfl) (by omega)).trans ?_
  exact if_pos rfl
theorem B_1 (hL : L ≤ 384) : Br z b L X R o xs 345 := by
  intro j h w5 w6 hj I
  obtain ⟨S, ls, Lo, K, A, tl, T, ft, s, C, H, ok, n, hT⟩ := I.un
  obtain ⟨vv, h1, h2, e1, s1, r1, e2, I2⟩ := both_V s C H n (CE_end (d := 8) C) (O_end ok) (m2 := 191) (as2 := [.ref R, .int (xs (6 * j + 1))]) (fun h1 M1 => RE_end (d := 8) M1.2.2.1)
  refine ⟨w5, w6, h2, ?_, I2⟩
  refine (ev_fw Tb_1 1 (pc := 345) (pc' := 346) (ls' := (lsW b X R o (nI (6 * j)) w5 w6)) (st' := [.ref X]) (h' := h) rfl).trans ?_
  refine (e_arg (p := 346) (cn := 1) (ls := (lsW b X R o (nI (6 * j)) w5 w6)) (st := [.ref X]) Tb_1 rfl rfl s (by omega) hL).trans ?_
  refine (e_K (pc := 352) (m := 102) (rest := []) (ent := [.ref X, .int (xs (6 * j + 1))]) (Tb_1 _ _ rfl) rfl rfl (zsC_v rfl rfl rfl (XSk_K C.1.1) (Nat.le_of_ble_eq_true rfl)) rfl rfl e1).trans ?_
  refine (ev_fw Tb_1 1 (pc := 355) (pc' := 356) (ls' := (lsW b X R o (nI (6 * j)) w5 w6)) (st' := [.ref R, .int vv]) (h' := h1) rfl).trans ?_
  refine (e_arg (p := 356) (cn := 1) (ls := (lsW b X R o (nI (6 * j)) w5 w6)) (st := [.ref R, .int vv]) Tb_1 rfl rfl s1 (by omega) hL).trans ?_
  refine (e_K (pc := 362) (m := 191) (rest := [.int vv]) (ent := [.ref R, .int (xs (6 * j + 1))]) (Tb_1 _ _ rfl) rfl rfl (zsC_v rfl rfl rfl (RSk_K r1) (Nat.le_of_ble_eq_true rfl)) rfl rfl e2).trans ?_
  refine (e_icmp_eq (pc := 365) (t := 2944) (Tb_1 _ _ rfl) (by omega)).trans ?_
  exact if_pos rfl
theorem B_2 (hL : L ≤ 384) : Br z b L X R o xs 370 := by
  intro j h w5 w6 hj I
  obtain ⟨S, ls, Lo, K, A, tl, T, ft, s, C, H, ok, n, hT⟩ := I.un
  obtain ⟨kk, h1, vv, h2, k3, e1, s1, r1, e2, t2, r2, hk, hb, I2⟩ := both_W (fun _ => True) s C H n (Wr_317  (XSk_K C.1.1) s.ol s.2.2.1.1 s.2.2.1.2 (by (first | omega | (unfold poK; repeat' split) <;> omega)) (C_port (d := 8) s.2.2.2.1 C ok hT)) (by (first | omega | (unfold poK; repeat' split) <;> omega)) (O_port ok) trivial (m2 := 213) (as2 := [.ref R, zu]) (fun h1 M1 => R_port (d := 8) M1.2.1.1.2.1 M1.2.2.1 ok)
  clear n hT
  refine ⟨.int (nI kk), .int vv, h2, ?_, I2⟩
  refine (ev_fw Tb_2 1 (pc := 370) (pc' := 371) (ls' := (lsW b X R o (nI (6 * j)) w5 w6)) (st' := [.ref X]) (h' := h) rfl).trans ?_
  refine (ev_fw Tb_2 1 (pc := 371) (pc' := 372) (ls' := (lsW b X R o (nI (6 * j)) w5 w6)) (st' := [.ref o, .ref X]) (h' := h) rfl).trans ?_
  refine (e_K (pc := 372) (m := 317) (rest := []) (ent := [.ref X, .ref o, zu]) (Tb_2 _ _ rfl) rfl rfl rfl rfl rfl e1).trans ?_
  refine (ev_fw Tb_2 1 (pc := 375) (pc' := 377) (ls' := (lsW b X R o (nI (6 * j)) (.int (nI kk)) w6)) (st' := []) (h' := h1) rfl).trans ?_
  refine (ev_fw Tb_2 1 (pc := 377) (pc' := 378) (ls' := (lsW b X R o (nI (6 * j)) (.int (nI kk)) w6)) (st' := [.ref R]) (h' := h1) rfl).trans ?_
  refine (e_K (pc := 378) (m := 213) (rest := []) (ent := [.ref R, zu]) (Tb_2 _ _ rfl) rfl rfl (zsC_v rfl rfl rfl (RSk_K r1) (Nat.le_of_ble_eq_true rfl)) rfl rfl e2).trans ?_
  exact tailW (p := 381) Tb_2 r2 t2 hk k3 I2.1.2.2.1.1 I2.1.2.2.1.2 rfl rfl rfl rfl rfl rfl rfl rfl rfl rfl rfl
theorem B_3 (hL : L ≤ 384) : Br z b L X R o xs 414 := by
  intro j h w5 w6 hj I
  obtain ⟨S, ls, Lo, K, A, tl, T, ft, s, C, H, ok, n, hT⟩ := I.un
  obtain ⟨L', CL⟩ := C_law (d := 1) s.2.2.2.1 C ok hT
  obtain ⟨kk, h1, vv, h2, k3, e1, s1, r1, e2, t2, r2, hk, hb, I2⟩ := both_W (fun _ => True) s C H n (Wr_318  (XSk_K C.1.1) s.ol s.2.2.1.1 s.2.2.1.2 (by (first | omega | (unfold laK; repeat' split) <;> omega)) (CL)) (by (first | omega | (unfold laK; repeat' split) <;> omega)) (O_law (L := L') C.2.2.1.2.1 ok) trivial (m2 := 221) (as2 := [.ref R, zu, zu]) (fun h1 M1 => R_laws (d := 1) (L := L') M1.2.1.1.2.1 M1.1.2.2.2.2 (Nat.le_trans (Nat.le_add_right _ _) M1.1.1.2.1) M1.2.2.1)
  clear n hT
  refine ⟨.int (nI kk), .int vv, h2, ?_, I2⟩
  refine (ev_fw Tb_3 1 (pc := 414) (pc' := 415) (ls' := (lsW b X R o (nI (6 * j)) w5 w6)) (st' := [.ref X]) (h' := h) rfl).trans ?_
  refine (ev_fw Tb_3 1 (pc := 415) (pc' := 416) (ls' := (lsW b X R o (nI (6 * j)) w5 w6)) (st' := [.ref o, .ref X]) (h' := h) rfl).trans ?_
  refine (e_K (pc := 416) (m := 318) (rest := []) (ent := [.ref X, .ref o, zu]) (Tb_3 _ _ rfl) rfl rfl rfl rfl rfl e1).trans ?_
  refine (ev_fw Tb_3 1 (pc := 419) (pc' := 421) (ls' := (lsW b X R o (nI (6 * j)) (.int (nI kk)) w6)) (st' := []) (h' := h1) rfl).trans ?_
  refine (ev_fw Tb_3 1 (pc := 421) (pc' := 422) (ls' := (lsW b X R o (nI (6 * j)) (.int (nI kk)) w6)) (st' := [.ref R]) (h' := h1) rfl).trans ?_
  refine (e_K (pc := 422) (m := 221) (rest := []) (ent := [.ref R, zu, zu]) (Tb_3 _ _ rfl) rfl rfl (zsC_v rfl rfl rfl (RSk_K r1) (Nat.le_of_ble_eq_true rfl)) rfl rfl e2).trans ?_
  exact tailW (p := 425) Tb_3 r2 t2 hk k3 I2.1.2.2.1.1 I2.1.2.2.1.2 rfl rfl rfl rfl rfl rfl rfl rfl rfl rfl rfl
end
