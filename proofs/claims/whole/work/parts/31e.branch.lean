/-! THE LAW'S BRANCHES -/
section
variable {z : ZE} {b L X R o : Nat} {xs : Nat → Int32}
theorem B_4 (hL : L ≤ 384) : Br z b L X R o xs 458 := by
  intro j h w5 w6 hj I
  obtain ⟨S, ls, Lo, K, A, tl, T, ft, s, C, H, ok, n, hT⟩ := I.un
  obtain ⟨vv, h1, h2, e1, s1, r1, e2, I2⟩ := both_V s C H n (CE_fault (d := 8) C) ok (m2 := 222) (as2 := [.ref R]) (fun h1 M1 => RE_fault (d := 8) M1.2.2.1)
  refine ⟨w5, w6, h2, ?_, I2⟩
  refine (ev_fw Tb_4 1 (pc := 458) (pc' := 459) (ls' := (lsW b X R o (nI (6 * j)) w5 w6)) (st' := [.ref X]) (h' := h) rfl).trans ?_
  refine (e_K (pc := 459) (m := 105) (rest := []) (ent := [.ref X]) (Tb_4 _ _ rfl) rfl rfl (zsC_v rfl rfl rfl (XSk_K C.1.1) (Nat.le_of_ble_eq_true rfl)) rfl rfl e1).trans ?_
  refine (ev_fw Tb_4 1 (pc := 462) (pc' := 463) (ls' := (lsW b X R o (nI (6 * j)) w5 w6)) (st' := [.ref R, .int vv]) (h' := h1) rfl).trans ?_
  refine (e_K (pc := 463) (m := 222) (rest := [.int vv]) (ent := [.ref R]) (Tb_4 _ _ rfl) rfl rfl (zsC_v rfl rfl rfl (RSk_K r1) (Nat.le_of_ble_eq_true rfl)) rfl rfl e2).trans ?_
  refine (e_icmp_eq (pc := 466) (t := 2944) (Tb_4 _ _ rfl) (by omega)).trans ?_
  exact if_pos rfl
theorem B_5 (hL : L ≤ 384) : Br z b L X R o xs 471 := by
  intro j h w5 w6 hj I
  obtain ⟨S, ls, Lo, K, A, tl, T, ft, s, C, H, ok, n, hT⟩ := I.un
  obtain ⟨kk, h1, vv, h2, k3, e1, s1, r1, e2, t2, r2, hk, hb, I2⟩ := both_W (fun _ => True) s C H n (Wr_319 (a := (xs (6 * j + 1))) (b := (xs (6 * j + 2))) (XSk_K C.1.1) s.ol s.2.2.1.1 s.2.2.1.2 (by (first | omega | (repeat' split) <;> omega)) (C_party (d := 8) s.2.2.2.1 C ok.1.1)) (by (first | omega | (repeat' split) <;> omega)) ok trivial (m2 := 235) (as2 := [.ref R, .int (xs (6 * j + 1)), .int (xs (6 * j + 2))]) (fun h1 M1 => R_party (d := 8) M1.2.2.1 ok.1.1)
  clear n hT
  refine ⟨.int (nI kk), .int vv, h2, ?_, I2⟩
  refine (ev_fw Tb_5 1 (pc := 471) (pc' := 472) (ls' := (lsW b X R o (nI (6 * j)) w5 w6)) (st' := [.ref X]) (h' := h) rfl).trans ?_
  refine (e_arg (p := 472) (cn := 1) (ls := (lsW b X R o (nI (6 * j)) w5 w6)) (st := [.ref X]) Tb_5 rfl rfl s (by omega) hL).trans ?_
  refine (e_arg (p := 478) (cn := 2) (ls := (lsW b X R o (nI (6 * j)) w5 w6)) (st := [.int (xs (6 * j + 1)), .ref X]) Tb_5 rfl rfl s (by omega) hL).trans ?_
  refine (ev_fw Tb_5 1 (pc := 484) (pc' := 485) (ls' := (lsW b X R o (nI (6 * j)) w5 w6)) (st' := [.ref o, .int (xs (6 * j + 2)), .int (xs (6 * j + 1)), .ref X]) (h' := h) rfl).trans ?_
  refine (e_K (pc := 485) (m := 319) (rest := []) (ent := [.ref X, .int (xs (6 * j + 1)), .int (xs (6 * j + 2)), .ref o, zu]) (Tb_5 _ _ rfl) rfl rfl rfl rfl rfl e1).trans ?_
  refine (ev_fw Tb_5 1 (pc := 488) (pc' := 490) (ls' := (lsW b X R o (nI (6 * j)) (.int (nI kk)) w6)) (st' := []) (h' := h1) rfl).trans ?_
  refine (ev_fw Tb_5 1 (pc := 490) (pc' := 491) (ls' := (lsW b X R o (nI (6 * j)) (.int (nI kk)) w6)) (st' := [.ref R]) (h' := h1) rfl).trans ?_
  refine (e_arg (p := 491) (cn := 1) (ls := (lsW b X R o (nI (6 * j)) (.int (nI kk)) w6)) (st := [.ref R]) Tb_5 rfl rfl s1 (by omega) hL).trans ?_
  refine (e_arg (p := 497) (cn := 2) (ls := (lsW b X R o (nI (6 * j)) (.int (nI kk)) w6)) (st := [.int (xs (6 * j + 1)), .ref R]) Tb_5 rfl rfl s1 (by omega) hL).trans ?_
  refine (e_K (pc := 503) (m := 235) (rest := []) (ent := [.ref R, .int (xs (6 * j + 1)), .int (xs (6 * j + 2))]) (Tb_5 _ _ rfl) rfl rfl (zsC_v rfl rfl rfl (RSk_K r1) (Nat.le_of_ble_eq_true rfl)) rfl rfl e2).trans ?_
  exact tailW (p := 506) Tb_5 r2 t2 hk k3 I2.1.2.2.1.1 I2.1.2.2.1.2 rfl rfl rfl rfl rfl rfl rfl rfl rfl rfl rfl
theorem B_6 (hL : L ≤ 384) : Br z b L X R o xs 539 := by
  intro j h w5 w6 hj I
  obtain ⟨S, ls, Lo, K, A, tl, T, ft, s, C, H, ok, n, hT⟩ := I.un
  obtain ⟨kk, h1, vv, h2, k3, e1, s1, r1, e2, t2, r2, hk, hb, I2⟩ := both_W (fun _ => True) s C H n (Wr_320 (a := (xs (6 * j + 1))) (b := (xs (6 * j + 2))) (XSk_K C.1.1) s.ol s.2.2.1.1 s.2.2.1.2 (by (first | omega | (repeat' split) <;> omega)) (C_ink (d := 8) s.2.2.2.1 C ok.1.1)) (by (first | omega | (repeat' split) <;> omega)) ok trivial (m2 := 237) (as2 := [.ref R, .int (xs (6 * j + 1)), .int (xs (6 * j + 2))]) (fun h1 M1 => R_ink (d := 8) M1.2.2.1 ok.1.1)
  clear n hT
  refine ⟨.int (nI kk), .int vv, h2, ?_, I2⟩
  refine (ev_fw Tb_6 1 (pc := 539) (pc' := 540) (ls' := (lsW b X R o (nI (6 * j)) w5 w6)) (st' := [.ref X]) (h' := h) rfl).trans ?_
  refine (e_arg (p := 540) (cn := 1) (ls := (lsW b X R o (nI (6 * j)) w5 w6)) (st := [.ref X]) Tb_6 rfl rfl s (by omega) hL).trans ?_
  refine (e_arg (p := 546) (cn := 2) (ls := (lsW b X R o (nI (6 * j)) w5 w6)) (st := [.int (xs (6 * j + 1)), .ref X]) Tb_6 rfl rfl s (by omega) hL).trans ?_
  refine (ev_fw Tb_6 1 (pc := 552) (pc' := 553) (ls' := (lsW b X R o (nI (6 * j)) w5 w6)) (st' := [.ref o, .int (xs (6 * j + 2)), .int (xs (6 * j + 1)), .ref X]) (h' := h) rfl).trans ?_
  refine (e_K (pc := 553) (m := 320) (rest := []) (ent := [.ref X, .int (xs (6 * j + 1)), .int (xs (6 * j + 2)), .ref o, zu]) (Tb_6 _ _ rfl) rfl rfl rfl rfl rfl e1).trans ?_
  refine (ev_fw Tb_6 1 (pc := 556) (pc' := 558) (ls' := (lsW b X R o (nI (6 * j)) (.int (nI kk)) w6)) (st' := []) (h' := h1) rfl).trans ?_
  refine (ev_fw Tb_6 1 (pc := 558) (pc' := 559) (ls' := (lsW b X R o (nI (6 * j)) (.int (nI kk)) w6)) (st' := [.ref R]) (h' := h1) rfl).trans ?_
  refine (e_arg (p := 559) (cn := 1) (ls := (lsW b X R o (nI (6 * j)) (.int (nI kk)) w6)) (st := [.ref R]) Tb_6 rfl rfl s1 (by omega) hL).trans ?_
  refine (e_arg (p := 565) (cn := 2) (ls := (lsW b X R o (nI (6 * j)) (.int (nI kk)) w6)) (st := [.int (xs (6 * j + 1)), .ref R]) Tb_6 rfl rfl s1 (by omega) hL).trans ?_
  refine (e_K (pc := 571) (m := 237) (rest := []) (ent := [.ref R, .int (xs (6 * j + 1)), .int (xs (6 * j + 2))]) (Tb_6 _ _ rfl) rfl rfl (zsC_v rfl rfl rfl (RSk_K r1) (Nat.le_of_ble_eq_true rfl)) rfl rfl e2).trans ?_
  exact tailW (p := 574) Tb_6 r2 t2 hk k3 I2.1.2.2.1.1 I2.1.2.2.1.2 rfl rfl rfl rfl rfl rfl rfl rfl rfl rfl rfl
theorem B_7 (hL : L ≤ 384) : Br z b L X R o xs 607 := by
  intro j h w5 w6 hj I
  obtain ⟨S, ls, Lo, K, A, tl, T, ft, s, C, H, ok, n, hT⟩ := I.un
  obtain ⟨kk, h1, vv, h2, k3, e1, s1, r1, e2, t2, r2, hk, hb, I2⟩ := both_W (fun _ => True) s C H n (Wr_321 (a := (xs (6 * j + 1))) (b := (xs (6 * j + 2))) (XSk_K C.1.1) s.ol s.2.2.1.1 s.2.2.1.2 (by (first | omega | (unfold deK; repeat' split) <;> omega)) (C_deed (d := 8) s.2.2.2.1 C ok)) (by (first | omega | (unfold deK; repeat' split) <;> omega)) ok trivial (m2 := 238) (as2 := [.ref R, .int (xs (6 * j + 1)), .int (xs (6 * j + 2))]) (fun h1 M1 => R_deed (d := 1) M1.2.1.1.2.1 M1.2.2.1 ok)
  clear n hT
  refine ⟨.int (nI kk), .int vv, h2, ?_, I2⟩
  refine (ev_fw Tb_7 1 (pc := 607) (pc' := 608) (ls' := (lsW b X R o (nI (6 * j)) w5 w6)) (st' := [.ref X]) (h' := h) rfl).trans ?_
  refine (e_arg (p := 608) (cn := 1) (ls := (lsW b X R o (nI (6 * j)) w5 w6)) (st := [.ref X]) Tb_7 rfl rfl s (by omega) hL).trans ?_
  refine (e_arg (p := 614) (cn := 2) (ls := (lsW b X R o (nI (6 * j)) w5 w6)) (st := [.int (xs (6 * j + 1)), .ref X]) Tb_7 rfl rfl s (by omega) hL).trans ?_
  refine (ev_fw Tb_7 1 (pc := 620) (pc' := 621) (ls' := (lsW b X R o (nI (6 * j)) w5 w6)) (st' := [.ref o, .int (xs (6 * j + 2)), .int (xs (6 * j + 1)), .ref X]) (h' := h) rfl).trans ?_
  refine (e_K (pc := 621) (m := 321) (rest := []) (ent := [.ref X, .int (xs (6 * j + 1)), .int (xs (6 * j + 2)), .ref o, zu]) (Tb_7 _ _ rfl) rfl rfl rfl rfl rfl e1).trans ?_
  refine (ev_fw Tb_7 1 (pc := 624) (pc' := 626) (ls' := (lsW b X R o (nI (6 * j)) (.int (nI kk)) w6)) (st' := []) (h' := h1) rfl).trans ?_
  refine (ev_fw Tb_7 1 (pc := 626) (pc' := 627) (ls' := (lsW b X R o (nI (6 * j)) (.int (nI kk)) w6)) (st' := [.ref R]) (h' := h1) rfl).trans ?_
  refine (e_arg (p := 627) (cn := 1) (ls := (lsW b X R o (nI (6 * j)) (.int (nI kk)) w6)) (st := [.ref R]) Tb_7 rfl rfl s1 (by omega) hL).trans ?_
  refine (e_arg (p := 633) (cn := 2) (ls := (lsW b X R o (nI (6 * j)) (.int (nI kk)) w6)) (st := [.int (xs (6 * j + 1)), .ref R]) Tb_7 rfl rfl s1 (by omega) hL).trans ?_
  refine (e_K (pc := 639) (m := 238) (rest := []) (ent := [.ref R, .int (xs (6 * j + 1)), .int (xs (6 * j + 2))]) (Tb_7 _ _ rfl) rfl rfl (zsC_v rfl rfl rfl (RSk_K r1) (Nat.le_of_ble_eq_true rfl)) rfl rfl e2).trans ?_
  exact tailW (p := 642) Tb_7 r2 t2 hk k3 I2.1.2.2.1.1 I2.1.2.2.1.2 rfl rfl rfl rfl rfl rfl rfl rfl rfl rfl rfl
theorem B_8 (hL : L ≤ 384) : Br z b L X R o xs 675 := by
  intro j h w5 w6 hj I
  obtain ⟨S, ls, Lo, K, A, tl, T, ft, s, C, H, ok, n, hT⟩ := I.un
  obtain ⟨kk, h1, vv, h2, k3, e1, s1, r1, e2, t2, r2, hk, hb, I2⟩ := both_W (fun _ => True) s C H n (Wr_322 (a := (xs (6 * j + 1))) (XSk_K C.1.1) s.ol s.2.2.1.1 s.2.2.1.2 (by (first | omega | (repeat' split) <;> omega)) (C_seasons (d := 8) s.2.2.2.1 C ok)) (by (first | omega | (repeat' split) <;> omega)) (O_seasons ok) trivial (m2 := 241) (as2 := [.ref R, .int (xs (6 * j + 1))]) (fun h1 M1 => R_seasons (d := 1) M1.2.1.1.2.1 M1.2.2.1 ok)
  clear n hT
  refine ⟨.int (nI kk), .int vv, h2, ?_, I2⟩
  refine (ev_fw Tb_8 1 (pc := 675) (pc' := 676) (ls' := (lsW b X R o (nI (6 * j)) w5 w6)) (st' := [.ref X]) (h' := h) rfl).trans ?_
  refine (e_arg (p := 676) (cn := 1) (ls := (lsW b X R o (nI (6 * j)) w5 w6)) (st := [.ref X]) Tb_8 rfl rfl s (by omega) hL).trans ?_
  refine (ev_fw Tb_8 1 (pc := 682) (pc' := 683) (ls' := (lsW b X R o (nI (6 * j)) w5 w6)) (st' := [.ref o, .int (xs (6 * j + 1)), .ref X]) (h' := h) rfl).trans ?_
  refine (e_K (pc := 683) (m := 322) (rest := []) (ent := [.ref X, .int (xs (6 * j + 1)), .ref o, zu]) (Tb_8 _ _ rfl) rfl rfl rfl rfl rfl e1).trans ?_
  refine (ev_fw Tb_8 1 (pc := 686) (pc' := 688) (ls' := (lsW b X R o (nI (6 * j)) (.int (nI kk)) w6)) (st' := []) (h' := h1) rfl).trans ?_
  refine (ev_fw Tb_8 1 (pc := 688) (pc' := 689) (ls' := (lsW b X R o (nI (6 * j)) (.int (nI kk)) w6)) (st' := [.ref R]) (h' := h1) rfl).trans ?_
  refine (e_arg (p := 689) (cn := 1) (ls := (lsW b X R o (nI (6 * j)) (.int (nI kk)) w6)) (st := [.ref R]) Tb_8 rfl rfl s1 (by omega) hL).trans ?_
  refine (e_K (pc := 695) (m := 241) (rest := []) (ent := [.ref R, .int (xs (6 * j + 1))]) (Tb_8 _ _ rfl) rfl rfl (zsC_v rfl rfl rfl (RSk_K r1) (Nat.le_of_ble_eq_true rfl)) rfl rfl e2).trans ?_
  exact tailW (p := 698) Tb_8 r2 t2 hk k3 I2.1.2.2.1.1 I2.1.2.2.1.2 rfl rfl rfl rfl rfl rfl rfl rfl rfl rfl rfl
theorem B_9 (hL : L ≤ 384) : Br z b L X R o xs 731 := by
  intro j h w5 w6 hj I
  obtain ⟨S, ls, Lo, K, A, tl, T, ft, s, C, H, ok, n, hT⟩ := I.un
  obtain ⟨kk, h1, vv, h2, k3, e1, s1, r1, e2, t2, r2, hk, hb, I2⟩ := both_W (fun _ => True) s C H n (Wr_323 (a := (xs (6 * j + 1))) (b := (xs (6 * j + 2))) (c := (xs (6 * j + 3))) (e := (xs (6 * j + 4))) (f := (xs (6 * j + 5))) (XSk_K C.1.1) s.ol s.2.2.1.1 s.2.2.1.2 (by (first | omega | (unfold wrK; repeat' split) <;> omega)) (C_write (d := 8) s.2.2.2.1 C ok.1.1)) (by (first | omega | (unfold wrK; repeat' split) <;> omega)) (O_write ok) trivial (m2 := 242) (as2 := [.ref R, .int (xs (6 * j + 1)), .int (xs (6 * j + 2)), .int (xs (6 * j + 3)), .int (xs (6 * j + 4)), .int (xs (6 * j + 5))]) (fun h1 M1 => R_write (d := 8) M1.2.2.1 ok.1.1)
  clear n hT
  refine ⟨.int (nI kk), .int vv, h2, ?_, I2⟩
  refine (ev_fw Tb_9 1 (pc := 731) (pc' := 732) (ls' := (lsW b X R o (nI (6 * j)) w5 w6)) (st' := [.ref X]) (h' := h) rfl).trans ?_
  refine (e_arg (p := 732) (cn := 1) (ls := (lsW b X R o (nI (6 * j)) w5 w6)) (st := [.ref X]) Tb_9 rfl rfl s (by omega) hL).trans ?_
  refine (e_arg (p := 738) (cn := 2) (ls := (lsW b X R o (nI (6 * j)) w5 w6)) (st := [.int (xs (6 * j + 1)), .ref X]) Tb_9 rfl rfl s (by omega) hL).trans ?_
  refine (e_arg (p := 744) (cn := 3) (ls := (lsW b X R o (nI (6 * j)) w5 w6)) (st := [.int (xs (6 * j + 2)), .int (xs (6 * j + 1)), .ref X]) Tb_9 rfl rfl s (by omega) hL).trans ?_
  refine (e_arg (p := 750) (cn := 4) (ls := (lsW b X R o (nI (6 * j)) w5 w6)) (st := [.int (xs (6 * j + 3)), .int (xs (6 * j + 2)), .int (xs (6 * j + 1)), .ref X]) Tb_9 rfl rfl s (by omega) hL).trans ?_
  refine (e_arg (p := 756) (cn := 5) (ls := (lsW b X R o (nI (6 * j)) w5 w6)) (st := [.int (xs (6 * j + 4)), .int (xs (6 * j + 3)), .int (xs (6 * j + 2)), .int (xs (6 * j + 1)), .ref X]) Tb_9 rfl rfl s (by omega) hL).trans ?_
  refine (ev_fw Tb_9 1 (pc := 762) (pc' := 763) (ls' := (lsW b X R o (nI (6 * j)) w5 w6)) (st' := [.ref o, .int (xs (6 * j + 5)), .int (xs (6 * j + 4)), .int (xs (6 * j + 3)), .int (xs (6 * j + 2)), .int (xs (6 * j + 1)), .ref X]) (h' := h) rfl).trans ?_
  refine (e_K (pc := 763) (m := 323) (rest := []) (ent := [.ref X, .int (xs (6 * j + 1)), .int (xs (6 * j + 2)), .int (xs (6 * j + 3)), .int (xs (6 * j + 4)), .int (xs (6 * j + 5)), .ref o, zu]) (Tb_9 _ _ rfl) rfl rfl rfl rfl rfl e1).trans ?_
  refine (ev_fw Tb_9 1 (pc := 766) (pc' := 768) (ls' := (lsW b X R o (nI (6 * j)) (.int (nI kk)) w6)) (st' := []) (h' := h1) rfl).trans ?_
  refine (ev_fw Tb_9 1 (pc := 768) (pc' := 769) (ls' := (lsW b X R o (nI (6 * j)) (.int (nI kk)) w6)) (st' := [.ref R]) (h' := h1) rfl).trans ?_
  refine (e_arg (p := 769) (cn := 1) (ls := (lsW b X R o (nI (6 * j)) (.int (nI kk)) w6)) (st := [.ref R]) Tb_9 rfl rfl s1 (by omega) hL).trans ?_
  refine (e_arg (p := 775) (cn := 2) (ls := (lsW b X R o (nI (6 * j)) (.int (nI kk)) w6)) (st := [.int (xs (6 * j + 1)), .ref R]) Tb_9 rfl rfl s1 (by omega) hL).trans ?_
  refine (e_arg (p := 781) (cn := 3) (ls := (lsW b X R o (nI (6 * j)) (.int (nI kk)) w6)) (st := [.int (xs (6 * j + 2)), .int (xs (6 * j + 1)), .ref R]) Tb_9 rfl rfl s1 (by omega) hL).trans ?_
  refine (e_arg (p := 787) (cn := 4) (ls := (lsW b X R o (nI (6 * j)) (.int (nI kk)) w6)) (st := [.int (xs (6 * j + 3)), .int (xs (6 * j + 2)), .int (xs (6 * j + 1)), .ref R]) Tb_9 rfl rfl s1 (by omega) hL).trans ?_
  refine (e_arg (p := 793) (cn := 5) (ls := (lsW b X R o (nI (6 * j)) (.int (nI kk)) w6)) (st := [.int (xs (6 * j + 4)), .int (xs (6 * j + 3)), .int (xs (6 * j + 2)), .int (xs (6 * j + 1)), .ref R]) Tb_9 rfl rfl s1 (by omega) hL).trans ?_
  refine (e_K (pc := 799) (m := 242) (rest := []) (ent := [.ref R, .int (xs (6 * j + 1)), .int (xs (6 * j + 2)), .int (xs (6 * j + 3)), .int (xs (6 * j + 4)), .int (xs (6 * j + 5))]) (Tb_9 _ _ rfl) rfl rfl (zsC_v rfl rfl rfl (RSk_K r1) (Nat.le_of_ble_eq_true rfl)) rfl rfl e2).trans ?_
  exact tailW (p := 802) Tb_9 r2 t2 hk k3 I2.1.2.2.1.1 I2.1.2.2.1.2 rfl rfl rfl rfl rfl rfl rfl rfl rfl rfl rfl
theorem B_10 (hL : L ≤ 384) : Br z b L X R o xs 835 := by
  intro j h w5 w6 hj I
  obtain ⟨S, ls, Lo, K, A, tl, T, ft, s, C, H, ok, n, hT⟩ := I.un
  obtain ⟨kk, h1, vv, h2, k3, e1, s1, r1, e2, t2, r2, hk, hb, I2⟩ := both_W (fun _ => True) s C H n (Wr_324 (a := (xs (6 * j + 1))) (b := (xs (6 * j + 2))) (XSk_K C.1.1) s.ol s.2.2.1.1 s.2.2.1.2 (by (first | omega | (unfold wmK; repeat' split) <;> omega)) (C_warm (d := 8) s.2.2.2.1 C ok)) (by (first | omega | (unfold wmK; repeat' split) <;> omega)) (O_warm ok) trivial (m2 := 243) (as2 := [.ref R, .int (xs (6 * j + 1)), .int (xs (6 * j + 2)), zu, zu]) (fun h1 M1 => R_warm (d := 1) M1.2.1.1.2.1 M1.2.2.1 ok)
  clear n hT
  refine ⟨.int (nI kk), .int vv, h2, ?_, I2⟩
  refine (ev_fw Tb_10 1 (pc := 835) (pc' := 836) (ls' := (lsW b X R o (nI (6 * j)) w5 w6)) (st' := [.ref X]) (h' := h) rfl).trans ?_
  refine (e_arg (p := 836) (cn := 1) (ls := (lsW b X R o (nI (6 * j)) w5 w6)) (st := [.ref X]) Tb_10 rfl rfl s (by omega) hL).trans ?_
  refine (e_arg (p := 842) (cn := 2) (ls := (lsW b X R o (nI (6 * j)) w5 w6)) (st := [.int (xs (6 * j + 1)), .ref X]) Tb_10 rfl rfl s (by omega) hL).trans ?_
  refine (ev_fw Tb_10 1 (pc := 848) (pc' := 849) (ls' := (lsW b X R o (nI (6 * j)) w5 w6)) (st' := [.ref o, .int (xs (6 * j + 2)), .int (xs (6 * j + 1)), .ref X]) (h' := h) rfl).trans ?_
  refine (e_K (pc := 849) (m := 324) (rest := []) (ent := [.ref X, .int (xs (6 * j + 1)), .int (xs (6 * j + 2)), .ref o, zu]) (Tb_10 _ _ rfl) rfl rfl rfl rfl rfl e1).trans ?_
  refine (ev_fw Tb_10 1 (pc := 852) (pc' := 854) (ls' := (lsW b X R o (nI (6 * j)) (.int (nI kk)) w6)) (st' := []) (h' := h1) rfl).trans ?_
  refine (ev_fw Tb_10 1 (pc := 854) (pc' := 855) (ls' := (lsW b X R o (nI (6 * j)) (.int (nI kk)) w6)) (st' := [.ref R]) (h' := h1) rfl).trans ?_
  refine (e_arg (p := 855) (cn := 1) (ls := (lsW b X R o (nI (6 * j)) (.int (nI kk)) w6)) (st := [.ref R]) Tb_10 rfl rfl s1 (by omega) hL).trans ?_
  refine (e_arg (p := 861) (cn := 2) (ls := (lsW b X R o (nI (6 * j)) (.int (nI kk)) w6)) (st := [.int (xs (6 * j + 1)), .ref R]) Tb_10 rfl rfl s1 (by omega) hL).trans ?_
  refine (e_K (pc := 867) (m := 243) (rest := []) (ent := [.ref R, .int (xs (6 * j + 1)), .int (xs (6 * j + 2)), zu, zu]) (Tb_10 _ _ rfl) rfl rfl (zsC_v rfl rfl rfl (RSk_K r1) (Nat.le_of_ble_eq_true rfl)) rfl rfl e2).trans ?_
  exact tailW (p := 870) Tb_10 r2 t2 hk k3 I2.1.2.2.1.1 I2.1.2.2.1.2 rfl rfl rfl rfl rfl rfl rfl rfl rfl rfl rfl
theorem B_11 (hL : L ≤ 384) : Br z b L X R o xs 903 := by
  intro j h w5 w6 hj I
  obtain ⟨S, ls, Lo, K, A, tl, T, ft, s, C, H, ok, n, hT⟩ := I.un
  obtain ⟨kk, h1, vv, h2, k3, e1, s1, r1, e2, t2, r2, hk, hb, I2⟩ := both_W (fun _ => True) s C H n (Wr_325 (a := (xs (6 * j + 1))) (XSk_K C.1.1) s.ol s.2.2.1.1 s.2.2.1.2 (by (first | omega | (unfold brnK; repeat' split) <;> omega)) (C_burn (d := 8) s.2.2.2.1 C ok.1.1)) (by (first | omega | (unfold brnK; repeat' split) <;> omega)) (O_burn ok) trivial (m2 := 244) (as2 := [.ref R, .int (xs (6 * j + 1)), zu]) (fun h1 M1 => R_burn (d := 8) M1.2.2.1 ok.1.1)
  clear n hT
  refine ⟨.int (nI kk), .int vv, h2, ?_, I2⟩
  refine (ev_fw Tb_11 1 (pc := 903) (pc' := 904) (ls' := (lsW b X R o (nI (6 * j)) w5 w6)) (st' := [.ref X]) (h' := h) rfl).trans ?_
  refine (e_arg (p := 904) (cn := 1) (ls := (lsW b X R o (nI (6 * j)) w5 w6)) (st := [.ref X]) Tb_11 rfl rfl s (by omega) hL).trans ?_
  refine (ev_fw Tb_11 1 (pc := 910) (pc' := 911) (ls' := (lsW b X R o (nI (6 * j)) w5 w6)) (st' := [.ref o, .int (xs (6 * j + 1)), .ref X]) (h' := h) rfl).trans ?_
  refine (e_K (pc := 911) (m := 325) (rest := []) (ent := [.ref X, .int (xs (6 * j + 1)), .ref o, zu]) (Tb_11 _ _ rfl) rfl rfl rfl rfl rfl e1).trans ?_
  refine (ev_fw Tb_11 1 (pc := 914) (pc' := 916) (ls' := (lsW b X R o (nI (6 * j)) (.int (nI kk)) w6)) (st' := []) (h' := h1) rfl).trans ?_
  refine (ev_fw Tb_11 1 (pc := 916) (pc' := 917) (ls' := (lsW b X R o (nI (6 * j)) (.int (nI kk)) w6)) (st' := [.ref R]) (h' := h1) rfl).trans ?_
  refine (e_arg (p := 917) (cn := 1) (ls := (lsW b X R o (nI (6 * j)) (.int (nI kk)) w6)) (st := [.ref R]) Tb_11 rfl rfl s1 (by omega) hL).trans ?_
  refine (e_K (pc := 923) (m := 244) (rest := []) (ent := [.ref R, .int (xs (6 * j + 1)), zu]) (Tb_11 _ _ rfl) rfl rfl (zsC_v rfl rfl rfl (RSk_K r1) (Nat.le_of_ble_eq_true rfl)) rfl rfl e2).trans ?_
  exact tailW (p := 926) Tb_11 r2 t2 hk k3 I2.1.2.2.1.1 I2.1.2.2.1.2 rfl rfl rfl rfl rfl rfl rfl rfl rfl rfl rfl
theorem B_12 (hL : L ≤ 384) : Br z b L X R o xs 959 := by
  intro j h w5 w6 hj I
  obtain ⟨S, ls, Lo, K, A, tl, T, ft, s, C, H, ok, n, hT⟩ := I.un
  obtain ⟨kk, h1, vv, h2, k3, e1, s1, r1, e2, t2, r2, hk, hb, I2⟩ := both_W (fun _ => True) s C H n (Wr_326 (a := (xs (6 * j + 1))) (b := (xs (6 * j + 2))) (c := (xs (6 * j + 3))) (XSk_K C.1.1) s.ol s.2.2.1.1 s.2.2.1.2 (by (first | omega | (unfold lnK; repeat' split) <;> omega)) (C_lend (d := 8) s.2.2.2.1 C ok.1.1)) (by (first | omega | (unfold lnK; repeat' split) <;> omega)) (O_lend ok) trivial (m2 := 245) (as2 := [.ref R, .int (xs (6 * j + 1)), .int (xs (6 * j + 2)), .int (xs (6 * j + 3)), zu]) (fun h1 M1 => R_lend (d := 8) M1.2.2.1 ok.1.1)
  clear n hT
  refine ⟨.int (nI kk), .int vv, h2, ?_, I2⟩
  refine (ev_fw Tb_12 1 (pc := 959) (pc' := 960) (ls' := (lsW b X R o (nI (6 * j)) w5 w6)) (st' := [.ref X]) (h' := h) rfl).trans ?_
  refine (e_arg (p := 960) (cn := 1) (ls := (lsW b X R o (nI (6 * j)) w5 w6)) (st := [.ref X]) Tb_12 rfl rfl s (by omega) hL).trans ?_
  refine (e_arg (p := 966) (cn := 2) (ls := (lsW b X R o (nI (6 * j)) w5 w6)) (st := [.int (xs (6 * j + 1)), .ref X]) Tb_12 rfl rfl s (by omega) hL).trans ?_
  refine (e_arg (p := 972) (cn := 3) (ls := (lsW b X R o (nI (6 * j)) w5 w6)) (st := [.int (xs (6 * j + 2)), .int (xs (6 * j + 1)), .ref X]) Tb_12 rfl rfl s (by omega) hL).trans ?_
  refine (ev_fw Tb_12 1 (pc := 978) (pc' := 979) (ls' := (lsW b X R o (nI (6 * j)) w5 w6)) (st' := [.ref o, .int (xs (6 * j + 3)), .int (xs (6 * j + 2)), .int (xs (6 * j + 1)), .ref X]) (h' := h) rfl).trans ?_
  refine (e_K (pc := 979) (m := 326) (rest := []) (ent := [.ref X, .int (xs (6 * j + 1)), .int (xs (6 * j + 2)), .int (xs (6 * j + 3)), .ref o, zu]) (Tb_12 _ _ rfl) rfl rfl rfl rfl rfl e1).trans ?_
  refine (ev_fw Tb_12 1 (pc := 982) (pc' := 984) (ls' := (lsW b X R o (nI (6 * j)) (.int (nI kk)) w6)) (st' := []) (h' := h1) rfl).trans ?_
  refine (ev_fw Tb_12 1 (pc := 984) (pc' := 985) (ls' := (lsW b X R o (nI (6 * j)) (.int (nI kk)) w6)) (st' := [.ref R]) (h' := h1) rfl).trans ?_
  refine (e_arg (p := 985) (cn := 1) (ls := (lsW b X R o (nI (6 * j)) (.int (nI kk)) w6)) (st := [.ref R]) Tb_12 rfl rfl s1 (by omega) hL).trans ?_
  refine (e_arg (p := 991) (cn := 2) (ls := (lsW b X R o (nI (6 * j)) (.int (nI kk)) w6)) (st := [.int (xs (6 * j + 1)), .ref R]) Tb_12 rfl rfl s1 (by omega) hL).trans ?_
  refine (e_arg (p := 997) (cn := 3) (ls := (lsW b X R o (nI (6 * j)) (.int (nI kk)) w6)) (st := [.int (xs (6 * j + 2)), .int (xs (6 * j + 1)), .ref R]) Tb_12 rfl rfl s1 (by omega) hL).trans ?_
  refine (e_K (pc := 1003) (m := 245) (rest := []) (ent := [.ref R, .int (xs (6 * j + 1)), .int (xs (6 * j + 2)), .int (xs (6 * j + 3)), zu]) (Tb_12 _ _ rfl) rfl rfl (zsC_v rfl rfl rfl (RSk_K r1) (Nat.le_of_ble_eq_true rfl)) rfl rfl e2).trans ?_
  exact tailW (p := 1006) Tb_12 r2 t2 hk k3 I2.1.2.2.1.1 I2.1.2.2.1.2 rfl rfl rfl rfl rfl rfl rfl rfl rfl rfl rfl
theorem B_13 (hL : L ≤ 384) : Br z b L X R o xs 1039 := by
  intro j h w5 w6 hj I
  obtain ⟨S, ls, Lo, K, A, tl, T, ft, s, C, H, ok, n, hT⟩ := I.un
  obtain ⟨kk, h1, vv, h2, k3, e1, s1, r1, e2, t2, r2, hk, hb, I2⟩ := both_W (fun _ => True) s C H n (Wr_327 (a := (xs (6 * j + 1))) (XSk_K C.1.1) s.ol s.2.2.1.1 s.2.2.1.2 (by (first | omega | (repeat' split) <;> omega)) (C_salt (d := 8) s.2.2.2.1 C ok.1.1)) (by (first | omega | (repeat' split) <;> omega)) (O_salt ok) trivial (m2 := 246) (as2 := [.ref R, .int (xs (6 * j + 1))]) (fun h1 M1 => R_salt (d := 8) M1.2.2.1)
  clear n hT
  refine ⟨.int (nI kk), .int vv, h2, ?_, I2⟩
  refine (ev_fw Tb_13 1 (pc := 1039) (pc' := 1040) (ls' := (lsW b X R o (nI (6 * j)) w5 w6)) (st' := [.ref X]) (h' := h) rfl).trans ?_
  refine (e_arg (p := 1040) (cn := 1) (ls := (lsW b X R o (nI (6 * j)) w5 w6)) (st := [.ref X]) Tb_13 rfl rfl s (by omega) hL).trans ?_
  refine (ev_fw Tb_13 1 (pc := 1046) (pc' := 1047) (ls' := (lsW b X R o (nI (6 * j)) w5 w6)) (st' := [.ref o, .int (xs (6 * j + 1)), .ref X]) (h' := h) rfl).trans ?_
  refine (e_K (pc := 1047) (m := 327) (rest := []) (ent := [.ref X, .int (xs (6 * j + 1)), .ref o, zu]) (Tb_13 _ _ rfl) rfl rfl rfl rfl rfl e1).trans ?_
  refine (ev_fw Tb_13 1 (pc := 1050) (pc' := 1052) (ls' := (lsW b X R o (nI (6 * j)) (.int (nI kk)) w6)) (st' := []) (h' := h1) rfl).trans ?_
  refine (ev_fw Tb_13 1 (pc := 1052) (pc' := 1053) (ls' := (lsW b X R o (nI (6 * j)) (.int (nI kk)) w6)) (st' := [.ref R]) (h' := h1) rfl).trans ?_
  refine (e_arg (p := 1053) (cn := 1) (ls := (lsW b X R o (nI (6 * j)) (.int (nI kk)) w6)) (st := [.ref R]) Tb_13 rfl rfl s1 (by omega) hL).trans ?_
  refine (e_K (pc := 1059) (m := 246) (rest := []) (ent := [.ref R, .int (xs (6 * j + 1))]) (Tb_13 _ _ rfl) rfl rfl (zsC_v rfl rfl rfl (RSk_K r1) (Nat.le_of_ble_eq_true rfl)) rfl rfl e2).trans ?_
  exact tailW (p := 1062) Tb_13 r2 t2 hk k3 I2.1.2.2.1.1 I2.1.2.2.1.2 rfl rfl rfl rfl rfl rfl rfl rfl rfl rfl rfl
theorem B_14 (hL : L ≤ 384) : Br z b L X R o xs 1095 := by
  intro j h w5 w6 hj I
  obtain ⟨S, ls, Lo, K, A, tl, T, ft, s, C, H, ok, n, hT⟩ := I.un
  obtain ⟨kk, h1, vv, h2, k3, e1, s1, r1, e2, t2, r2, hk, hb, I2⟩ := both_W (fun _ => True) s C H n (Wr_328 (a := (xs (6 * j + 1))) (b := (xs (6 * j + 2))) (XSk_K C.1.1) s.ol s.2.2.1.1 s.2.2.1.2 (by (first | omega | (unfold barK; repeat' split) <;> omega)) (C_bar (d := 8) s.2.2.2.1 C ok.1.1)) (by (first | omega | (unfold barK; repeat' split) <;> omega)) (O_bar ok) trivial (m2 := 247) (as2 := [.ref R, .int (xs (6 * j + 1)), .int (xs (6 * j + 2))]) (fun h1 M1 => R_bar (d := 8) M1.2.2.1 ok.1.1)
  clear n hT
  refine ⟨.int (nI kk), .int vv, h2, ?_, I2⟩
  refine (ev_fw Tb_14 1 (pc := 1095) (pc' := 1096) (ls' := (lsW b X R o (nI (6 * j)) w5 w6)) (st' := [.ref X]) (h' := h) rfl).trans ?_
  refine (e_arg (p := 1096) (cn := 1) (ls := (lsW b X R o (nI (6 * j)) w5 w6)) (st := [.ref X]) Tb_14 rfl rfl s (by omega) hL).trans ?_
  refine (e_arg (p := 1102) (cn := 2) (ls := (lsW b X R o (nI (6 * j)) w5 w6)) (st := [.int (xs (6 * j + 1)), .ref X]) Tb_14 rfl rfl s (by omega) hL).trans ?_
  refine (ev_fw Tb_14 1 (pc := 1108) (pc' := 1109) (ls' := (lsW b X R o (nI (6 * j)) w5 w6)) (st' := [.ref o, .int (xs (6 * j + 2)), .int (xs (6 * j + 1)), .ref X]) (h' := h) rfl).trans ?_
  refine (e_K (pc := 1109) (m := 328) (rest := []) (ent := [.ref X, .int (xs (6 * j + 1)), .int (xs (6 * j + 2)), .ref o, zu]) (Tb_14 _ _ rfl) rfl rfl rfl rfl rfl e1).trans ?_
  refine (ev_fw Tb_14 1 (pc := 1112) (pc' := 1114) (ls' := (lsW b X R o (nI (6 * j)) (.int (nI kk)) w6)) (st' := []) (h' := h1) rfl).trans ?_
  refine (ev_fw Tb_14 1 (pc := 1114) (pc' := 1115) (ls' := (lsW b X R o (nI (6 * j)) (.int (nI kk)) w6)) (st' := [.ref R]) (h' := h1) rfl).trans ?_
  refine (e_arg (p := 1115) (cn := 1) (ls := (lsW b X R o (nI (6 * j)) (.int (nI kk)) w6)) (st := [.ref R]) Tb_14 rfl rfl s1 (by omega) hL).trans ?_
  refine (e_arg (p := 1121) (cn := 2) (ls := (lsW b X R o (nI (6 * j)) (.int (nI kk)) w6)) (st := [.int (xs (6 * j + 1)), .ref R]) Tb_14 rfl rfl s1 (by omega) hL).trans ?_
  refine (e_K (pc := 1127) (m := 247) (rest := []) (ent := [.ref R, .int (xs (6 * j + 1)), .int (xs (6 * j + 2))]) (Tb_14 _ _ rfl) rfl rfl (zsC_v rfl rfl rfl (RSk_K r1) (Nat.le_of_ble_eq_true rfl)) rfl rfl e2).trans ?_
  exact tailW (p := 1130) Tb_14 r2 t2 hk k3 I2.1.2.2.1.1 I2.1.2.2.1.2 rfl rfl rfl rfl rfl rfl rfl rfl rfl rfl rfl
theorem B_15 (hL : L ≤ 384) : Br z b L X R o xs 1163 := by
  intro j h w5 w6 hj I
  obtain ⟨S, ls, Lo, K, A, tl, T, ft, s, C, H, ok, n, hT⟩ := I.un
  obtain ⟨vv, h1, h2, e1, s1, r1, e2, I2⟩ := both_V s C H n (CE.of (C_reads (d := 8) C)) ok (m2 := 248) (as2 := [.ref R]) (fun h1 M1 => RE.of (R_reads (d := 8) M1.2.2.1 ok.1.1))
  refine ⟨w5, w6, h2, ?_, I2⟩
  refine (ev_fw Tb_15 1 (pc := 1163) (pc' := 1164) (ls' := (lsW b X R o (nI (6 * j)) w5 w6)) (st' := [.ref X]) (h' := h) rfl).trans ?_
  refine (e_K (pc := 1164) (m := 116) (rest := []) (ent := [.ref X]) (Tb_15 _ _ rfl) rfl rfl (zsC_v rfl rfl rfl (XSk_K C.1.1) (Nat.le_of_ble_eq_true rfl)) rfl rfl e1).trans ?_
  refine (ev_fw Tb_15 1 (pc := 1167) (pc' := 1168) (ls' := (lsW b X R o (nI (6 * j)) w5 w6)) (st' := [.ref R, .int vv]) (h' := h1) rfl).trans ?_
  refine (e_K (pc := 1168) (m := 248) (rest := [.int vv]) (ent := [.ref R]) (Tb_15 _ _ rfl) rfl rfl (zsC_v rfl rfl rfl (RSk_K r1) (Nat.le_of_ble_eq_true rfl)) rfl rfl e2).trans ?_
  refine (e_icmp_eq (pc := 1171) (t := 2944) (Tb_15 _ _ rfl) (by omega)).trans ?_
  exact if_pos rfl
theorem B_16 (hL : L ≤ 384) : Br z b L X R o xs 1176 := by
  intro j h w5 w6 hj I
  obtain ⟨S, ls, Lo, K, A, tl, T, ft, s, C, H, ok, n, hT⟩ := I.un
  obtain ⟨vv, h1, h2, e1, s1, r1, e2, I2⟩ := both_V s C H n (CE.of (C_blank (d := 8) C)) ok (m2 := 249) (as2 := [.ref R]) (fun h1 M1 => RE.of (R_blank (d := 8) M1.2.2.1 ok.1.1))
  refine ⟨w5, w6, h2, ?_, I2⟩
  refine (ev_fw Tb_16 1 (pc := 1176) (pc' := 1177) (ls' := (lsW b X R o (nI (6 * j)) w5 w6)) (st' := [.ref X]) (h' := h) rfl).trans ?_
  refine (e_K (pc := 1177) (m := 117) (rest := []) (ent := [.ref X]) (Tb_16 _ _ rfl) rfl rfl (zsC_v rfl rfl rfl (XSk_K C.1.1) (Nat.le_of_ble_eq_true rfl)) rfl rfl e1).trans ?_
  refine (ev_fw Tb_16 1 (pc := 1180) (pc' := 1181) (ls' := (lsW b X R o (nI (6 * j)) w5 w6)) (st' := [.ref R, .int vv]) (h' := h1) rfl).trans ?_
  refine (e_K (pc := 1181) (m := 249) (rest := [.int vv]) (ent := [.ref R]) (Tb_16 _ _ rfl) rfl rfl (zsC_v rfl rfl rfl (RSk_K r1) (Nat.le_of_ble_eq_true rfl)) rfl rfl e2).trans ?_
  refine (e_icmp_eq (pc := 1184) (t := 2944) (Tb_16 _ _ rfl) (by omega)).trans ?_
  exact if_pos rfl
theorem B_17 (hL : L ≤ 384) : Br z b L X R o xs 1189 := by
  intro j h w5 w6 hj I
  obtain ⟨S, ls, Lo, K, A, tl, T, ft, s, C, H, ok, n, hT⟩ := I.un
  obtain ⟨vv, h1, h2, e1, s1, r1, e2, I2⟩ := both_V s C H n (CE.of (C_valid (d := 8) C)) ok (m2 := 250) (as2 := [.ref R, zu, zu]) (fun h1 M1 => RE.of (R_valid (d := 8) M1.2.2.1 ok.1.1))
  refine ⟨w5, w6, h2, ?_, I2⟩
  refine (ev_fw Tb_17 1 (pc := 1189) (pc' := 1190) (ls' := (lsW b X R o (nI (6 * j)) w5 w6)) (st' := [.ref X]) (h' := h) rfl).trans ?_
  refine (e_K (pc := 1190) (m := 118) (rest := []) (ent := [.ref X, zu, zu, zu]) (Tb_17 _ _ rfl) rfl rfl (zsC_v rfl rfl rfl (XSk_K C.1.1) (Nat.le_of_ble_eq_true rfl)) rfl rfl e1).trans ?_
  refine (ev_fw Tb_17 1 (pc := 1193) (pc' := 1194) (ls' := (lsW b X R o (nI (6 * j)) w5 w6)) (st' := [.ref R, .int vv]) (h' := h1) rfl).trans ?_
  refine (e_K (pc := 1194) (m := 250) (rest := [.int vv]) (ent := [.ref R, zu, zu]) (Tb_17 _ _ rfl) rfl rfl (zsC_v rfl rfl rfl (RSk_K r1) (Nat.le_of_ble_eq_true rfl)) rfl rfl e2).trans ?_
  refine (e_icmp_eq (pc := 1197) (t := 2944) (Tb_17 _ _ rfl) (by omega)).trans ?_
  exact if_pos rfl
theorem B_18 (hL : L ≤ 384) : Br z b L X R o xs 1202 := by
  intro j h w5 w6 hj I
  obtain ⟨S, ls, Lo, K, A, tl, T, ft, s, C, H, ok, n, hT⟩ := I.un
  obtain ⟨kk, h1, vv, h2, k3, e1, s1, r1, e2, t2, r2, hk, hb, I2⟩ := both_W (fun _ => True) s C H n (Wr_329 (a := (xs (6 * j + 1))) (XSk_K C.1.1) s.ol s.2.2.1.1 s.2.2.1.2 (by (first | omega | (repeat' split) <;> omega)) (C_when (d := 8) s.2.2.2.1 C ok)) (by (first | omega | (repeat' split) <;> omega)) ok trivial (m2 := 253) (as2 := [.ref R, .int (xs (6 * j + 1))]) (fun h1 M1 => R_when (d := 1) M1.2.1.1.2.1 M1.2.2.1 ok)
  clear n hT
  refine ⟨.int (nI kk), .int vv, h2, ?_, I2⟩
  refine (ev_fw Tb_18 1 (pc := 1202) (pc' := 1203) (ls' := (lsW b X R o (nI (6 * j)) w5 w6)) (st' := [.ref X]) (h' := h) rfl).trans ?_
  refine (e_arg (p := 1203) (cn := 1) (ls := (lsW b X R o (nI (6 * j)) w5 w6)) (st := [.ref X]) Tb_18 rfl rfl s (by omega) hL).trans ?_
  refine (ev_fw Tb_18 1 (pc := 1209) (pc' := 1210) (ls' := (lsW b X R o (nI (6 * j)) w5 w6)) (st' := [.ref o, .int (xs (6 * j + 1)), .ref X]) (h' := h) rfl).trans ?_
  refine (e_K (pc := 1210) (m := 329) (rest := []) (ent := [.ref X, .int (xs (6 * j + 1)), .ref o, zu]) (Tb_18 _ _ rfl) rfl rfl rfl rfl rfl e1).trans ?_
  refine (ev_fw Tb_18 1 (pc := 1213) (pc' := 1215) (ls' := (lsW b X R o (nI (6 * j)) (.int (nI kk)) w6)) (st' := []) (h' := h1) rfl).trans ?_
  refine (ev_fw Tb_18 1 (pc := 1215) (pc' := 1216) (ls' := (lsW b X R o (nI (6 * j)) (.int (nI kk)) w6)) (st' := [.ref R]) (h' := h1) rfl).trans ?_
  refine (e_arg (p := 1216) (cn := 1) (ls := (lsW b X R o (nI (6 * j)) (.int (nI kk)) w6)) (st := [.ref R]) Tb_18 rfl rfl s1 (by omega) hL).trans ?_
  refine (e_K (pc := 1222) (m := 253) (rest := []) (ent := [.ref R, .int (xs (6 * j + 1))]) (Tb_18 _ _ rfl) rfl rfl (zsC_v rfl rfl rfl (RSk_K r1) (Nat.le_of_ble_eq_true rfl)) rfl rfl e2).trans ?_
  exact tailW (p := 1225) Tb_18 r2 t2 hk k3 I2.1.2.2.1.1 I2.1.2.2.1.2 rfl rfl rfl rfl rfl rfl rfl rfl rfl rfl rfl
theorem B_19 (hL : L ≤ 384) : Br z b L X R o xs 1258 := by
  intro j h w5 w6 hj I
  obtain ⟨S, ls, Lo, K, A, tl, T, ft, s, C, H, ok, n, hT⟩ := I.un
  obtain ⟨kk, h1, vv, h2, k3, e1, s1, r1, e2, t2, r2, hk, hb, I2⟩ := both_W (fun _ => True) s C H n (Wr_330 (a := (xs (6 * j + 1))) (XSk_K C.1.1) s.ol s.2.2.1.1 s.2.2.1.2 (by (first | omega | (repeat' split) <;> omega)) (C_due (d := 8) s.2.2.2.1 C ok)) (by (first | omega | (repeat' split) <;> omega)) ok trivial (m2 := 254) (as2 := [.ref R, .int (xs (6 * j + 1))]) (fun h1 M1 => R_due (d := 1) M1.2.1.1.2.1 M1.2.2.1 ok)
  clear n hT
  refine ⟨.int (nI kk), .int vv, h2, ?_, I2⟩
  refine (ev_fw Tb_19 1 (pc := 1258) (pc' := 1259) (ls' := (lsW b X R o (nI (6 * j)) w5 w6)) (st' := [.ref X]) (h' := h) rfl).trans ?_
  refine (e_arg (p := 1259) (cn := 1) (ls := (lsW b X R o (nI (6 * j)) w5 w6)) (st := [.ref X]) Tb_19 rfl rfl s (by omega) hL).trans ?_
  refine (ev_fw Tb_19 1 (pc := 1265) (pc' := 1266) (ls' := (lsW b X R o (nI (6 * j)) w5 w6)) (st' := [.ref o, .int (xs (6 * j + 1)), .ref X]) (h' := h) rfl).trans ?_
  refine (e_K (pc := 1266) (m := 330) (rest := []) (ent := [.ref X, .int (xs (6 * j + 1)), .ref o, zu]) (Tb_19 _ _ rfl) rfl rfl rfl rfl rfl e1).trans ?_
  refine (ev_fw Tb_19 1 (pc := 1269) (pc' := 1271) (ls' := (lsW b X R o (nI (6 * j)) (.int (nI kk)) w6)) (st' := []) (h' := h1) rfl).trans ?_
  refine (ev_fw Tb_19 1 (pc := 1271) (pc' := 1272) (ls' := (lsW b X R o (nI (6 * j)) (.int (nI kk)) w6)) (st' := [.ref R]) (h' := h1) rfl).trans ?_
  refine (e_arg (p := 1272) (cn := 1) (ls := (lsW b X R o (nI (6 * j)) (.int (nI kk)) w6)) (st := [.ref R]) Tb_19 rfl rfl s1 (by omega) hL).trans ?_
  refine (e_K (pc := 1278) (m := 254) (rest := []) (ent := [.ref R, .int (xs (6 * j + 1))]) (Tb_19 _ _ rfl) rfl rfl (zsC_v rfl rfl rfl (RSk_K r1) (Nat.le_of_ble_eq_true rfl)) rfl rfl e2).trans ?_
  exact tailW (p := 1281) Tb_19 r2 t2 hk k3 I2.1.2.2.1.1 I2.1.2.2.1.2 rfl rfl rfl rfl rfl rfl rfl rfl rfl rfl rfl
end
