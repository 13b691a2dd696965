/-! THE LAW'S BRANCHES -/
section
variable {z : ZE} {b L X R o : Nat} {xs : Nat → Int32}
theorem B_20 (hL : L ≤ 384) : Br z b L X R o xs 1314 := by
  intro j h w5 w6 hj I
  obtain ⟨S, ls, Lo, K, A, tl, T, ft, s, C, H, ok, n, hT⟩ := I.un
  obtain ⟨vv, h1, h2, e1, s1, r1, e2, I2⟩ := both_V s C H n (CE.of (C_ruin (d := 8) C ok)) ok (m2 := 256) (as2 := [.ref R, .int (zbz (xs (6 * j + 1))), zu, zu, zu, zu]) (fun h1 M1 => RE.of (R_ruin (d := 1) M1.2.1.1.2.1 M1.2.2.1 ok))
  refine ⟨w5, w6, h2, ?_, I2⟩
  refine (ev_fw Tb_20 1 (pc := 1314) (pc' := 1315) (ls' := (lsW b X R o (nI (6 * j)) w5 w6)) (st' := [.ref X]) (h' := h) rfl).trans ?_
  refine (e_arg (p := 1315) (cn := 1) (ls := (lsW b X R o (nI (6 * j)) w5 w6)) (st := [.ref X]) Tb_20 rfl rfl s (by omega) hL).trans ?_
  refine (e_bz (p := 1321) (ls := (lsW b X R o (nI (6 * j)) w5 w6)) (st := [.ref X]) Tb_20 rfl rfl rfl).trans ?_
  refine (e_K (pc := 1329) (m := 121) (rest := []) (ent := [.ref X, .int (zbz (xs (6 * j + 1))), zu, zu]) (Tb_20 _ _ rfl) rfl rfl (zsC_v rfl rfl rfl (XSk_K C.1.1) (Nat.le_of_ble_eq_true rfl)) rfl rfl e1).trans ?_
  refine (ev_fw Tb_20 1 (pc := 1332) (pc' := 1333) (ls' := (lsW b X R o (nI (6 * j)) w5 w6)) (st' := [.ref R, .int vv]) (h' := h1) rfl).trans ?_
  refine (e_arg (p := 1333) (cn := 1) (ls := (lsW b X R o (nI (6 * j)) w5 w6)) (st := [.ref R, .int vv]) Tb_20 rfl rfl s1 (by omega) hL).trans ?_
  refine (e_bz (p := 1339) (ls := (lsW b X R o (nI (6 * j)) w5 w6)) (st := [.ref R, .int vv]) Tb_20 rfl rfl rfl).trans ?_
  refine (e_K (pc := 1347) (m := 256) (rest := [.int vv]) (ent := [.ref R, .int (zbz (xs (6 * j + 1))), zu, zu, zu, zu]) (Tb_20 _ _ rfl) rfl rfl (zsC_v rfl rfl rfl (RSk_K r1) (Nat.le_of_ble_eq_true rfl)) rfl rfl e2).trans ?_
  refine (e_icmp_eq (pc := 1350) (t := 2944) (Tb_20 _ _ rfl) (by omega)).trans ?_
  exact if_pos rfl
theorem B_21 (hL : L ≤ 384) : Br z b L X R o xs 1355 := by
  intro j h w5 w6 hj I
  obtain ⟨S, ls, Lo, K, A, tl, T, ft, s, C, H, ok, n, hT⟩ := I.un
  obtain ⟨kk, h1, vv, h2, k3, e1, s1, r1, e2, t2, r2, hk, hb, I2⟩ := both_W (fun _ => True) s C H n (Wr_331 (a := (xs (6 * j + 1))) (b := (xs (6 * j + 2))) (XSk_K C.1.1) s.ol s.2.2.1.1 s.2.2.1.2 (by (first | omega | (unfold weK; repeat' split) <;> omega)) (C_wealth (d := 8) s.2.2.2.1 C ok)) (by (first | omega | (unfold weK; repeat' split) <;> omega)) ok trivial (m2 := 257) (as2 := [.ref R, .int (xs (6 * j + 1)), .int (xs (6 * j + 2)), zu, zu]) (fun h1 M1 => R_wealth (d := 1) M1.2.1.1.2.1 M1.2.2.1 ok)
  clear n hT
  refine ⟨.int (nI kk), .int vv, h2, ?_, I2⟩
  refine (ev_fw Tb_21 1 (pc := 1355) (pc' := 1356) (ls' := (lsW b X R o (nI (6 * j)) w5 w6)) (st' := [.ref X]) (h' := h) rfl).trans ?_
  refine (e_arg (p := 1356) (cn := 1) (ls := (lsW b X R o (nI (6 * j)) w5 w6)) (st := [.ref X]) Tb_21 rfl rfl s (by omega) hL).trans ?_
  refine (e_arg (p := 1362) (cn := 2) (ls := (lsW b X R o (nI (6 * j)) w5 w6)) (st := [.int (xs (6 * j + 1)), .ref X]) Tb_21 rfl rfl s (by omega) hL).trans ?_
  refine (ev_fw Tb_21 1 (pc := 1368) (pc' := 1369) (ls' := (lsW b X R o (nI (6 * j)) w5 w6)) (st' := [.ref o, .int (xs (6 * j + 2)), .int (xs (6 * j + 1)), .ref X]) (h' := h) rfl).trans ?_
  refine (e_K (pc := 1369) (m := 331) (rest := []) (ent := [.ref X, .int (xs (6 * j + 1)), .int (xs (6 * j + 2)), .ref o, zu]) (Tb_21 _ _ rfl) rfl rfl rfl rfl rfl e1).trans ?_
  refine (ev_fw Tb_21 1 (pc := 1372) (pc' := 1374) (ls' := (lsW b X R o (nI (6 * j)) (.int (nI kk)) w6)) (st' := []) (h' := h1) rfl).trans ?_
  refine (ev_fw Tb_21 1 (pc := 1374) (pc' := 1375) (ls' := (lsW b X R o (nI (6 * j)) (.int (nI kk)) w6)) (st' := [.ref R]) (h' := h1) rfl).trans ?_
  refine (e_arg (p := 1375) (cn := 1) (ls := (lsW b X R o (nI (6 * j)) (.int (nI kk)) w6)) (st := [.ref R]) Tb_21 rfl rfl s1 (by omega) hL).trans ?_
  refine (e_arg (p := 1381) (cn := 2) (ls := (lsW b X R o (nI (6 * j)) (.int (nI kk)) w6)) (st := [.int (xs (6 * j + 1)), .ref R]) Tb_21 rfl rfl s1 (by omega) hL).trans ?_
  refine (e_K (pc := 1387) (m := 257) (rest := []) (ent := [.ref R, .int (xs (6 * j + 1)), .int (xs (6 * j + 2)), zu, zu]) (Tb_21 _ _ rfl) rfl rfl (zsC_v rfl rfl rfl (RSk_K r1) (Nat.le_of_ble_eq_true rfl)) rfl rfl e2).trans ?_
  exact tailW (p := 1390) Tb_21 r2 t2 hk k3 I2.1.2.2.1.1 I2.1.2.2.1.2 rfl rfl rfl rfl rfl rfl rfl rfl rfl rfl rfl
theorem B_22 (hL : L ≤ 384) : Br z b L X R o xs 1423 := by
  intro j h w5 w6 hj I
  obtain ⟨S, ls, Lo, K, A, tl, T, ft, s, C, H, ok, n, hT⟩ := I.un
  obtain ⟨kk, h1, vv, h2, k3, e1, s1, r1, e2, t2, r2, hk, hb, I2⟩ := both_W (fun _ => True) s C H n (Wr_332 (a := (xs (6 * j + 1))) (XSk_K C.1.1) s.ol s.2.2.1.1 s.2.2.1.2 (by (first | omega | (repeat' split) <;> omega)) (C_chain (d := 8) s.2.2.2.1 C ok.1.1)) (by (first | omega | (repeat' split) <;> omega)) ok trivial (m2 := 259) (as2 := [.ref R, .int (xs (6 * j + 1))]) (fun h1 M1 => R_chain (d := 8) M1.2.2.1 ok.1.1)
  clear n hT
  refine ⟨.int (nI kk), .int vv, h2, ?_, I2⟩
  refine (ev_fw Tb_22 1 (pc := 1423) (pc' := 1424) (ls' := (lsW b X R o (nI (6 * j)) w5 w6)) (st' := [.ref X]) (h' := h) rfl).trans ?_
  refine (e_arg (p := 1424) (cn := 1) (ls := (lsW b X R o (nI (6 * j)) w5 w6)) (st := [.ref X]) Tb_22 rfl rfl s (by omega) hL).trans ?_
  refine (ev_fw Tb_22 1 (pc := 1430) (pc' := 1431) (ls' := (lsW b X R o (nI (6 * j)) w5 w6)) (st' := [.ref o, .int (xs (6 * j + 1)), .ref X]) (h' := h) rfl).trans ?_
  refine (e_K (pc := 1431) (m := 332) (rest := []) (ent := [.ref X, .int (xs (6 * j + 1)), .ref o, zu]) (Tb_22 _ _ rfl) rfl rfl rfl rfl rfl e1).trans ?_
  refine (ev_fw Tb_22 1 (pc := 1434) (pc' := 1436) (ls' := (lsW b X R o (nI (6 * j)) (.int (nI kk)) w6)) (st' := []) (h' := h1) rfl).trans ?_
  refine (ev_fw Tb_22 1 (pc := 1436) (pc' := 1437) (ls' := (lsW b X R o (nI (6 * j)) (.int (nI kk)) w6)) (st' := [.ref R]) (h' := h1) rfl).trans ?_
  refine (e_arg (p := 1437) (cn := 1) (ls := (lsW b X R o (nI (6 * j)) (.int (nI kk)) w6)) (st := [.ref R]) Tb_22 rfl rfl s1 (by omega) hL).trans ?_
  refine (e_K (pc := 1443) (m := 259) (rest := []) (ent := [.ref R, .int (xs (6 * j + 1))]) (Tb_22 _ _ rfl) rfl rfl (zsC_v rfl rfl rfl (RSk_K r1) (Nat.le_of_ble_eq_true rfl)) rfl rfl e2).trans ?_
  exact tailW (p := 1446) Tb_22 r2 t2 hk k3 I2.1.2.2.1.1 I2.1.2.2.1.2 rfl rfl rfl rfl rfl rfl rfl rfl rfl rfl rfl
theorem B_23 (hL : L ≤ 384) : Br z b L X R o xs 1479 := by
  intro j h w5 w6 hj I
  obtain ⟨S, ls, Lo, K, A, tl, T, ft, s, C, H, ok, n, hT⟩ := I.un
  obtain ⟨kk, h1, vv, h2, k3, e1, s1, r1, e2, t2, r2, hk, hb, I2⟩ := both_W (fun _ => True) s C H n (Wr_333 (a := (xs (6 * j + 1))) (XSk_K C.1.1) s.ol s.2.2.1.1 s.2.2.1.2 (by (first | omega | (repeat' split) <;> omega)) (C_hangs (d := 8) s.2.2.2.1 C ok.1.1)) (by (first | omega | (repeat' split) <;> omega)) ok trivial (m2 := 260) (as2 := [.ref R, .int (xs (6 * j + 1)), zu, zu]) (fun h1 M1 => R_hangs (d := 8) M1.2.2.1 ok.1.1)
  clear n hT
  refine ⟨.int (nI kk), .int vv, h2, ?_, I2⟩
  refine (ev_fw Tb_23 1 (pc := 1479) (pc' := 1480) (ls' := (lsW b X R o (nI (6 * j)) w5 w6)) (st' := [.ref X]) (h' := h) rfl).trans ?_
  refine (e_arg (p := 1480) (cn := 1) (ls := (lsW b X R o (nI (6 * j)) w5 w6)) (st := [.ref X]) Tb_23 rfl rfl s (by omega) hL).trans ?_
  refine (ev_fw Tb_23 1 (pc := 1486) (pc' := 1487) (ls' := (lsW b X R o (nI (6 * j)) w5 w6)) (st' := [.ref o, .int (xs (6 * j + 1)), .ref X]) (h' := h) rfl).trans ?_
  refine (e_K (pc := 1487) (m := 333) (rest := []) (ent := [.ref X, .int (xs (6 * j + 1)), .ref o, zu]) (Tb_23 _ _ rfl) rfl rfl rfl rfl rfl e1).trans ?_
  refine (ev_fw Tb_23 1 (pc := 1490) (pc' := 1492) (ls' := (lsW b X R o (nI (6 * j)) (.int (nI kk)) w6)) (st' := []) (h' := h1) rfl).trans ?_
  refine (ev_fw Tb_23 1 (pc := 1492) (pc' := 1493) (ls' := (lsW b X R o (nI (6 * j)) (.int (nI kk)) w6)) (st' := [.ref R]) (h' := h1) rfl).trans ?_
  refine (e_arg (p := 1493) (cn := 1) (ls := (lsW b X R o (nI (6 * j)) (.int (nI kk)) w6)) (st := [.ref R]) Tb_23 rfl rfl s1 (by omega) hL).trans ?_
  refine (e_K (pc := 1499) (m := 260) (rest := []) (ent := [.ref R, .int (xs (6 * j + 1)), zu, zu]) (Tb_23 _ _ rfl) rfl rfl (zsC_v rfl rfl rfl (RSk_K r1) (Nat.le_of_ble_eq_true rfl)) rfl rfl e2).trans ?_
  exact tailW (p := 1502) Tb_23 r2 t2 hk k3 I2.1.2.2.1.1 I2.1.2.2.1.2 rfl rfl rfl rfl rfl rfl rfl rfl rfl rfl rfl
theorem B_24 (hL : L ≤ 384) : Br z b L X R o xs 1535 := by
  intro j h w5 w6 hj I
  obtain ⟨S, ls, Lo, K, A, tl, T, ft, s, C, H, ok, n, hT⟩ := I.un
  obtain ⟨vv, h1, h2, e1, s1, r1, e2, I2⟩ := both_V s C H n (CE.of (C_late (d := 8) C ok)) ok (m2 := 261) (as2 := [.ref R, zu, zu, zu, zu]) (fun h1 M1 => RE.of (R_late (d := 1) M1.2.1.1.2.1 M1.2.2.1 ok))
  refine ⟨w5, w6, h2, ?_, I2⟩
  refine (ev_fw Tb_24 1 (pc := 1535) (pc' := 1536) (ls' := (lsW b X R o (nI (6 * j)) w5 w6)) (st' := [.ref X]) (h' := h) rfl).trans ?_
  refine (e_K (pc := 1536) (m := 125) (rest := []) (ent := [.ref X, zu, zu, zu]) (Tb_24 _ _ rfl) rfl rfl (zsC_v rfl rfl rfl (XSk_K C.1.1) (Nat.le_of_ble_eq_true rfl)) rfl rfl e1).trans ?_
  refine (ev_fw Tb_24 1 (pc := 1539) (pc' := 1540) (ls' := (lsW b X R o (nI (6 * j)) w5 w6)) (st' := [.ref R, .int vv]) (h' := h1) rfl).trans ?_
  refine (e_K (pc := 1540) (m := 261) (rest := [.int vv]) (ent := [.ref R, zu, zu, zu, zu]) (Tb_24 _ _ rfl) rfl rfl (zsC_v rfl rfl rfl (RSk_K r1) (Nat.le_of_ble_eq_true rfl)) rfl rfl e2).trans ?_
  refine (e_icmp_eq (pc := 1543) (t := 2944) (Tb_24 _ _ rfl) (by omega)).trans ?_
  exact if_pos rfl
theorem B_25 (hL : L ≤ 384) : Br z b L X R o xs 1548 := by
  intro j h w5 w6 hj I
  obtain ⟨S, ls, Lo, K, A, tl, T, ft, s, C, H, ok, n, hT⟩ := I.un
  obtain ⟨kk, h1, vv, h2, k3, e1, s1, r1, e2, t2, r2, hk, hb, I2⟩ := both_W (fun _ => True) s C H n (Wr_334 (a := (xs (6 * j + 1))) (b := (xs (6 * j + 2))) (XSk_K C.1.1) s.ol s.2.2.1.1 s.2.2.1.2 (by (first | omega | (repeat' split) <;> omega)) (C_net (d := 8) s.2.2.2.1 C ok.1.1)) (by (first | omega | (repeat' split) <;> omega)) ok trivial (m2 := 262) (as2 := [.ref R, .int (xs (6 * j + 1)), .int (xs (6 * j + 2))]) (fun h1 M1 => R_net (d := 8) M1.2.2.1 ok.1.1)
  clear n hT
  refine ⟨.int (nI kk), .int vv, h2, ?_, I2⟩
  refine (ev_fw Tb_25 1 (pc := 1548) (pc' := 1549) (ls' := (lsW b X R o (nI (6 * j)) w5 w6)) (st' := [.ref X]) (h' := h) rfl).trans ?_
  refine (e_arg (p := 1549) (cn := 1) (ls := (lsW b X R o (nI (6 * j)) w5 w6)) (st := [.ref X]) Tb_25 rfl rfl s (by omega) hL).trans ?_
  refine (e_arg (p := 1555) (cn := 2) (ls := (lsW b X R o (nI (6 * j)) w5 w6)) (st := [.int (xs (6 * j + 1)), .ref X]) Tb_25 rfl rfl s (by omega) hL).trans ?_
  refine (ev_fw Tb_25 1 (pc := 1561) (pc' := 1562) (ls' := (lsW b X R o (nI (6 * j)) w5 w6)) (st' := [.ref o, .int (xs (6 * j + 2)), .int (xs (6 * j + 1)), .ref X]) (h' := h) rfl).trans ?_
  refine (e_K (pc := 1562) (m := 334) (rest := []) (ent := [.ref X, .int (xs (6 * j + 1)), .int (xs (6 * j + 2)), .ref o, zu]) (Tb_25 _ _ rfl) rfl rfl rfl rfl rfl e1).trans ?_
  refine (ev_fw Tb_25 1 (pc := 1565) (pc' := 1567) (ls' := (lsW b X R o (nI (6 * j)) (.int (nI kk)) w6)) (st' := []) (h' := h1) rfl).trans ?_
  refine (ev_fw Tb_25 1 (pc := 1567) (pc' := 1568) (ls' := (lsW b X R o (nI (6 * j)) (.int (nI kk)) w6)) (st' := [.ref R]) (h' := h1) rfl).trans ?_
  refine (e_arg (p := 1568) (cn := 1) (ls := (lsW b X R o (nI (6 * j)) (.int (nI kk)) w6)) (st := [.ref R]) Tb_25 rfl rfl s1 (by omega) hL).trans ?_
  refine (e_arg (p := 1574) (cn := 2) (ls := (lsW b X R o (nI (6 * j)) (.int (nI kk)) w6)) (st := [.int (xs (6 * j + 1)), .ref R]) Tb_25 rfl rfl s1 (by omega) hL).trans ?_
  refine (e_K (pc := 1580) (m := 262) (rest := []) (ent := [.ref R, .int (xs (6 * j + 1)), .int (xs (6 * j + 2))]) (Tb_25 _ _ rfl) rfl rfl (zsC_v rfl rfl rfl (RSk_K r1) (Nat.le_of_ble_eq_true rfl)) rfl rfl e2).trans ?_
  exact tailW (p := 1583) Tb_25 r2 t2 hk k3 I2.1.2.2.1.1 I2.1.2.2.1.2 rfl rfl rfl rfl rfl rfl rfl rfl rfl rfl rfl
theorem B_26 (hL : L ≤ 384) : Br z b L X R o xs 1616 := by
  intro j h w5 w6 hj I
  obtain ⟨S, ls, Lo, K, A, tl, T, ft, s, C, H, ok, n, hT⟩ := I.un
  obtain ⟨kk, h1, vv, h2, k3, e1, s1, r1, e2, t2, r2, hk, hb, I2⟩ := both_W (fun _ => True) s C H n (Wr_335 (a := (xs (6 * j + 1))) (b := (xs (6 * j + 2))) (c := (zbz (xs (6 * j + 3)))) (XSk_K C.1.1) s.ol s.2.2.1.1 s.2.2.1.2 (by (first | omega | (unfold woK; repeat' split) <;> omega)) (C_worth (d := 8) s.2.2.2.1 C ok)) (by (first | omega | (unfold woK; repeat' split) <;> omega)) ok trivial (m2 := 264) (as2 := [.ref R, .int (xs (6 * j + 1)), .int (xs (6 * j + 2)), .int (zbz (xs (6 * j + 3))), zu, zu, zu, zu]) (fun h1 M1 => R_worth (d := 1) M1.2.1.1.2.1 M1.2.2.1 ok)
  clear n hT
  refine ⟨.int (nI kk), .int vv, h2, ?_, I2⟩
  refine (ev_fw Tb_26 1 (pc := 1616) (pc' := 1617) (ls' := (lsW b X R o (nI (6 * j)) w5 w6)) (st' := [.ref X]) (h' := h) rfl).trans ?_
  refine (e_arg (p := 1617) (cn := 1) (ls := (lsW b X R o (nI (6 * j)) w5 w6)) (st := [.ref X]) Tb_26 rfl rfl s (by omega) hL).trans ?_
  refine (e_arg (p := 1623) (cn := 2) (ls := (lsW b X R o (nI (6 * j)) w5 w6)) (st := [.int (xs (6 * j + 1)), .ref X]) Tb_26 rfl rfl s (by omega) hL).trans ?_
  refine (e_arg (p := 1629) (cn := 3) (ls := (lsW b X R o (nI (6 * j)) w5 w6)) (st := [.int (xs (6 * j + 2)), .int (xs (6 * j + 1)), .ref X]) Tb_26 rfl rfl s (by omega) hL).trans ?_
  refine (e_bz (p := 1635) (ls := (lsW b X R o (nI (6 * j)) w5 w6)) (st := [.int (xs (6 * j + 2)), .int (xs (6 * j + 1)), .ref X]) Tb_26 rfl rfl rfl).trans ?_
  refine (ev_fw Tb_26 1 (pc := 1643) (pc' := 1644) (ls' := (lsW b X R o (nI (6 * j)) w5 w6)) (st' := [.ref o, .int (zbz (xs (6 * j + 3))), .int (xs (6 * j + 2)), .int (xs (6 * j + 1)), .ref X]) (h' := h) rfl).trans ?_
  refine (e_K (pc := 1644) (m := 335) (rest := []) (ent := [.ref X, .int (xs (6 * j + 1)), .int (xs (6 * j + 2)), .int (zbz (xs (6 * j + 3))), .ref o, zu]) (Tb_26 _ _ rfl) rfl rfl rfl rfl rfl e1).trans ?_
  refine (ev_fw Tb_26 1 (pc := 1647) (pc' := 1649) (ls' := (lsW b X R o (nI (6 * j)) (.int (nI kk)) w6)) (st' := []) (h' := h1) rfl).trans ?_
  refine (ev_fw Tb_26 1 (pc := 1649) (pc' := 1650) (ls' := (lsW b X R o (nI (6 * j)) (.int (nI kk)) w6)) (st' := [.ref R]) (h' := h1) rfl).trans ?_
  refine (e_arg (p := 1650) (cn := 1) (ls := (lsW b X R o (nI (6 * j)) (.int (nI kk)) w6)) (st := [.ref R]) Tb_26 rfl rfl s1 (by omega) hL).trans ?_
  refine (e_arg (p := 1656) (cn := 2) (ls := (lsW b X R o (nI (6 * j)) (.int (nI kk)) w6)) (st := [.int (xs (6 * j + 1)), .ref R]) Tb_26 rfl rfl s1 (by omega) hL).trans ?_
  refine (e_arg (p := 1662) (cn := 3) (ls := (lsW b X R o (nI (6 * j)) (.int (nI kk)) w6)) (st := [.int (xs (6 * j + 2)), .int (xs (6 * j + 1)), .ref R]) Tb_26 rfl rfl s1 (by omega) hL).trans ?_
  refine (e_bz (p := 1668) (ls := (lsW b X R o (nI (6 * j)) (.int (nI kk)) w6)) (st := [.int (xs (6 * j + 2)), .int (xs (6 * j + 1)), .ref R]) Tb_26 rfl rfl rfl).trans ?_
  refine (e_K (pc := 1676) (m := 264) (rest := []) (ent := [.ref R, .int (xs (6 * j + 1)), .int (xs (6 * j + 2)), .int (zbz (xs (6 * j + 3))), zu, zu, zu, zu]) (Tb_26 _ _ rfl) rfl rfl (zsC_v rfl rfl rfl (RSk_K r1) (Nat.le_of_ble_eq_true rfl)) rfl rfl e2).trans ?_
  exact tailW (p := 1679) Tb_26 r2 t2 hk k3 I2.1.2.2.1.1 I2.1.2.2.1.2 rfl rfl rfl rfl rfl rfl rfl rfl rfl rfl rfl
theorem B_27 (hL : L ≤ 384) : Br z b L X R o xs 1712 := by
  intro j h w5 w6 hj I
  obtain ⟨S, ls, Lo, K, A, tl, T, ft, s, C, H, ok, n, hT⟩ := I.un
  obtain ⟨kk, h1, vv, h2, k3, e1, s1, r1, e2, t2, r2, hk, hb, I2⟩ := both_W (fun _ => True) s C H n (Wr_336 (a := (zbz (xs (6 * j + 1)))) (XSk_K C.1.1) s.ol s.2.2.1.1 s.2.2.1.2 (by (first | omega | (repeat' split) <;> omega)) (C_jars (d := 8) s.2.2.2.1 C ok.1.1)) (by (first | omega | (repeat' split) <;> omega)) ok trivial (m2 := 268) (as2 := [.ref R, .int (zbz (xs (6 * j + 1))), zu, zu, zu]) (fun h1 M1 => R_jars (d := 8) M1.2.2.1 ok.1.1)
  clear n hT
  refine ⟨.int (nI kk), .int vv, h2, ?_, I2⟩
  refine (ev_fw Tb_27 1 (pc := 1712) (pc' := 1713) (ls' := (lsW b X R o (nI (6 * j)) w5 w6)) (st' := [.ref X]) (h' := h) rfl).trans ?_
  refine (e_arg (p := 1713) (cn := 1) (ls := (lsW b X R o (nI (6 * j)) w5 w6)) (st := [.ref X]) Tb_27 rfl rfl s (by omega) hL).trans ?_
  refine (e_bz (p := 1719) (ls := (lsW b X R o (nI (6 * j)) w5 w6)) (st := [.ref X]) Tb_27 rfl rfl rfl).trans ?_
  refine (ev_fw Tb_27 1 (pc := 1727) (pc' := 1728) (ls' := (lsW b X R o (nI (6 * j)) w5 w6)) (st' := [.ref o, .int (zbz (xs (6 * j + 1))), .ref X]) (h' := h) rfl).trans ?_
  refine (e_K (pc := 1728) (m := 336) (rest := []) (ent := [.ref X, .int (zbz (xs (6 * j + 1))), .ref o, zu]) (Tb_27 _ _ rfl) rfl rfl rfl rfl rfl e1).trans ?_
  refine (ev_fw Tb_27 1 (pc := 1731) (pc' := 1733) (ls' := (lsW b X R o (nI (6 * j)) (.int (nI kk)) w6)) (st' := []) (h' := h1) rfl).trans ?_
  refine (ev_fw Tb_27 1 (pc := 1733) (pc' := 1734) (ls' := (lsW b X R o (nI (6 * j)) (.int (nI kk)) w6)) (st' := [.ref R]) (h' := h1) rfl).trans ?_
  refine (e_arg (p := 1734) (cn := 1) (ls := (lsW b X R o (nI (6 * j)) (.int (nI kk)) w6)) (st := [.ref R]) Tb_27 rfl rfl s1 (by omega) hL).trans ?_
  refine (e_bz (p := 1740) (ls := (lsW b X R o (nI (6 * j)) (.int (nI kk)) w6)) (st := [.ref R]) Tb_27 rfl rfl rfl).trans ?_
  refine (e_K (pc := 1748) (m := 268) (rest := []) (ent := [.ref R, .int (zbz (xs (6 * j + 1))), zu, zu, zu]) (Tb_27 _ _ rfl) rfl rfl (zsC_v rfl rfl rfl (RSk_K r1) (Nat.le_of_ble_eq_true rfl)) rfl rfl e2).trans ?_
  exact tailW (p := 1751) Tb_27 r2 t2 hk k3 I2.1.2.2.1.1 I2.1.2.2.1.2 rfl rfl rfl rfl rfl rfl rfl rfl rfl rfl rfl
theorem B_28 (hL : L ≤ 384) : Br z b L X R o xs 1784 := by
  intro j h w5 w6 hj I
  obtain ⟨S, ls, Lo, K, A, tl, T, ft, s, C, H, ok, n, hT⟩ := I.un
  obtain ⟨kk, h1, vv, h2, k3, e1, s1, r1, e2, t2, r2, hk, hb, I2⟩ := both_W (fun _ => True) s C H n (Wr_337  (XSk_K C.1.1) s.ol s.2.2.1.1 s.2.2.1.2 (by (first | omega | (repeat' split) <;> omega)) (C_ask (d := 8) s.2.2.2.1 C ok.1.1)) (by (first | omega | (repeat' split) <;> omega)) ok trivial (m2 := 269) (as2 := [.ref R, zu, zu, zu, zu, zu, zu]) (fun h1 M1 => R_ask (d := 8) M1.2.2.1 ok.1.1)
  clear n hT
  refine ⟨.int (nI kk), .int vv, h2, ?_, I2⟩
  refine (ev_fw Tb_28 1 (pc := 1784) (pc' := 1785) (ls' := (lsW b X R o (nI (6 * j)) w5 w6)) (st' := [.ref X]) (h' := h) rfl).trans ?_
  refine (ev_fw Tb_28 1 (pc := 1785) (pc' := 1786) (ls' := (lsW b X R o (nI (6 * j)) w5 w6)) (st' := [.ref o, .ref X]) (h' := h) rfl).trans ?_
  refine (e_K (pc := 1786) (m := 337) (rest := []) (ent := [.ref X, .ref o, zu]) (Tb_28 _ _ rfl) rfl rfl rfl rfl rfl e1).trans ?_
  refine (ev_fw Tb_28 1 (pc := 1789) (pc' := 1791) (ls' := (lsW b X R o (nI (6 * j)) (.int (nI kk)) w6)) (st' := []) (h' := h1) rfl).trans ?_
  refine (ev_fw Tb_28 1 (pc := 1791) (pc' := 1792) (ls' := (lsW b X R o (nI (6 * j)) (.int (nI kk)) w6)) (st' := [.ref R]) (h' := h1) rfl).trans ?_
  refine (e_K (pc := 1792) (m := 269) (rest := []) (ent := [.ref R, zu, zu, zu, zu, zu, zu]) (Tb_28 _ _ rfl) rfl rfl (zsC_v rfl rfl rfl (RSk_K r1) (Nat.le_of_ble_eq_true rfl)) rfl rfl e2).trans ?_
  exact tailW (p := 1795) Tb_28 r2 t2 hk k3 I2.1.2.2.1.1 I2.1.2.2.1.2 rfl rfl rfl rfl rfl rfl rfl rfl rfl rfl rfl
theorem B_29 (hL : L ≤ 384) : Br z b L X R o xs 1828 := by
  intro j h w5 w6 hj I
  obtain ⟨S, ls, Lo, K, A, tl, T, ft, s, C, H, ok, n, hT⟩ := I.un
  obtain ⟨kk, h1, vv, h2, k3, e1, s1, r1, e2, t2, r2, hk, hb, I2⟩ := both_W (fun w => w = 0 ∨ w = 1) s C H n (Wr_338 (a := (xs (6 * j + 1))) (XSk_K C.1.1) s.ol s.2.2.1.1 s.2.2.1.2 (by (first | omega | (unfold frK; repeat' split) <;> omega)) bI_01 (C_forged (d := 8) s.2.2.2.1 C ok.1.1)) (by (first | omega | (unfold frK; repeat' split) <;> omega)) ok bI_01 (m2 := 270) (as2 := [.ref R, .int (xs (6 * j + 1))]) (fun h1 M1 => R_forged (d := 8) M1.2.2.1 ok.1.1)
  clear n hT
  refine ⟨.int (nI kk), .int vv, h2, ?_, I2⟩
  refine (ev_fw Tb_29 1 (pc := 1828) (pc' := 1829) (ls' := (lsW b X R o (nI (6 * j)) w5 w6)) (st' := [.ref X]) (h' := h) rfl).trans ?_
  refine (e_arg (p := 1829) (cn := 1) (ls := (lsW b X R o (nI (6 * j)) w5 w6)) (st := [.ref X]) Tb_29 rfl rfl s (by omega) hL).trans ?_
  refine (ev_fw Tb_29 1 (pc := 1835) (pc' := 1836) (ls' := (lsW b X R o (nI (6 * j)) w5 w6)) (st' := [.ref o, .int (xs (6 * j + 1)), .ref X]) (h' := h) rfl).trans ?_
  refine (e_K (pc := 1836) (m := 338) (rest := []) (ent := [.ref X, .int (xs (6 * j + 1)), .ref o, zu]) (Tb_29 _ _ rfl) rfl rfl rfl rfl rfl e1).trans ?_
  refine (ev_fw Tb_29 1 (pc := 1839) (pc' := 1841) (ls' := (lsW b X R o (nI (6 * j)) (.int (nI kk)) w6)) (st' := []) (h' := h1) rfl).trans ?_
  refine (ev_fw Tb_29 1 (pc := 1841) (pc' := 1842) (ls' := (lsW b X R o (nI (6 * j)) (.int (nI kk)) w6)) (st' := [.ref R]) (h' := h1) rfl).trans ?_
  refine (e_arg (p := 1842) (cn := 1) (ls := (lsW b X R o (nI (6 * j)) (.int (nI kk)) w6)) (st := [.ref R]) Tb_29 rfl rfl s1 (by omega) hL).trans ?_
  refine (e_K (pc := 1848) (m := 270) (rest := []) (ent := [.ref R, .int (xs (6 * j + 1))]) (Tb_29 _ _ rfl) rfl rfl (zsC_v rfl rfl rfl (RSk_K r1) (Nat.le_of_ble_eq_true rfl)) rfl rfl e2).trans ?_
  exact tailB (p := 1851) Tb_29 r2 t2 hk hb k3 I2.1.2.2.1.1 I2.1.2.2.1.2 rfl rfl rfl rfl rfl rfl rfl rfl rfl rfl rfl rfl rfl rfl
theorem B_30 (hL : L ≤ 384) : Br z b L X R o xs 1891 := by
  intro j h w5 w6 hj I
  obtain ⟨S, ls, Lo, K, A, tl, T, ft, s, C, H, ok, n, hT⟩ := I.un
  obtain ⟨vv, h1, h2, e1, s1, r1, e2, I2⟩ := both_V s C H n (CE.of (C_apart (d := 8) C)) ok (m2 := 272) (as2 := [.ref R, zu, zu, zu, zu, zu]) (fun h1 M1 => RE.of (R_apart (d := 8) M1.2.2.1 ok.1.1))
  refine ⟨w5, w6, h2, ?_, I2⟩
  refine (ev_fw Tb_30 1 (pc := 1891) (pc' := 1892) (ls' := (lsW b X R o (nI (6 * j)) w5 w6)) (st' := [.ref X]) (h' := h) rfl).trans ?_
  refine (e_K (pc := 1892) (m := 131) (rest := []) (ent := [.ref X, zu, zu, zu]) (Tb_30 _ _ rfl) rfl rfl (zsC_v rfl rfl rfl (XSk_K C.1.1) (Nat.le_of_ble_eq_true rfl)) rfl rfl e1).trans ?_
  refine (ev_fw Tb_30 1 (pc := 1895) (pc' := 1896) (ls' := (lsW b X R o (nI (6 * j)) w5 w6)) (st' := [.ref R, .int vv]) (h' := h1) rfl).trans ?_
  refine (e_K (pc := 1896) (m := 272) (rest := [.int vv]) (ent := [.ref R, zu, zu, zu, zu, zu]) (Tb_30 _ _ rfl) rfl rfl (zsC_v rfl rfl rfl (RSk_K r1) (Nat.le_of_ble_eq_true rfl)) rfl rfl e2).trans ?_
  refine (e_icmp_eq (pc := 1899) (t := 2944) (Tb_30 _ _ rfl) (by omega)).trans ?_
  exact if_pos rfl
theorem B_31 (hL : L ≤ 384) : Br z b L X R o xs 1904 := by
  intro j h w5 w6 hj I
  obtain ⟨S, ls, Lo, K, A, tl, T, ft, s, C, H, ok, n, hT⟩ := I.un
  obtain ⟨vv, h1, h2, e1, s1, r1, e2, I2⟩ := both_V s C H n (CE.of (C_soonest (d := 8) C ok.1.1)) ok (m2 := 273) (as2 := [.ref R, .int (zbz (xs (6 * j + 1))), zu, zu, zu, zu]) (fun h1 M1 => RE.of (R_soonest (d := 8) M1.2.2.1 ok.1.1))
  refine ⟨w5, w6, h2, ?_, I2⟩
  refine (ev_fw Tb_31 1 (pc := 1904) (pc' := 1905) (ls' := (lsW b X R o (nI (6 * j)) w5 w6)) (st' := [.ref X]) (h' := h) rfl).trans ?_
  refine (e_arg (p := 1905) (cn := 1) (ls := (lsW b X R o (nI (6 * j)) w5 w6)) (st := [.ref X]) Tb_31 rfl rfl s (by omega) hL).trans ?_
  refine (e_bz (p := 1911) (ls := (lsW b X R o (nI (6 * j)) w5 w6)) (st := [.ref X]) Tb_31 rfl rfl rfl).trans ?_
  refine (e_K (pc := 1919) (m := 132) (rest := []) (ent := [.ref X, .int (zbz (xs (6 * j + 1))), zu, zu, zu, zu]) (Tb_31 _ _ rfl) rfl rfl (zsC_v rfl rfl rfl (XSk_K C.1.1) (Nat.le_of_ble_eq_true rfl)) rfl rfl e1).trans ?_
  refine (ev_fw Tb_31 1 (pc := 1922) (pc' := 1923) (ls' := (lsW b X R o (nI (6 * j)) w5 w6)) (st' := [.ref R, .int vv]) (h' := h1) rfl).trans ?_
  refine (e_arg (p := 1923) (cn := 1) (ls := (lsW b X R o (nI (6 * j)) w5 w6)) (st := [.ref R, .int vv]) Tb_31 rfl rfl s1 (by omega) hL).trans ?_
  refine (e_bz (p := 1929) (ls := (lsW b X R o (nI (6 * j)) w5 w6)) (st := [.ref R, .int vv]) Tb_31 rfl rfl rfl).trans ?_
  refine (e_K (pc := 1937) (m := 273) (rest := [.int vv]) (ent := [.ref R, .int (zbz (xs (6 * j + 1))), zu, zu, zu, zu]) (Tb_31 _ _ rfl) rfl rfl (zsC_v rfl rfl rfl (RSk_K r1) (Nat.le_of_ble_eq_true rfl)) rfl rfl e2).trans ?_
  refine (e_icmp_eq (pc := 1940) (t := 2944) (Tb_31 _ _ rfl) (by omega)).trans ?_
  exact if_pos rfl
theorem B_32 (hL : L ≤ 384) : Br z b L X R o xs 1945 := by
  intro j h w5 w6 hj I
  obtain ⟨S, ls, Lo, K, A, tl, T, ft, s, C, H, ok, n, hT⟩ := I.un
  obtain ⟨kk, h1, vv, h2, k3, e1, s1, r1, e2, t2, r2, hk, hb, I2⟩ := both_W (fun _ => True) s C H n (Wr_339 (a := (xs (6 * j + 1))) (b := (xs (6 * j + 2))) (XSk_K C.1.1) s.ol s.2.2.1.1 s.2.2.1.2 (by (first | omega | (unfold owK; repeat' split) <;> omega)) (C_owes (d := 8) s.2.2.2.1 C ok.1.1)) (by (first | omega | (unfold owK; repeat' split) <;> omega)) ok trivial (m2 := 275) (as2 := [.ref R, .int (xs (6 * j + 1)), .int (xs (6 * j + 2))]) (fun h1 M1 => R_owes (d := 8) M1.2.2.1 ok.1.1)
  clear n hT
  refine ⟨.int (nI kk), .int vv, h2, ?_, I2⟩
  refine (ev_fw Tb_32 1 (pc := 1945) (pc' := 1946) (ls' := (lsW b X R o (nI (6 * j)) w5 w6)) (st' := [.ref X]) (h' := h) rfl).trans ?_
  refine (e_arg (p := 1946) (cn := 1) (ls := (lsW b X R o (nI (6 * j)) w5 w6)) (st := [.ref X]) Tb_32 rfl rfl s (by omega) hL).trans ?_
  refine (e_arg (p := 1952) (cn := 2) (ls := (lsW b X R o (nI (6 * j)) w5 w6)) (st := [.int (xs (6 * j + 1)), .ref X]) Tb_32 rfl rfl s (by omega) hL).trans ?_
  refine (ev_fw Tb_32 1 (pc := 1958) (pc' := 1959) (ls' := (lsW b X R o (nI (6 * j)) w5 w6)) (st' := [.ref o, .int (xs (6 * j + 2)), .int (xs (6 * j + 1)), .ref X]) (h' := h) rfl).trans ?_
  refine (e_K (pc := 1959) (m := 339) (rest := []) (ent := [.ref X, .int (xs (6 * j + 1)), .int (xs (6 * j + 2)), .ref o, zu]) (Tb_32 _ _ rfl) rfl rfl rfl rfl rfl e1).trans ?_
  refine (ev_fw Tb_32 1 (pc := 1962) (pc' := 1964) (ls' := (lsW b X R o (nI (6 * j)) (.int (nI kk)) w6)) (st' := []) (h' := h1) rfl).trans ?_
  refine (ev_fw Tb_32 1 (pc := 1964) (pc' := 1965) (ls' := (lsW b X R o (nI (6 * j)) (.int (nI kk)) w6)) (st' := [.ref R]) (h' := h1) rfl).trans ?_
  refine (e_arg (p := 1965) (cn := 1) (ls := (lsW b X R o (nI (6 * j)) (.int (nI kk)) w6)) (st := [.ref R]) Tb_32 rfl rfl s1 (by omega) hL).trans ?_
  refine (e_arg (p := 1971) (cn := 2) (ls := (lsW b X R o (nI (6 * j)) (.int (nI kk)) w6)) (st := [.int (xs (6 * j + 1)), .ref R]) Tb_32 rfl rfl s1 (by omega) hL).trans ?_
  refine (e_K (pc := 1977) (m := 275) (rest := []) (ent := [.ref R, .int (xs (6 * j + 1)), .int (xs (6 * j + 2))]) (Tb_32 _ _ rfl) rfl rfl (zsC_v rfl rfl rfl (RSk_K r1) (Nat.le_of_ble_eq_true rfl)) rfl rfl e2).trans ?_
  exact tailW (p := 1980) Tb_32 r2 t2 hk k3 I2.1.2.2.1.1 I2.1.2.2.1.2 rfl rfl rfl rfl rfl rfl rfl rfl rfl rfl rfl
theorem B_33 (hL : L ≤ 384) : Br z b L X R o xs 2013 := by
  intro j h w5 w6 hj I
  obtain ⟨S, ls, Lo, K, A, tl, T, ft, s, C, H, ok, n, hT⟩ := I.un
  obtain ⟨vv, h1, h2, e1, s1, r1, e2, I2⟩ := both_V s C H n (CE.of (C_cleared (d := 8) C ok.1.1)) ok (m2 := 277) (as2 := [.ref R]) (fun h1 M1 => RE.of (R_cleared (d := 8) M1.2.2.1 ok.1.1))
  refine ⟨w5, w6, h2, ?_, I2⟩
  refine (ev_fw Tb_33 1 (pc := 2013) (pc' := 2014) (ls' := (lsW b X R o (nI (6 * j)) w5 w6)) (st' := [.ref X]) (h' := h) rfl).trans ?_
  refine (e_K (pc := 2014) (m := 134) (rest := []) (ent := [.ref X]) (Tb_33 _ _ rfl) rfl rfl (zsC_v rfl rfl rfl (XSk_K C.1.1) (Nat.le_of_ble_eq_true rfl)) rfl rfl e1).trans ?_
  refine (ev_fw Tb_33 1 (pc := 2017) (pc' := 2018) (ls' := (lsW b X R o (nI (6 * j)) w5 w6)) (st' := [.ref R, .int vv]) (h' := h1) rfl).trans ?_
  refine (e_K (pc := 2018) (m := 277) (rest := [.int vv]) (ent := [.ref R]) (Tb_33 _ _ rfl) rfl rfl (zsC_v rfl rfl rfl (RSk_K r1) (Nat.le_of_ble_eq_true rfl)) rfl rfl e2).trans ?_
  refine (e_icmp_eq (pc := 2021) (t := 2944) (Tb_33 _ _ rfl) (by omega)).trans ?_
  exact if_pos rfl
theorem B_34 (hL : L ≤ 384) : Br z b L X R o xs 2026 := by
  intro j h w5 w6 hj I
  obtain ⟨S, ls, Lo, K, A, tl, T, ft, s, C, H, ok, n, hT⟩ := I.un
  obtain ⟨kk, h1, vv, h2, k3, e1, s1, r1, e2, t2, r2, hk, hb, I2⟩ := both_W (fun w => w = 0 ∨ w = 1) s C H n (Wr_340 (a := (xs (6 * j + 1))) (XSk_K C.1.1) s.ol s.2.2.1.1 s.2.2.1.2 (by (first | omega | (repeat' split) <;> omega)) bI_01 (C_ring (d := 8) s.2.2.2.1 C ok.1.1)) (by (first | omega | (repeat' split) <;> omega)) ok bI_01 (m2 := 278) (as2 := [.ref R, .int (xs (6 * j + 1)), zu, zu, zu, zu, zu]) (fun h1 M1 => R_ring (d := 8) M1.2.2.1 ok.1.1)
  clear n hT
  refine ⟨.int (nI kk), .int vv, h2, ?_, I2⟩
  refine (ev_fw Tb_34 1 (pc := 2026) (pc' := 2027) (ls' := (lsW b X R o (nI (6 * j)) w5 w6)) (st' := [.ref X]) (h' := h) rfl).trans ?_
  refine (e_arg (p := 2027) (cn := 1) (ls := (lsW b X R o (nI (6 * j)) w5 w6)) (st := [.ref X]) Tb_34 rfl rfl s (by omega) hL).trans ?_
  refine (ev_fw Tb_34 1 (pc := 2033) (pc' := 2034) (ls' := (lsW b X R o (nI (6 * j)) w5 w6)) (st' := [.ref o, .int (xs (6 * j + 1)), .ref X]) (h' := h) rfl).trans ?_
  refine (e_K (pc := 2034) (m := 340) (rest := []) (ent := [.ref X, .int (xs (6 * j + 1)), .ref o, zu]) (Tb_34 _ _ rfl) rfl rfl rfl rfl rfl e1).trans ?_
  refine (ev_fw Tb_34 1 (pc := 2037) (pc' := 2039) (ls' := (lsW b X R o (nI (6 * j)) (.int (nI kk)) w6)) (st' := []) (h' := h1) rfl).trans ?_
  refine (ev_fw Tb_34 1 (pc := 2039) (pc' := 2040) (ls' := (lsW b X R o (nI (6 * j)) (.int (nI kk)) w6)) (st' := [.ref R]) (h' := h1) rfl).trans ?_
  refine (e_arg (p := 2040) (cn := 1) (ls := (lsW b X R o (nI (6 * j)) (.int (nI kk)) w6)) (st := [.ref R]) Tb_34 rfl rfl s1 (by omega) hL).trans ?_
  refine (e_K (pc := 2046) (m := 278) (rest := []) (ent := [.ref R, .int (xs (6 * j + 1)), zu, zu, zu, zu, zu]) (Tb_34 _ _ rfl) rfl rfl (zsC_v rfl rfl rfl (RSk_K r1) (Nat.le_of_ble_eq_true rfl)) rfl rfl e2).trans ?_
  exact tailB (p := 2049) Tb_34 r2 t2 hk hb k3 I2.1.2.2.1.1 I2.1.2.2.1.2 rfl rfl rfl rfl rfl rfl rfl rfl rfl rfl rfl rfl rfl rfl
theorem B_35 (hL : L ≤ 384) : Br z b L X R o xs 2089 := by
  intro j h w5 w6 hj I
  obtain ⟨S, ls, Lo, K, A, tl, T, ft, s, C, H, ok, n, hT⟩ := I.un
  obtain ⟨vv, h1, h2, e1, s1, r1, e2, I2⟩ := both_V s C H n (CE.of (C_pivot (d := 8) C ok.1.1)) ok (m2 := 279) (as2 := [.ref R, zu, zu]) (fun h1 M1 => RE.of (R_pivot (d := 8) M1.2.2.1 ok.1.1))
  refine ⟨w5, w6, h2, ?_, I2⟩
  refine (ev_fw Tb_35 1 (pc := 2089) (pc' := 2090) (ls' := (lsW b X R o (nI (6 * j)) w5 w6)) (st' := [.ref X]) (h' := h) rfl).trans ?_
  refine (e_K (pc := 2090) (m := 136) (rest := []) (ent := [.ref X, zu, zu, zu, zu]) (Tb_35 _ _ rfl) rfl rfl (zsC_v rfl rfl rfl (XSk_K C.1.1) (Nat.le_of_ble_eq_true rfl)) rfl rfl e1).trans ?_
  refine (ev_fw Tb_35 1 (pc := 2093) (pc' := 2094) (ls' := (lsW b X R o (nI (6 * j)) w5 w6)) (st' := [.ref R, .int vv]) (h' := h1) rfl).trans ?_
  refine (e_K (pc := 2094) (m := 279) (rest := [.int vv]) (ent := [.ref R, zu, zu]) (Tb_35 _ _ rfl) rfl rfl (zsC_v rfl rfl rfl (RSk_K r1) (Nat.le_of_ble_eq_true rfl)) rfl rfl e2).trans ?_
  refine (e_icmp_eq (pc := 2097) (t := 2944) (Tb_35 _ _ rfl) (by omega)).trans ?_
  exact if_pos rfl
theorem B_36 (hL : L ≤ 384) : Br z b L X R o xs 2102 := by
  intro j h w5 w6 hj I
  obtain ⟨S, ls, Lo, K, A, tl, T, ft, s, C, H, ok, n, hT⟩ := I.un
  obtain ⟨kk, h1, vv, h2, k3, e1, s1, r1, e2, t2, r2, hk, hb, I2⟩ := both_W (fun _ => True) s C H n (Wr_341 (a := (xs (6 * j + 1))) (XSk_K C.1.1) s.ol s.2.2.1.1 s.2.2.1.2 (by (first | omega | (unfold buK; repeat' split) <;> omega)) (C_buyers (d := 8) s.2.2.2.1 C ok)) (by (first | omega | (unfold buK; repeat' split) <;> omega)) ok trivial (m2 := 283) (as2 := [.ref R, .int (xs (6 * j + 1)), zu, zu, zu, zu]) (fun h1 M1 => R_buyers (d := 1) M1.2.1.1.2.1 M1.2.2.1 ok)
  clear n hT
  refine ⟨.int (nI kk), .int vv, h2, ?_, I2⟩
  refine (ev_fw Tb_36 1 (pc := 2102) (pc' := 2103) (ls' := (lsW b X R o (nI (6 * j)) w5 w6)) (st' := [.ref X]) (h' := h) rfl).trans ?_
  refine (e_arg (p := 2103) (cn := 1) (ls := (lsW b X R o (nI (6 * j)) w5 w6)) (st := [.ref X]) Tb_36 rfl rfl s (by omega) hL).trans ?_
  refine (ev_fw Tb_36 1 (pc := 2109) (pc' := 2110) (ls' := (lsW b X R o (nI (6 * j)) w5 w6)) (st' := [.ref o, .int (xs (6 * j + 1)), .ref X]) (h' := h) rfl).trans ?_
  refine (e_K (pc := 2110) (m := 341) (rest := []) (ent := [.ref X, .int (xs (6 * j + 1)), .ref o, zu]) (Tb_36 _ _ rfl) rfl rfl rfl rfl rfl e1).trans ?_
  refine (ev_fw Tb_36 1 (pc := 2113) (pc' := 2115) (ls' := (lsW b X R o (nI (6 * j)) (.int (nI kk)) w6)) (st' := []) (h' := h1) rfl).trans ?_
  refine (ev_fw Tb_36 1 (pc := 2115) (pc' := 2116) (ls' := (lsW b X R o (nI (6 * j)) (.int (nI kk)) w6)) (st' := [.ref R]) (h' := h1) rfl).trans ?_
  refine (e_arg (p := 2116) (cn := 1) (ls := (lsW b X R o (nI (6 * j)) (.int (nI kk)) w6)) (st := [.ref R]) Tb_36 rfl rfl s1 (by omega) hL).trans ?_
  refine (e_K (pc := 2122) (m := 283) (rest := []) (ent := [.ref R, .int (xs (6 * j + 1)), zu, zu, zu, zu]) (Tb_36 _ _ rfl) rfl rfl (zsC_v rfl rfl rfl (RSk_K r1) (Nat.le_of_ble_eq_true rfl)) rfl rfl e2).trans ?_
  exact tailW (p := 2125) Tb_36 r2 t2 hk k3 I2.1.2.2.1.1 I2.1.2.2.1.2 rfl rfl rfl rfl rfl rfl rfl rfl rfl rfl rfl
end
