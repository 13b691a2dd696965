/-! THE LAW'S BRANCHES -/
section
variable {z : ZE} {b L X R o : Nat} {xs : Nat → Int32}
theorem B_37 (hL : L ≤ 384) : Br z b L X R o xs 2158 := by
  intro j h w5 w6 hj I
  obtain ⟨S, ls, Lo, K, A, tl, T, ft, s, C, H, ok, n, hT⟩ := I.un
  obtain ⟨kk, h1, vv, h2, k3, e1, s1, r1, e2, t2, r2, hk, hb, I2⟩ := both_W (fun _ => True) s C H n (Wr_342 (a := (xs (6 * j + 1))) (b := (xs (6 * j + 2))) (c := (xs (6 * j + 3))) (XSk_K C.1.1) s.ol s.2.2.1.1 s.2.2.1.2 (by (first | omega | (unfold rsK; repeat' split) <;> omega)) (C_rests (d := 8) s.2.2.2.1 C ok)) (by (first | omega | (unfold rsK; repeat' split) <;> omega)) ok trivial (m2 := 285) (as2 := [.ref R, .int (xs (6 * j + 1)), .int (xs (6 * j + 2)), .int (xs (6 * j + 3)), zu, zu, zu, zu]) (fun h1 M1 => R_rests (d := 1) M1.2.1.1.2.1 M1.2.2.1 ok)
  clear n hT
  refine ⟨.int (nI kk), .int vv, h2, ?_, I2⟩
  refine (ev_fw Tb_37 1 (pc := 2158) (pc' := 2159) (ls' := (lsW b X R o (nI (6 * j)) w5 w6)) (st' := [.ref X]) (h' := h) rfl).trans ?_
  refine (e_arg (p := 2159) (cn := 1) (ls := (lsW b X R o (nI (6 * j)) w5 w6)) (st := [.ref X]) Tb_37 rfl rfl s (by omega) hL).trans ?_
  refine (e_arg (p := 2165) (cn := 2) (ls := (lsW b X R o (nI (6 * j)) w5 w6)) (st := [.int (xs (6 * j + 1)), .ref X]) Tb_37 rfl rfl s (by omega) hL).trans ?_
  refine (e_arg (p := 2171) (cn := 3) (ls := (lsW b X R o (nI (6 * j)) w5 w6)) (st := [.int (xs (6 * j + 2)), .int (xs (6 * j + 1)), .ref X]) Tb_37 rfl rfl s (by omega) hL).trans ?_
  refine (ev_fw Tb_37 1 (pc := 2177) (pc' := 2178) (ls' := (lsW b X R o (nI (6 * j)) w5 w6)) (st' := [.ref o, .int (xs (6 * j + 3)), .int (xs (6 * j + 2)), .int (xs (6 * j + 1)), .ref X]) (h' := h) rfl).trans ?_
  refine (e_K (pc := 2178) (m := 342) (rest := []) (ent := [.ref X, .int (xs (6 * j + 1)), .int (xs (6 * j + 2)), .int (xs (6 * j + 3)), .ref o, zu]) (Tb_37 _ _ rfl) rfl rfl rfl rfl rfl e1).trans ?_
  refine (ev_fw Tb_37 1 (pc := 2181) (pc' := 2183) (ls' := (lsW b X R o (nI (6 * j)) (.int (nI kk)) w6)) (st' := []) (h' := h1) rfl).trans ?_
  refine (ev_fw Tb_37 1 (pc := 2183) (pc' := 2184) (ls' := (lsW b X R o (nI (6 * j)) (.int (nI kk)) w6)) (st' := [.ref R]) (h' := h1) rfl).trans ?_
  refine (e_arg (p := 2184) (cn := 1) (ls := (lsW b X R o (nI (6 * j)) (.int (nI kk)) w6)) (st := [.ref R]) Tb_37 rfl rfl s1 (by omega) hL).trans ?_
  refine (e_arg (p := 2190) (cn := 2) (ls := (lsW b X R o (nI (6 * j)) (.int (nI kk)) w6)) (st := [.int (xs (6 * j + 1)), .ref R]) Tb_37 rfl rfl s1 (by omega) hL).trans ?_
  refine (e_arg (p := 2196) (cn := 3) (ls := (lsW b X R o (nI (6 * j)) (.int (nI kk)) w6)) (st := [.int (xs (6 * j + 2)), .int (xs (6 * j + 1)), .ref R]) Tb_37 rfl rfl s1 (by omega) hL).trans ?_
  refine (e_K (pc := 2202) (m := 285) (rest := []) (ent := [.ref R, .int (xs (6 * j + 1)), .int (xs (6 * j + 2)), .int (xs (6 * j + 3)), zu, zu, zu, zu]) (Tb_37 _ _ rfl) rfl rfl (zsC_v rfl rfl rfl (RSk_K r1) (Nat.le_of_ble_eq_true rfl)) rfl rfl e2).trans ?_
  exact tailW (p := 2205) Tb_37 r2 t2 hk k3 I2.1.2.2.1.1 I2.1.2.2.1.2 rfl rfl rfl rfl rfl rfl rfl rfl rfl rfl rfl
theorem B_38 (hL : L ≤ 384) : Br z b L X R o xs 2238 := by
  intro j h w5 w6 hj I
  obtain ⟨S, ls, Lo, K, A, tl, T, ft, s, C, H, ok, n, hT⟩ := I.un
  obtain ⟨kk, h1, vv, h2, k3, e1, s1, r1, e2, t2, r2, hk, hb, I2⟩ := both_W (fun _ => True) s C H n (Wr_343 (a := (xs (6 * j + 1))) (b := (xs (6 * j + 2))) (XSk_K C.1.1) s.ol s.2.2.1.1 s.2.2.1.2 (by (first | omega | (unfold odK; repeat' split) <;> omega)) (C_odds (d := 8) s.2.2.2.1 C)) (by (first | omega | (unfold odK; repeat' split) <;> omega)) ok trivial (m2 := 286) (as2 := [.ref R, .int (xs (6 * j + 1)), .int (xs (6 * j + 2)), zu, zu, zu, zu, zu, zu, zu, zu]) (fun h1 M1 => R_odds (d := 8) M1.2.2.1)
  clear n hT
  refine ⟨.int (nI kk), .int vv, h2, ?_, I2⟩
  refine (ev_fw Tb_38 1 (pc := 2238) (pc' := 2239) (ls' := (lsW b X R o (nI (6 * j)) w5 w6)) (st' := [.ref X]) (h' := h) rfl).trans ?_
  refine (e_arg (p := 2239) (cn := 1) (ls := (lsW b X R o (nI (6 * j)) w5 w6)) (st := [.ref X]) Tb_38 rfl rfl s (by omega) hL).trans ?_
  refine (e_arg (p := 2245) (cn := 2) (ls := (lsW b X R o (nI (6 * j)) w5 w6)) (st := [.int (xs (6 * j + 1)), .ref X]) Tb_38 rfl rfl s (by omega) hL).trans ?_
  refine (ev_fw Tb_38 1 (pc := 2251) (pc' := 2252) (ls' := (lsW b X R o (nI (6 * j)) w5 w6)) (st' := [.ref o, .int (xs (6 * j + 2)), .int (xs (6 * j + 1)), .ref X]) (h' := h) rfl).trans ?_
  refine (e_K (pc := 2252) (m := 343) (rest := []) (ent := [.ref X, .int (xs (6 * j + 1)), .int (xs (6 * j + 2)), .ref o, zu]) (Tb_38 _ _ rfl) rfl rfl rfl rfl rfl e1).trans ?_
  refine (ev_fw Tb_38 1 (pc := 2255) (pc' := 2257) (ls' := (lsW b X R o (nI (6 * j)) (.int (nI kk)) w6)) (st' := []) (h' := h1) rfl).trans ?_
  refine (ev_fw Tb_38 1 (pc := 2257) (pc' := 2258) (ls' := (lsW b X R o (nI (6 * j)) (.int (nI kk)) w6)) (st' := [.ref R]) (h' := h1) rfl).trans ?_
  refine (e_arg (p := 2258) (cn := 1) (ls := (lsW b X R o (nI (6 * j)) (.int (nI kk)) w6)) (st := [.ref R]) Tb_38 rfl rfl s1 (by omega) hL).trans ?_
  refine (e_arg (p := 2264) (cn := 2) (ls := (lsW b X R o (nI (6 * j)) (.int (nI kk)) w6)) (st := [.int (xs (6 * j + 1)), .ref R]) Tb_38 rfl rfl s1 (by omega) hL).trans ?_
  refine (e_K (pc := 2270) (m := 286) (rest := []) (ent := [.ref R, .int (xs (6 * j + 1)), .int (xs (6 * j + 2)), zu, zu, zu, zu, zu, zu, zu, zu]) (Tb_38 _ _ rfl) rfl rfl (zsC_v rfl rfl rfl (RSk_K r1) (Nat.le_of_ble_eq_true rfl)) rfl rfl e2).trans ?_
  exact tailW (p := 2273) Tb_38 r2 t2 hk k3 I2.1.2.2.1.1 I2.1.2.2.1.2 rfl rfl rfl rfl rfl rfl rfl rfl rfl rfl rfl
theorem B_39 (hL : L ≤ 384) : Br z b L X R o xs 2306 := by
  intro j h w5 w6 hj I
  obtain ⟨S, ls, Lo, K, A, tl, T, ft, s, C, H, ok, n, hT⟩ := I.un
  obtain ⟨kk, h1, vv, h2, k3, e1, s1, r1, e2, t2, r2, hk, hb, I2⟩ := both_W (fun _ => True) s C H n (Wr_344 (a := (xs (6 * j + 1))) (XSk_K C.1.1) s.ol s.2.2.1.1 s.2.2.1.2 (by (first | omega | (repeat' split) <;> omega)) (C_early (d := 8) s.2.2.2.1 C ok)) (by (first | omega | (repeat' split) <;> omega)) ok trivial (m2 := 287) (as2 := [.ref R, .int (xs (6 * j + 1)), zu, zu]) (fun h1 M1 => R_early (d := 1) M1.2.1.1.2.1 M1.2.2.1 ok)
  clear n hT
  refine ⟨.int (nI kk), .int vv, h2, ?_, I2⟩
  refine (ev_fw Tb_39 1 (pc := 2306) (pc' := 2307) (ls' := (lsW b X R o (nI (6 * j)) w5 w6)) (st' := [.ref X]) (h' := h) rfl).trans ?_
  refine (e_arg (p := 2307) (cn := 1) (ls := (lsW b X R o (nI (6 * j)) w5 w6)) (st := [.ref X]) Tb_39 rfl rfl s (by omega) hL).trans ?_
  refine (ev_fw Tb_39 1 (pc := 2313) (pc' := 2314) (ls' := (lsW b X R o (nI (6 * j)) w5 w6)) (st' := [.ref o, .int (xs (6 * j + 1)), .ref X]) (h' := h) rfl).trans ?_
  refine (e_K (pc := 2314) (m := 344) (rest := []) (ent := [.ref X, .int (xs (6 * j + 1)), .ref o, zu]) (Tb_39 _ _ rfl) rfl rfl rfl rfl rfl e1).trans ?_
  refine (ev_fw Tb_39 1 (pc := 2317) (pc' := 2319) (ls' := (lsW b X R o (nI (6 * j)) (.int (nI kk)) w6)) (st' := []) (h' := h1) rfl).trans ?_
  refine (ev_fw Tb_39 1 (pc := 2319) (pc' := 2320) (ls' := (lsW b X R o (nI (6 * j)) (.int (nI kk)) w6)) (st' := [.ref R]) (h' := h1) rfl).trans ?_
  refine (e_arg (p := 2320) (cn := 1) (ls := (lsW b X R o (nI (6 * j)) (.int (nI kk)) w6)) (st := [.ref R]) Tb_39 rfl rfl s1 (by omega) hL).trans ?_
  refine (e_K (pc := 2326) (m := 287) (rest := []) (ent := [.ref R, .int (xs (6 * j + 1)), zu, zu]) (Tb_39 _ _ rfl) rfl rfl (zsC_v rfl rfl rfl (RSk_K r1) (Nat.le_of_ble_eq_true rfl)) rfl rfl e2).trans ?_
  exact tailW (p := 2329) Tb_39 r2 t2 hk k3 I2.1.2.2.1.1 I2.1.2.2.1.2 rfl rfl rfl rfl rfl rfl rfl rfl rfl rfl rfl
theorem B_40 (hL : L ≤ 384) : Br z b L X R o xs 2362 := by
  intro j h w5 w6 hj I
  obtain ⟨S, ls, Lo, K, A, tl, T, ft, s, C, H, ok, n, hT⟩ := I.un
  obtain ⟨vv, h1, h2, e1, s1, r1, e2, I2⟩ := both_V s C H n (CE.of (C_richest (d := 8) C ok.1.1)) ok (m2 := 288) (as2 := [.ref R, zu, zu]) (fun h1 M1 => RE.of (R_richest (d := 8) M1.2.2.1 ok.1.1))
  refine ⟨w5, w6, h2, ?_, I2⟩
  refine (ev_fw Tb_40 1 (pc := 2362) (pc' := 2363) (ls' := (lsW b X R o (nI (6 * j)) w5 w6)) (st' := [.ref X]) (h' := h) rfl).trans ?_
  refine (e_K (pc := 2363) (m := 141) (rest := []) (ent := [.ref X, zu, zu, zu]) (Tb_40 _ _ rfl) rfl rfl (zsC_v rfl rfl rfl (XSk_K C.1.1) (Nat.le_of_ble_eq_true rfl)) rfl rfl e1).trans ?_
  refine (ev_fw Tb_40 1 (pc := 2366) (pc' := 2367) (ls' := (lsW b X R o (nI (6 * j)) w5 w6)) (st' := [.ref R, .int vv]) (h' := h1) rfl).trans ?_
  refine (e_K (pc := 2367) (m := 288) (rest := [.int vv]) (ent := [.ref R, zu, zu]) (Tb_40 _ _ rfl) rfl rfl (zsC_v rfl rfl rfl (RSk_K r1) (Nat.le_of_ble_eq_true rfl)) rfl rfl e2).trans ?_
  refine (e_icmp_eq (pc := 2370) (t := 2944) (Tb_40 _ _ rfl) (by omega)).trans ?_
  exact if_pos rfl
theorem B_41 (hL : L ≤ 384) : Br z b L X R o xs 2375 := by
  intro j h w5 w6 hj I
  obtain ⟨S, ls, Lo, K, A, tl, T, ft, s, C, H, ok, n, hT⟩ := I.un
  obtain ⟨vv, h1, h2, e1, s1, r1, e2, I2⟩ := both_V s C H n (CE.of (C_alike (d := 8) C ok.1.1)) ok (m2 := 290) (as2 := [.ref R, zu, zu, zu]) (fun h1 M1 => RE.of (R_alike (d := 8) M1.2.2.1 ok.1.1))
  refine ⟨w5, w6, h2, ?_, I2⟩
  refine (ev_fw Tb_41 1 (pc := 2375) (pc' := 2376) (ls' := (lsW b X R o (nI (6 * j)) w5 w6)) (st' := [.ref X]) (h' := h) rfl).trans ?_
  refine (e_K (pc := 2376) (m := 142) (rest := []) (ent := [.ref X, zu, zu, zu]) (Tb_41 _ _ rfl) rfl rfl (zsC_v rfl rfl rfl (XSk_K C.1.1) (Nat.le_of_ble_eq_true rfl)) rfl rfl e1).trans ?_
  refine (ev_fw Tb_41 1 (pc := 2379) (pc' := 2380) (ls' := (lsW b X R o (nI (6 * j)) w5 w6)) (st' := [.ref R, .int vv]) (h' := h1) rfl).trans ?_
  refine (e_K (pc := 2380) (m := 290) (rest := [.int vv]) (ent := [.ref R, zu, zu, zu]) (Tb_41 _ _ rfl) rfl rfl (zsC_v rfl rfl rfl (RSk_K r1) (Nat.le_of_ble_eq_true rfl)) rfl rfl e2).trans ?_
  refine (e_icmp_eq (pc := 2383) (t := 2944) (Tb_41 _ _ rfl) (by omega)).trans ?_
  exact if_pos rfl
theorem B_42 (hL : L ≤ 384) : Br z b L X R o xs 2388 := by
  intro j h w5 w6 hj I
  obtain ⟨S, ls, Lo, K, A, tl, T, ft, s, C, H, ok, n, hT⟩ := I.un
  obtain ⟨vv, h1, h2, e1, s1, r1, e2, I2⟩ := both_V s C H n (CE.of (C_broken (d := 8) C ok.1.1)) ok (m2 := 291) (as2 := [.ref R]) (fun h1 M1 => RE.of (R_broken (d := 8) M1.2.2.1 ok.1.1))
  refine ⟨w5, w6, h2, ?_, I2⟩
  refine (ev_fw Tb_42 1 (pc := 2388) (pc' := 2389) (ls' := (lsW b X R o (nI (6 * j)) w5 w6)) (st' := [.ref X]) (h' := h) rfl).trans ?_
  refine (e_K (pc := 2389) (m := 143) (rest := []) (ent := [.ref X]) (Tb_42 _ _ rfl) rfl rfl (zsC_v rfl rfl rfl (XSk_K C.1.1) (Nat.le_of_ble_eq_true rfl)) rfl rfl e1).trans ?_
  refine (ev_fw Tb_42 1 (pc := 2392) (pc' := 2393) (ls' := (lsW b X R o (nI (6 * j)) w5 w6)) (st' := [.ref R, .int vv]) (h' := h1) rfl).trans ?_
  refine (e_K (pc := 2393) (m := 291) (rest := [.int vv]) (ent := [.ref R]) (Tb_42 _ _ rfl) rfl rfl (zsC_v rfl rfl rfl (RSk_K r1) (Nat.le_of_ble_eq_true rfl)) rfl rfl e2).trans ?_
  refine (e_icmp_eq (pc := 2396) (t := 2944) (Tb_42 _ _ rfl) (by omega)).trans ?_
  exact if_pos rfl
theorem B_43 (hL : L ≤ 384) : Br z b L X R o xs 2401 := by
  intro j h w5 w6 hj I
  obtain ⟨S, ls, Lo, K, A, tl, T, ft, s, C, H, ok, n, hT⟩ := I.un
  obtain ⟨kk, h1, vv, h2, k3, e1, s1, r1, e2, t2, r2, hk, hb, I2⟩ := both_W (fun _ => True) s C H n (Wr_345 (a := (xs (6 * j + 1))) (b := (xs (6 * j + 2))) (c := (xs (6 * j + 3))) (XSk_K C.1.1) s.ol s.2.2.1.1 s.2.2.1.2 (by (first | omega | (unfold ahK; repeat' split) <;> omega)) (C_ahead (d := 8) s.2.2.2.1 C ok)) (by (first | omega | (unfold ahK; repeat' split) <;> omega)) ok trivial (m2 := 292) (as2 := [.ref R, .int (xs (6 * j + 1)), .int (xs (6 * j + 2)), .int (xs (6 * j + 3)), zu, zu]) (fun h1 M1 => R_ahead (d := 1) M1.2.1.1.2.1 M1.2.2.1 ok)
  clear n hT
  refine ⟨.int (nI kk), .int vv, h2, ?_, I2⟩
  refine (ev_fw Tb_43 1 (pc := 2401) (pc' := 2402) (ls' := (lsW b X R o (nI (6 * j)) w5 w6)) (st' := [.ref X]) (h' := h) rfl).trans ?_
  refine (e_arg (p := 2402) (cn := 1) (ls := (lsW b X R o (nI (6 * j)) w5 w6)) (st := [.ref X]) Tb_43 rfl rfl s (by omega) hL).trans ?_
  refine (e_arg (p := 2408) (cn := 2) (ls := (lsW b X R o (nI (6 * j)) w5 w6)) (st := [.int (xs (6 * j + 1)), .ref X]) Tb_43 rfl rfl s (by omega) hL).trans ?_
  refine (e_arg (p := 2414) (cn := 3) (ls := (lsW b X R o (nI (6 * j)) w5 w6)) (st := [.int (xs (6 * j + 2)), .int (xs (6 * j + 1)), .ref X]) Tb_43 rfl rfl s (by omega) hL).trans ?_
  refine (ev_fw Tb_43 1 (pc := 2420) (pc' := 2421) (ls' := (lsW b X R o (nI (6 * j)) w5 w6)) (st' := [.ref o, .int (xs (6 * j + 3)), .int (xs (6 * j + 2)), .int (xs (6 * j + 1)), .ref X]) (h' := h) rfl).trans ?_
  refine (e_K (pc := 2421) (m := 345) (rest := []) (ent := [.ref X, .int (xs (6 * j + 1)), .int (xs (6 * j + 2)), .int (xs (6 * j + 3)), .ref o, zu]) (Tb_43 _ _ rfl) rfl rfl rfl rfl rfl e1).trans ?_
  refine (ev_fw Tb_43 1 (pc := 2424) (pc' := 2426) (ls' := (lsW b X R o (nI (6 * j)) (.int (nI kk)) w6)) (st' := []) (h' := h1) rfl).trans ?_
  refine (ev_fw Tb_43 1 (pc := 2426) (pc' := 2427) (ls' := (lsW b X R o (nI (6 * j)) (.int (nI kk)) w6)) (st' := [.ref R]) (h' := h1) rfl).trans ?_
  refine (e_arg (p := 2427) (cn := 1) (ls := (lsW b X R o (nI (6 * j)) (.int (nI kk)) w6)) (st := [.ref R]) Tb_43 rfl rfl s1 (by omega) hL).trans ?_
  refine (e_arg (p := 2433) (cn := 2) (ls := (lsW b X R o (nI (6 * j)) (.int (nI kk)) w6)) (st := [.int (xs (6 * j + 1)), .ref R]) Tb_43 rfl rfl s1 (by omega) hL).trans ?_
  refine (e_arg (p := 2439) (cn := 3) (ls := (lsW b X R o (nI (6 * j)) (.int (nI kk)) w6)) (st := [.int (xs (6 * j + 2)), .int (xs (6 * j + 1)), .ref R]) Tb_43 rfl rfl s1 (by omega) hL).trans ?_
  refine (e_K (pc := 2445) (m := 292) (rest := []) (ent := [.ref R, .int (xs (6 * j + 1)), .int (xs (6 * j + 2)), .int (xs (6 * j + 3)), zu, zu]) (Tb_43 _ _ rfl) rfl rfl (zsC_v rfl rfl rfl (RSk_K r1) (Nat.le_of_ble_eq_true rfl)) rfl rfl e2).trans ?_
  exact tailW (p := 2448) Tb_43 r2 t2 hk k3 I2.1.2.2.1.1 I2.1.2.2.1.2 rfl rfl rfl rfl rfl rfl rfl rfl rfl rfl rfl
theorem B_44 (hL : L ≤ 384) : Br z b L X R o xs 2481 := by
  intro j h w5 w6 hj I
  obtain ⟨S, ls, Lo, K, A, tl, T, ft, s, C, H, ok, n, hT⟩ := I.un
  obtain ⟨kk, h1, vv, h2, k3, e1, s1, r1, e2, t2, r2, hk, hb, I2⟩ := both_W (fun _ => True) s C H n (Wr_346 (a := (xs (6 * j + 1))) (b := (zbz (xs (6 * j + 2)))) (XSk_K C.1.1) s.ol s.2.2.1.1 s.2.2.1.2 (by (first | omega | (repeat' split) <;> omega)) (C_trial (d := 8) s.2.2.2.1 C ok)) (by (first | omega | (repeat' split) <;> omega)) ok trivial (m2 := 294) (as2 := [.ref R, .int (xs (6 * j + 1)), .int (zbz (xs (6 * j + 2))), zu, zu]) (fun h1 M1 => R_trial (d := 1) M1.2.1.1.2.1 M1.2.2.1 ok)
  clear n hT
  refine ⟨.int (nI kk), .int vv, h2, ?_, I2⟩
  refine (ev_fw Tb_44 1 (pc := 2481) (pc' := 2482) (ls' := (lsW b X R o (nI (6 * j)) w5 w6)) (st' := [.ref X]) (h' := h) rfl).trans ?_
  refine (e_arg (p := 2482) (cn := 1) (ls := (lsW b X R o (nI (6 * j)) w5 w6)) (st := [.ref X]) Tb_44 rfl rfl s (by omega) hL).trans ?_
  refine (e_arg (p := 2488) (cn := 2) (ls := (lsW b X R o (nI (6 * j)) w5 w6)) (st := [.int (xs (6 * j + 1)), .ref X]) Tb_44 rfl rfl s (by omega) hL).trans ?_
  refine (e_bz (p := 2494) (ls := (lsW b X R o (nI (6 * j)) w5 w6)) (st := [.int (xs (6 * j + 1)), .ref X]) Tb_44 rfl rfl rfl).trans ?_
  refine (ev_fw Tb_44 1 (pc := 2502) (pc' := 2503) (ls' := (lsW b X R o (nI (6 * j)) w5 w6)) (st' := [.ref o, .int (zbz (xs (6 * j + 2))), .int (xs (6 * j + 1)), .ref X]) (h' := h) rfl).trans ?_
  refine (e_K (pc := 2503) (m := 346) (rest := []) (ent := [.ref X, .int (xs (6 * j + 1)), .int (zbz (xs (6 * j + 2))), .ref o, zu]) (Tb_44 _ _ rfl) rfl rfl rfl rfl rfl e1).trans ?_
  refine (ev_fw Tb_44 1 (pc := 2506) (pc' := 2508) (ls' := (lsW b X R o (nI (6 * j)) (.int (nI kk)) w6)) (st' := []) (h' := h1) rfl).trans ?_
  refine (ev_fw Tb_44 1 (pc := 2508) (pc' := 2509) (ls' := (lsW b X R o (nI (6 * j)) (.int (nI kk)) w6)) (st' := [.ref R]) (h' := h1) rfl).trans ?_
  refine (e_arg (p := 2509) (cn := 1) (ls := (lsW b X R o (nI (6 * j)) (.int (nI kk)) w6)) (st := [.ref R]) Tb_44 rfl rfl s1 (by omega) hL).trans ?_
  refine (e_arg (p := 2515) (cn := 2) (ls := (lsW b X R o (nI (6 * j)) (.int (nI kk)) w6)) (st := [.int (xs (6 * j + 1)), .ref R]) Tb_44 rfl rfl s1 (by omega) hL).trans ?_
  refine (e_bz (p := 2521) (ls := (lsW b X R o (nI (6 * j)) (.int (nI kk)) w6)) (st := [.int (xs (6 * j + 1)), .ref R]) Tb_44 rfl rfl rfl).trans ?_
  refine (e_K (pc := 2529) (m := 294) (rest := []) (ent := [.ref R, .int (xs (6 * j + 1)), .int (zbz (xs (6 * j + 2))), zu, zu]) (Tb_44 _ _ rfl) rfl rfl (zsC_v rfl rfl rfl (RSk_K r1) (Nat.le_of_ble_eq_true rfl)) rfl rfl e2).trans ?_
  exact tailW (p := 2532) Tb_44 r2 t2 hk k3 I2.1.2.2.1.1 I2.1.2.2.1.2 rfl rfl rfl rfl rfl rfl rfl rfl rfl rfl rfl
theorem B_45 (hL : L ≤ 384) : Br z b L X R o xs 2565 := by
  intro j h w5 w6 hj I
  obtain ⟨S, ls, Lo, K, A, tl, T, ft, s, C, H, ok, n, hT⟩ := I.un
  obtain ⟨kk, h1, vv, h2, k3, e1, s1, r1, e2, t2, r2, hk, hb, I2⟩ := both_W (fun _ => True) s C H n (Wr_347 (a := (xs (6 * j + 1))) (b := (zbz (xs (6 * j + 2)))) (XSk_K C.1.1) s.ol s.2.2.1.1 s.2.2.1.2 (by (first | omega | (repeat' split) <;> omega)) (C_span (d := 8) s.2.2.2.1 C ok)) (by (first | omega | (repeat' split) <;> omega)) ok trivial (m2 := 295) (as2 := [.ref R, .int (xs (6 * j + 1)), .int (zbz (xs (6 * j + 2))), zu, zu, zu, zu]) (fun h1 M1 => R_span (d := 1) M1.2.1.1.2.1 M1.2.2.1 ok)
  clear n hT
  refine ⟨.int (nI kk), .int vv, h2, ?_, I2⟩
  refine (ev_fw Tb_45 1 (pc := 2565) (pc' := 2566) (ls' := (lsW b X R o (nI (6 * j)) w5 w6)) (st' := [.ref X]) (h' := h) rfl).trans ?_
  refine (e_arg (p := 2566) (cn := 1) (ls := (lsW b X R o (nI (6 * j)) w5 w6)) (st := [.ref X]) Tb_45 rfl rfl s (by omega) hL).trans ?_
  refine (e_arg (p := 2572) (cn := 2) (ls := (lsW b X R o (nI (6 * j)) w5 w6)) (st := [.int (xs (6 * j + 1)), .ref X]) Tb_45 rfl rfl s (by omega) hL).trans ?_
  refine (e_bz (p := 2578) (ls := (lsW b X R o (nI (6 * j)) w5 w6)) (st := [.int (xs (6 * j + 1)), .ref X]) Tb_45 rfl rfl rfl).trans ?_
  refine (ev_fw Tb_45 1 (pc := 2586) (pc' := 2587) (ls' := (lsW b X R o (nI (6 * j)) w5 w6)) (st' := [.ref o, .int (zbz (xs (6 * j + 2))), .int (xs (6 * j + 1)), .ref X]) (h' := h) rfl).trans ?_
  refine (e_K (pc := 2587) (m := 347) (rest := []) (ent := [.ref X, .int (xs (6 * j + 1)), .int (zbz (xs (6 * j + 2))), .ref o, zu]) (Tb_45 _ _ rfl) rfl rfl rfl rfl rfl e1).trans ?_
  refine (ev_fw Tb_45 1 (pc := 2590) (pc' := 2592) (ls' := (lsW b X R o (nI (6 * j)) (.int (nI kk)) w6)) (st' := []) (h' := h1) rfl).trans ?_
  refine (ev_fw Tb_45 1 (pc := 2592) (pc' := 2593) (ls' := (lsW b X R o (nI (6 * j)) (.int (nI kk)) w6)) (st' := [.ref R]) (h' := h1) rfl).trans ?_
  refine (e_arg (p := 2593) (cn := 1) (ls := (lsW b X R o (nI (6 * j)) (.int (nI kk)) w6)) (st := [.ref R]) Tb_45 rfl rfl s1 (by omega) hL).trans ?_
  refine (e_arg (p := 2599) (cn := 2) (ls := (lsW b X R o (nI (6 * j)) (.int (nI kk)) w6)) (st := [.int (xs (6 * j + 1)), .ref R]) Tb_45 rfl rfl s1 (by omega) hL).trans ?_
  refine (e_bz (p := 2605) (ls := (lsW b X R o (nI (6 * j)) (.int (nI kk)) w6)) (st := [.int (xs (6 * j + 1)), .ref R]) Tb_45 rfl rfl rfl).trans ?_
  refine (e_K (pc := 2613) (m := 295) (rest := []) (ent := [.ref R, .int (xs (6 * j + 1)), .int (zbz (xs (6 * j + 2))), zu, zu, zu, zu]) (Tb_45 _ _ rfl) rfl rfl (zsC_v rfl rfl rfl (RSk_K r1) (Nat.le_of_ble_eq_true rfl)) rfl rfl e2).trans ?_
  exact tailW (p := 2616) Tb_45 r2 t2 hk k3 I2.1.2.2.1.1 I2.1.2.2.1.2 rfl rfl rfl rfl rfl rfl rfl rfl rfl rfl rfl
theorem B_46 (hL : L ≤ 384) : Br z b L X R o xs 2649 := by
  intro j h w5 w6 hj I
  obtain ⟨S, ls, Lo, K, A, tl, T, ft, s, C, H, ok, n, hT⟩ := I.un
  obtain ⟨kk, h1, vv, h2, k3, e1, s1, r1, e2, t2, r2, hk, hb, I2⟩ := both_W (fun _ => True) s C H n (Wr_348 (a := (xs (6 * j + 1))) (b := (zbz (xs (6 * j + 2)))) (XSk_K C.1.1) s.ol s.2.2.1.1 s.2.2.1.2 (by (first | omega | (repeat' split) <;> omega)) (C_led (d := 8) s.2.2.2.1 C ok.1.1)) (by (first | omega | (repeat' split) <;> omega)) ok trivial (m2 := 297) (as2 := [.ref R, .int (xs (6 * j + 1)), .int (zbz (xs (6 * j + 2))), zu, zu, zu]) (fun h1 M1 => R_led (d := 8) M1.2.2.1 ok.1.1)
  clear n hT
  refine ⟨.int (nI kk), .int vv, h2, ?_, I2⟩
  refine (ev_fw Tb_46 1 (pc := 2649) (pc' := 2650) (ls' := (lsW b X R o (nI (6 * j)) w5 w6)) (st' := [.ref X]) (h' := h) rfl).trans ?_
  refine (e_arg (p := 2650) (cn := 1) (ls := (lsW b X R o (nI (6 * j)) w5 w6)) (st := [.ref X]) Tb_46 rfl rfl s (by omega) hL).trans ?_
  refine (e_arg (p := 2656) (cn := 2) (ls := (lsW b X R o (nI (6 * j)) w5 w6)) (st := [.int (xs (6 * j + 1)), .ref X]) Tb_46 rfl rfl s (by omega) hL).trans ?_
  refine (e_bz (p := 2662) (ls := (lsW b X R o (nI (6 * j)) w5 w6)) (st := [.int (xs (6 * j + 1)), .ref X]) Tb_46 rfl rfl rfl).trans ?_
  refine (ev_fw Tb_46 1 (pc := 2670) (pc' := 2671) (ls' := (lsW b X R o (nI (6 * j)) w5 w6)) (st' := [.ref o, .int (zbz (xs (6 * j + 2))), .int (xs (6 * j + 1)), .ref X]) (h' := h) rfl).trans ?_
  refine (e_K (pc := 2671) (m := 348) (rest := []) (ent := [.ref X, .int (xs (6 * j + 1)), .int (zbz (xs (6 * j + 2))), .ref o, zu]) (Tb_46 _ _ rfl) rfl rfl rfl rfl rfl e1).trans ?_
  refine (ev_fw Tb_46 1 (pc := 2674) (pc' := 2676) (ls' := (lsW b X R o (nI (6 * j)) (.int (nI kk)) w6)) (st' := []) (h' := h1) rfl).trans ?_
  refine (ev_fw Tb_46 1 (pc := 2676) (pc' := 2677) (ls' := (lsW b X R o (nI (6 * j)) (.int (nI kk)) w6)) (st' := [.ref R]) (h' := h1) rfl).trans ?_
  refine (e_arg (p := 2677) (cn := 1) (ls := (lsW b X R o (nI (6 * j)) (.int (nI kk)) w6)) (st := [.ref R]) Tb_46 rfl rfl s1 (by omega) hL).trans ?_
  refine (e_arg (p := 2683) (cn := 2) (ls := (lsW b X R o (nI (6 * j)) (.int (nI kk)) w6)) (st := [.int (xs (6 * j + 1)), .ref R]) Tb_46 rfl rfl s1 (by omega) hL).trans ?_
  refine (e_bz (p := 2689) (ls := (lsW b X R o (nI (6 * j)) (.int (nI kk)) w6)) (st := [.int (xs (6 * j + 1)), .ref R]) Tb_46 rfl rfl rfl).trans ?_
  refine (e_K (pc := 2697) (m := 297) (rest := []) (ent := [.ref R, .int (xs (6 * j + 1)), .int (zbz (xs (6 * j + 2))), zu, zu, zu]) (Tb_46 _ _ rfl) rfl rfl (zsC_v rfl rfl rfl (RSk_K r1) (Nat.le_of_ble_eq_true rfl)) rfl rfl e2).trans ?_
  exact tailW (p := 2700) Tb_46 r2 t2 hk k3 I2.1.2.2.1.1 I2.1.2.2.1.2 rfl rfl rfl rfl rfl rfl rfl rfl rfl rfl rfl
theorem B_47 (hL : L ≤ 384) : Br z b L X R o xs 2733 := by
  intro j h w5 w6 hj I
  obtain ⟨S, ls, Lo, K, A, tl, T, ft, s, C, H, ok, n, hT⟩ := I.un
  obtain ⟨kk, h1, vv, h2, k3, e1, s1, r1, e2, t2, r2, hk, hb, I2⟩ := both_W (fun _ => True) s C H n (Wr_349 (a := (xs (6 * j + 1))) (b := (xs (6 * j + 2))) (XSk_K C.1.1) s.ol s.2.2.1.1 s.2.2.1.2 (by (first | omega | (repeat' split) <;> omega)) (C_log (d := 8) s.2.2.2.1 C)) (by (first | omega | (repeat' split) <;> omega)) ok trivial (m2 := 298) (as2 := [.ref R, .int (xs (6 * j + 1)), .int (xs (6 * j + 2))]) (fun h1 M1 => R_log (d := 8) M1.2.2.1 ok.1.1)
  clear n hT
  refine ⟨.int (nI kk), .int vv, h2, ?_, I2⟩
  refine (ev_fw Tb_47 1 (pc := 2733) (pc' := 2734) (ls' := (lsW b X R o (nI (6 * j)) w5 w6)) (st' := [.ref X]) (h' := h) rfl).trans ?_
  refine (e_arg (p := 2734) (cn := 1) (ls := (lsW b X R o (nI (6 * j)) w5 w6)) (st := [.ref X]) Tb_47 rfl rfl s (by omega) hL).trans ?_
  refine (e_arg (p := 2740) (cn := 2) (ls := (lsW b X R o (nI (6 * j)) w5 w6)) (st := [.int (xs (6 * j + 1)), .ref X]) Tb_47 rfl rfl s (by omega) hL).trans ?_
  refine (ev_fw Tb_47 1 (pc := 2746) (pc' := 2747) (ls' := (lsW b X R o (nI (6 * j)) w5 w6)) (st' := [.ref o, .int (xs (6 * j + 2)), .int (xs (6 * j + 1)), .ref X]) (h' := h) rfl).trans ?_
  refine (e_K (pc := 2747) (m := 349) (rest := []) (ent := [.ref X, .int (xs (6 * j + 1)), .int (xs (6 * j + 2)), .ref o, zu]) (Tb_47 _ _ rfl) rfl rfl rfl rfl rfl e1).trans ?_
  refine (ev_fw Tb_47 1 (pc := 2750) (pc' := 2752) (ls' := (lsW b X R o (nI (6 * j)) (.int (nI kk)) w6)) (st' := []) (h' := h1) rfl).trans ?_
  refine (ev_fw Tb_47 1 (pc := 2752) (pc' := 2753) (ls' := (lsW b X R o (nI (6 * j)) (.int (nI kk)) w6)) (st' := [.ref R]) (h' := h1) rfl).trans ?_
  refine (e_arg (p := 2753) (cn := 1) (ls := (lsW b X R o (nI (6 * j)) (.int (nI kk)) w6)) (st := [.ref R]) Tb_47 rfl rfl s1 (by omega) hL).trans ?_
  refine (e_arg (p := 2759) (cn := 2) (ls := (lsW b X R o (nI (6 * j)) (.int (nI kk)) w6)) (st := [.int (xs (6 * j + 1)), .ref R]) Tb_47 rfl rfl s1 (by omega) hL).trans ?_
  refine (e_K (pc := 2765) (m := 298) (rest := []) (ent := [.ref R, .int (xs (6 * j + 1)), .int (xs (6 * j + 2))]) (Tb_47 _ _ rfl) rfl rfl (zsC_v rfl rfl rfl (RSk_K r1) (Nat.le_of_ble_eq_true rfl)) rfl rfl e2).trans ?_
  exact tailW (p := 2768) Tb_47 r2 t2 hk k3 I2.1.2.2.1.1 I2.1.2.2.1.2 rfl rfl rfl rfl rfl rfl rfl rfl rfl rfl rfl
theorem B_48 (hL : L ≤ 384) : Br z b L X R o xs 2801 := by
  intro j h w5 w6 hj I
  obtain ⟨S, ls, Lo, K, A, tl, T, ft, s, C, H, ok, n, hT⟩ := I.un
  obtain ⟨kk, h1, vv, h2, k3, e1, s1, r1, e2, t2, r2, hk, hb, I2⟩ := both_W (fun _ => True) s C H n (Wr_350 (a := (xs (6 * j + 1))) (XSk_K C.1.1) s.ol s.2.2.1.1 s.2.2.1.2 (by (first | omega | (repeat' split) <;> omega)) (C_damp (d := 8) s.2.2.2.1 C)) (by (first | omega | (repeat' split) <;> omega)) ok trivial (m2 := 299) (as2 := [.ref R, .int (xs (6 * j + 1))]) (fun h1 M1 => R_damp (d := 8) M1.2.2.1)
  clear n hT
  refine ⟨.int (nI kk), .int vv, h2, ?_, I2⟩
  refine (ev_fw Tb_48 1 (pc := 2801) (pc' := 2802) (ls' := (lsW b X R o (nI (6 * j)) w5 w6)) (st' := [.ref X]) (h' := h) rfl).trans ?_
  refine (e_arg (p := 2802) (cn := 1) (ls := (lsW b X R o (nI (6 * j)) w5 w6)) (st := [.ref X]) Tb_48 rfl rfl s (by omega) hL).trans ?_
  refine (ev_fw Tb_48 1 (pc := 2808) (pc' := 2809) (ls' := (lsW b X R o (nI (6 * j)) w5 w6)) (st' := [.ref o, .int (xs (6 * j + 1)), .ref X]) (h' := h) rfl).trans ?_
  refine (e_K (pc := 2809) (m := 350) (rest := []) (ent := [.ref X, .int (xs (6 * j + 1)), .ref o, zu]) (Tb_48 _ _ rfl) rfl rfl rfl rfl rfl e1).trans ?_
  refine (ev_fw Tb_48 1 (pc := 2812) (pc' := 2814) (ls' := (lsW b X R o (nI (6 * j)) (.int (nI kk)) w6)) (st' := []) (h' := h1) rfl).trans ?_
  refine (ev_fw Tb_48 1 (pc := 2814) (pc' := 2815) (ls' := (lsW b X R o (nI (6 * j)) (.int (nI kk)) w6)) (st' := [.ref R]) (h' := h1) rfl).trans ?_
  refine (e_arg (p := 2815) (cn := 1) (ls := (lsW b X R o (nI (6 * j)) (.int (nI kk)) w6)) (st := [.ref R]) Tb_48 rfl rfl s1 (by omega) hL).trans ?_
  refine (e_K (pc := 2821) (m := 299) (rest := []) (ent := [.ref R, .int (xs (6 * j + 1))]) (Tb_48 _ _ rfl) rfl rfl (zsC_v rfl rfl rfl (RSk_K r1) (Nat.le_of_ble_eq_true rfl)) rfl rfl e2).trans ?_
  exact tailW (p := 2824) Tb_48 r2 t2 hk k3 I2.1.2.2.1.1 I2.1.2.2.1.2 rfl rfl rfl rfl rfl rfl rfl rfl rfl rfl rfl
theorem B_49 (hL : L ≤ 384) : Br z b L X R o xs 2857 := by
  intro j h w5 w6 hj I
  obtain ⟨S, ls, Lo, K, A, tl, T, ft, s, C, H, ok, n, hT⟩ := I.un
  obtain ⟨vv, h1, h2, e1, s1, r1, e2, I2⟩ := both_V s C H n (CE.of (C_seed (d := 8) C)) (O_seed ok) (m2 := 300) (as2 := [.ref R, .int (xs (6 * j + 1)), zu]) (fun h1 M1 => RE.of (R_seed (d := 8) M1.2.2.1))
  refine ⟨w5, w6, h2, ?_, I2⟩
  refine (ev_fw Tb_49 1 (pc := 2857) (pc' := 2858) (ls' := (lsW b X R o (nI (6 * j)) w5 w6)) (st' := [.ref X]) (h' := h) rfl).trans ?_
  refine (e_arg (p := 2858) (cn := 1) (ls := (lsW b X R o (nI (6 * j)) w5 w6)) (st := [.ref X]) Tb_49 rfl rfl s (by omega) hL).trans ?_
  refine (e_K (pc := 2864) (m := 150) (rest := []) (ent := [.ref X, .int (xs (6 * j + 1)), zu]) (Tb_49 _ _ rfl) rfl rfl (zsC_v rfl rfl rfl (XSk_K C.1.1) (Nat.le_of_ble_eq_true rfl)) rfl rfl e1).trans ?_
  refine (ev_fw Tb_49 1 (pc := 2867) (pc' := 2868) (ls' := (lsW b X R o (nI (6 * j)) w5 w6)) (st' := [.ref R, .int vv]) (h' := h1) rfl).trans ?_
  refine (e_arg (p := 2868) (cn := 1) (ls := (lsW b X R o (nI (6 * j)) w5 w6)) (st := [.ref R, .int vv]) Tb_49 rfl rfl s1 (by omega) hL).trans ?_
  refine (e_K (pc := 2874) (m := 300) (rest := [.int vv]) (ent := [.ref R, .int (xs (6 * j + 1)), zu]) (Tb_49 _ _ rfl) rfl rfl (zsC_v rfl rfl rfl (RSk_K r1) (Nat.le_of_ble_eq_true rfl)) rfl rfl e2).trans ?_
  refine (e_icmp_eq (pc := 2877) (t := 2944) (Tb_49 _ _ rfl) (by omega)).trans ?_
  exact if_pos rfl
theorem B_50 (hL : L ≤ 384) : Br z b L X R o xs 2882 := by
  intro j h w5 w6 hj I
  obtain ⟨S, ls, Lo, K, A, tl, T, ft, s, C, H, ok, n, hT⟩ := I.un
  obtain ⟨vv, h1, h2, e1, s1, r1, e2, I2⟩ := both_V s C H n (CE_undo (d := 8) C ok) (O_undo ok) (m2 := 301) (as2 := [.ref R, zu]) (fun h1 M1 => RE_undo (d := 8) M1.2.2.1 ok)
  refine ⟨w5, w6, h2, ?_, I2⟩
  refine (ev_fw Tb_50 1 (pc := 2882) (pc' := 2883) (ls' := (lsW b X R o (nI (6 * j)) w5 w6)) (st' := [.ref X]) (h' := h) rfl).trans ?_
  refine (e_K (pc := 2883) (m := 151) (rest := []) (ent := [.ref X]) (Tb_50 _ _ rfl) rfl rfl (zsC_v rfl rfl rfl (XSk_K C.1.1) (Nat.le_of_ble_eq_true rfl)) rfl rfl e1).trans ?_
  refine (ev_fw Tb_50 1 (pc := 2886) (pc' := 2887) (ls' := (lsW b X R o (nI (6 * j)) w5 w6)) (st' := [.ref R, .int vv]) (h' := h1) rfl).trans ?_
  refine (e_K (pc := 2887) (m := 301) (rest := [.int vv]) (ent := [.ref R, zu]) (Tb_50 _ _ rfl) rfl rfl (zsC_v rfl rfl rfl (RSk_K r1) (Nat.le_of_ble_eq_true rfl)) rfl rfl e2).trans ?_
  refine (e_icmp_eq (pc := 2890) (t := 2944) (Tb_50 _ _ rfl) (by omega)).trans ?_
  exact if_pos rfl
theorem B_51 (hL : L ≤ 384) : Br z b L X R o xs 2895 := by
  intro j h w5 w6 hj I
  obtain ⟨S, ls, Lo, K, A, tl, T, ft, s, C, H, ok, n, hT⟩ := I.un
  obtain ⟨h1, h2, e1, s1, r1, e2, I2⟩ := both_E (v := none) s C H n (CE_image (d := 8) C ok.1.1) (O_image ok) (m2 := 302) (as2 := [.ref R, zu]) (fun h1 M1 => RE_image (d := 8) M1.2.2.1)
  refine ⟨w5, w6, h2, ?_, I2⟩
  refine (ev_fw Tb_51 1 (pc := 2895) (pc' := 2896) (ls' := (lsW b X R o (nI (6 * j)) w5 w6)) (st' := [.ref X]) (h' := h) rfl).trans ?_
  refine (e_K (pc := 2896) (m := 152) (rest := []) (ent := [.ref X]) (Tb_51 _ _ rfl) rfl rfl (zsC_v rfl rfl rfl (XSk_K C.1.1) (Nat.le_of_ble_eq_true rfl)) rfl rfl e1).trans ?_
  refine (ev_fw Tb_51 1 (pc := 2899) (pc' := 2900) (ls' := (lsW b X R o (nI (6 * j)) w5 w6)) (st' := [.ref R]) (h' := h1) rfl).trans ?_
  refine (e_K (pc := 2900) (m := 302) (rest := []) (ent := [.ref R, zu]) (Tb_51 _ _ rfl) rfl rfl (zsC_v rfl rfl rfl (RSk_K r1) (Nat.le_of_ble_eq_true rfl)) rfl rfl e2).trans ?_
  exact ev_fw Tb_51 1 (pc := 2903) (pc' := 2944) (ls' := (lsW b X R o (nI (6 * j)) w5 w6)) (st' := []) (h' := h2) rfl
theorem B_52 (hL : L ≤ 384) : Br z b L X R o xs 2906 := by
  intro j h w5 w6 hj I
  obtain ⟨S, ls, Lo, K, A, tl, T, ft, s, C, H, ok, n, hT⟩ := I.un
  obtain ⟨vv, h1, h2, e1, s1, r1, e2, I2⟩ := both_V s C H n (CE_back (d := 8) C ok) (O_back ok) (m2 := 303) (as2 := [.ref R, zu]) (fun h1 M1 => RE_back (d := 8) M1.2.2.1 ok)
  refine ⟨w5, w6, h2, ?_, I2⟩
  refine (ev_fw Tb_52 1 (pc := 2906) (pc' := 2907) (ls' := (lsW b X R o (nI (6 * j)) w5 w6)) (st' := [.ref X]) (h' := h) rfl).trans ?_
  refine (e_K (pc := 2907) (m := 153) (rest := []) (ent := [.ref X]) (Tb_52 _ _ rfl) rfl rfl (zsC_v rfl rfl rfl (XSk_K C.1.1) (Nat.le_of_ble_eq_true rfl)) rfl rfl e1).trans ?_
  refine (ev_fw Tb_52 1 (pc := 2910) (pc' := 2911) (ls' := (lsW b X R o (nI (6 * j)) w5 w6)) (st' := [.ref R, .int vv]) (h' := h1) rfl).trans ?_
  refine (e_K (pc := 2911) (m := 303) (rest := [.int vv]) (ent := [.ref R, zu]) (Tb_52 _ _ rfl) rfl rfl (zsC_v rfl rfl rfl (RSk_K r1) (Nat.le_of_ble_eq_true rfl)) rfl rfl e2).trans ?_
  refine (e_icmp_eq (pc := 2914) (t := 2944) (Tb_52 _ _ rfl) (by omega)).trans ?_
  exact if_pos rfl
theorem B_53 (hL : L ≤ 384) : Br z b L X R o xs 2919 := by
  intro j h w5 w6 hj I
  obtain ⟨S, ls, Lo, K, A, tl, T, ft, s, C, H, ok, n, hT⟩ := I.un
  obtain ⟨vv, h1, h2, e1, s1, r1, e2, I2⟩ := both_V s C H n (CE.of (C_count (d := 8) C ok.1.1)) ok (m2 := 304) (as2 := [.ref R, .int (xs (6 * j + 1)), zu, zu]) (fun h1 M1 => RE.of (R_count (d := 8) M1.2.2.1 ok.1.1))
  refine ⟨w5, w6, h2, ?_, I2⟩
  refine (ev_fw Tb_53 1 (pc := 2919) (pc' := 2920) (ls' := (lsW b X R o (nI (6 * j)) w5 w6)) (st' := [.ref X]) (h' := h) rfl).trans ?_
  refine (e_arg (p := 2920) (cn := 1) (ls := (lsW b X R o (nI (6 * j)) w5 w6)) (st := [.ref X]) Tb_53 rfl rfl s (by omega) hL).trans ?_
  refine (e_K (pc := 2926) (m := 154) (rest := []) (ent := [.ref X, .int (xs (6 * j + 1))]) (Tb_53 _ _ rfl) rfl rfl (zsC_v rfl rfl rfl (XSk_K C.1.1) (Nat.le_of_ble_eq_true rfl)) rfl rfl e1).trans ?_
  refine (ev_fw Tb_53 1 (pc := 2929) (pc' := 2930) (ls' := (lsW b X R o (nI (6 * j)) w5 w6)) (st' := [.ref R, .int vv]) (h' := h1) rfl).trans ?_
  refine (e_arg (p := 2930) (cn := 1) (ls := (lsW b X R o (nI (6 * j)) w5 w6)) (st := [.ref R, .int vv]) Tb_53 rfl rfl s1 (by omega) hL).trans ?_
  refine (e_K (pc := 2936) (m := 304) (rest := [.int vv]) (ent := [.ref R, .int (xs (6 * j + 1)), zu, zu]) (Tb_53 _ _ rfl) rfl rfl (zsC_v rfl rfl rfl (RSk_K r1) (Nat.le_of_ble_eq_true rfl)) rfl rfl e2).trans ?_
  refine (e_icmp_eq (pc := 2939) (t := 2944) (Tb_53 _ _ rfl) (by omega)).trans ?_
  exact if_pos rfl
end
