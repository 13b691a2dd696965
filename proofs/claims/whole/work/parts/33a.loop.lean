/-! THE LAW'S LOOP, and the claim -/
def tb_h : Tbt := [(23, .iload 4, 2), (25, .aload_n 0, 1), (26, .arraylength, 1), (27, .bipush 6, 2), (29, .isub, 1), (30, .if_icmp .gt 2920, 3), (33, .aload_n 0, 1), (34, .iload 4, 2), (36, .iaload, 1), (37, .bipush 63, 2), (39, .iand, 1), (40, .tableswitch 2904 0 53 #[232, 305, 330, 374, 418, 431, 499, 567, 635, 691, 795, 863, 919, 999, 1055, 1123, 1136, 1149, 1162, 1218, 1274, 1315, 1383, 1439, 1495, 1508, 1576, 1672, 1744, 1788, 1851, 1864, 1905, 1973, 1986, 2049, 2062, 2118, 2198, 2266, 2322, 2335, 2348, 2361, 2441, 2525, 2609, 2693, 2761, 2817, 2842, 2855, 2866, 2879], 232), (2944, .iinc 4 6, 3), (2947, .goto (-2924), 3), (2950, .iconst 1, 1), (2951, .ireturn, 1)]
theorem Tb_h : TbL tb_h := TbL_of (by decide +kernel)
def swT : List Nat := [272, 345, 370, 414, 458, 471, 539, 607, 675, 731, 835, 903, 959, 1039, 1095, 1163, 1176, 1189, 1202, 1258, 1314, 1355, 1423, 1479, 1535, 1548, 1616, 1712, 1784, 1828, 1891, 1904, 1945, 2013, 2026, 2089, 2102, 2158, 2238, 2306, 2362, 2375, 2388, 2401, 2481, 2565, 2649, 2733, 2801, 2857, 2882, 2895, 2906, 2919]
def zjt (pc : Nat) (off : Int) : Option Nat := match (pc : Int) + off with
  | .ofNat t => some t
  | .negSucc _ => none
def swG (x : Int32) (dflt lo hi : Int) (offs : Array Int) : Option Nat := if x.toInt < lo ∨ hi < x.toInt then zjt 40 dflt else match offs[(x.toInt - lo).toNat]? with
  | some off => zjt 40 off
  | none => none
theorem swG_t : ∀ s, s < 64 → swG (nI s) 2904 0 53 #[232, 305, 330, 374, 418, 431, 499, 567, 635, 691, 795, 863, 919, 999, 1055, 1123, 1136, 1149, 1162, 1218, 1274, 1315, 1383, 1439, 1495, 1508, 1576, 1672, 1744, 1788, 1851, 1864, 1905, 1973, 1986, 2049, 2062, 2118, 2198, 2266, 2322, 2335, 2348, 2361, 2441, 2525, 2609, 2693, 2761, 2817, 2842, 2855, 2866, 2879] = some (swT.getD s 2944) := by decide +kernel
section
variable {z : ZE} {d : Nat} {h : Hp} {ls st : List Value} {b L X R o j : Nat} {xs : Nat → Int32}
theorem sw_z {pc : Nat} {off : Int} {t : Nat} (e : zjt pc off = some t) {f : Nat → Option zRes} : zj pc off f = f t := by
  unfold zjt at e
  unfold zj
  split at e
  · rename_i u hu
    cases e
    rw [hu]
  · cases e
theorem e_sw {dflt lo hi : Int} {offs : Array Int} {len t : Nat} {x : Int32} (hf : zfetch 351 40 = some (.tableswitch dflt lo hi offs, len)) (e : swG x dflt lo hi offs = some t) : ev z d 351 40 ls (.int x :: st) h = ev z d 351 t ls st h := by
  refine ev_Ag hf ?_
  show (if x.toInt < lo ∨ hi < x.toInt then zj 40 dflt (fun t => zgo t ls st h) else zop offs[(x.toInt - lo).toNat]? (fun off => zj 40 off (fun t => zgo t ls st h))) = _
  unfold swG at e
  split at e
  · rename_i c
    rw [if_pos c, sw_z e]
    rfl
  · rename_i c
    rw [if_neg c]
    split at e
    · rename_i off hoff
      rw [hoff]
      show zj 40 off _ = _
      rw [sw_z e]
      rfl
    · cases e
theorem and63 (x : Int32) : ∃ s, s < 64 ∧ x &&& nI 63 = nI s := by
  refine ⟨x.toBitVec.toNat % 64, Nat.mod_lt _ (by decide), ?_⟩
  refine Int32.toBitVec_inj.mp ?_
  show x.toBitVec &&& BitVec.ofNat 32 63 = BitVec.ofNat 32 (x.toBitVec.toNat % 64)
  refine BitVec.eq_of_toNat_eq ?_
  rw [BitVec.toNat_and, BitVec.toNat_ofNat, BitVec.toNat_ofNat]
  rw [show (63 : Nat) % 2 ^ 32 = 2 ^ 6 - 1 from rfl, Nat.and_two_pow_sub_one_eq_mod]
  have := Nat.mod_lt x.toBitVec.toNat (show 64 > 0 by decide)
  rw [Nat.mod_eq_of_lt (a := x.toBitVec.toNat % 64) (by omega)]
theorem last_6 (h1 : 6 * j ≤ L) (hL : L ≤ 384) : nI L - nI 6 < nI (6 * j) ↔ L < 6 * j + 6 := by
  by_cases c : 6 ≤ L
  · have e : nI L - nI 6 = nI (L - 6) := by
      have := nI_add (L - 6) 6
      rw [show L - 6 + 6 = L by omega] at this
      rw [← this, Int32.add_sub_cancel]
    rw [e, nI_ltI (by omega) (by omega)]
    omega
  · have ej : j = 0 := by omega
    subst ej
    have key : ∀ L, L < 6 → nI L - nI 6 < nI (6 * 0) := by decide +kernel
    exact ⟨fun _ => by omega, fun _ => key L (by omega)⟩
theorem Br_0 : Br z b L X R o xs 2944 := fun j h w5 w6 hj I => ⟨w5, w6, h, rfl, I.up⟩
theorem Br_all (hL : L ≤ 384) : ∀ p ∈ swT, Br z b L X R o xs p := List.forall_mem_cons.mpr ⟨B_0 hL, List.forall_mem_cons.mpr ⟨B_1 hL, List.forall_mem_cons.mpr ⟨B_2 hL, List.forall_mem_cons.mpr ⟨B_3 hL, List.forall_mem_cons.mpr ⟨B_4 hL, List.forall_mem_cons.mpr ⟨B_5 hL, List.forall_mem_cons.mpr ⟨B_6 hL, List.forall_mem_cons.mpr ⟨B_7 hL, List.forall_mem_cons.mpr ⟨B_8 hL, List.forall_mem_cons.mpr ⟨B_9 hL, List.forall_mem_cons.mpr ⟨B_10 hL, List.forall_mem_cons.mpr ⟨B_11 hL, List.forall_mem_cons.mpr ⟨B_12 hL, List.forall_mem_cons.mpr ⟨B_13 hL, List.forall_mem_cons.mpr ⟨B_14 hL, List.forall_mem_cons.mpr ⟨B_15 hL, List.forall_mem_cons.mpr ⟨B_16 hL, List.forall_mem_cons.mpr ⟨B_17 hL, List.forall_mem_cons.mpr ⟨B_18 hL, List.forall_mem_cons.mpr ⟨B_19 hL, List.forall_mem_cons.mpr ⟨B_20 hL, List.forall_mem_cons.mpr ⟨B_21 hL, List.forall_mem_cons.mpr ⟨B_22 hL, List.forall_mem_cons.mpr ⟨B_23 hL, List.forall_mem_cons.mpr ⟨B_24 hL, List.forall_mem_cons.mpr ⟨B_25 hL, List.forall_mem_cons.mpr ⟨B_26 hL, List.forall_mem_cons.mpr ⟨B_27 hL, List.forall_mem_cons.mpr ⟨B_28 hL, List.forall_mem_cons.mpr ⟨B_29 hL, List.forall_mem_cons.mpr ⟨B_30 hL, List.forall_mem_cons.mpr ⟨B_31 hL, List.forall_mem_cons.mpr ⟨B_32 hL, List.forall_mem_cons.mpr ⟨B_33 hL, List.forall_mem_cons.mpr ⟨B_34 hL, List.forall_mem_cons.mpr ⟨B_35 hL, List.forall_mem_cons.mpr ⟨B_36 hL, List.forall_mem_cons.mpr ⟨B_37 hL, List.forall_mem_cons.mpr ⟨B_38 hL, List.forall_mem_cons.mpr ⟨B_39 hL, List.forall_mem_cons.mpr ⟨B_40 hL, List.forall_mem_cons.mpr ⟨B_41 hL, List.forall_mem_cons.mpr ⟨B_42 hL, List.forall_mem_cons.mpr ⟨B_43 hL, List.forall_mem_cons.mpr ⟨B_44 hL, List.forall_mem_cons.mpr ⟨B_45 hL, List.forall_mem_cons.mpr ⟨B_46 hL, List.forall_mem_cons.mpr ⟨B_47 hL, List.forall_mem_cons.mpr ⟨B_48 hL, List.forall_mem_cons.mpr ⟨B_49 hL, List.forall_mem_cons.mpr ⟨B_50 hL, List.forall_mem_cons.mpr ⟨B_51 hL, List.forall_mem_cons.mpr ⟨B_52 hL, List.forall_mem_cons.mpr ⟨B_53 hL, fun _ hp => (by cases hp)⟩⟩⟩⟩⟩⟩⟩⟩⟩⟩⟩⟩⟩⟩⟩⟩⟩⟩⟩⟩⟩⟩⟩⟩⟩⟩⟩⟩⟩⟩⟩⟩⟩⟩⟩⟩⟩⟩⟩⟩⟩⟩⟩⟩⟩⟩⟩⟩⟩⟩⟩⟩⟩⟩
theorem Br_s (hL : L ≤ 384) (s : Nat) : Br z b L X R o xs (swT.getD s 2944) := by
  rw [List.getD_eq_getElem?_getD]
  cases e : swT[s]? with
  | none => exact Br_0
  | some p => exact Br_all hL p (List.mem_of_getElem? e)
theorem round_1 {w5 w6 : Value} (hL : L ≤ 384) (hj : 6 * j + 6 ≤ L) (I : IV z b L X R o xs j h) : ∃ (w5' w6' : Value) (h' : Hp), ev z 8 351 23 (lsW b X R o (nI (6 * j)) w5 w6) [] h = ev z 8 351 23 (lsW b X R o (nI (6 * (j + 1))) w5' w6') [] h' ∧ IV z b L X R o xs (j + 1) h' := by
  have s := I.1
  obtain ⟨s0, s1, s2⟩ := and63 (xs (6 * j))
  obtain ⟨w5', w6', h', e, I'⟩ := Br_s (z := z) (b := b) (X := X) (R := R) (o := o) (xs := xs) hL s0 j h w5 w6 hj I
  refine ⟨w5', w6', h', ?_, I'⟩
  refine (ev_fw Tb_h 2 (pc := 23) (pc' := 26) (ls' := (lsW b X R o (nI (6 * j)) w5 w6)) (st' := [.ref b, .int (nI (6 * j))]) (h' := h) rfl).trans ?_
  refine (e_alenN (pc := 26) (N := L) (Tb_h _ _ rfl) (by rw [s.2.1.1]; decide) s.2.1.2.1).trans ?_
  refine (ev_fw Tb_h 2 (pc := 27) (pc' := 30) (ls' := (lsW b X R o (nI (6 * j)) w5 w6)) (st' := [.int (nI L - nI 6), .int (nI (6 * j))]) (h' := h) rfl).trans ?_
  refine (e_icmp_gt (pc := 30) (t := 2950) (Tb_h _ _ rfl) (by omega)).trans ?_
  rw [if_neg (fun q => by have := (last_6 (by omega) hL).mp q; omega)]
  refine (ev_fw Tb_h 2 (pc := 33) (pc' := 36) (ls' := (lsW b X R o (nI (6 * j)) w5 w6)) (st' := [.int (nI (6 * j)), .ref b]) (h' := h) rfl).trans ?_
  refine (e_iald (pc := 36) (Tb_h _ _ rfl) (Or.inr s.2.1.1) (by rw [s.2.1.2.1]; exact nI_lit ⟨by omega, by omega⟩)).trans ?_
  rw [nI_clamp (by omega), s.2.1.2.2 (6 * j) (by omega)]
  refine (ev_fw Tb_h 2 (pc := 37) (pc' := 40) (ls' := (lsW b X R o (nI (6 * j)) w5 w6)) (st' := [.int (xs (6 * j) &&& nI 63)]) (h' := h) rfl).trans ?_
  rw [s2]
  refine (e_sw (Tb_h _ _ rfl) (swG_t s0 s1)).trans ?_
  refine e.trans ?_
  refine (ev_fw Tb_h 1 (pc := 2944) (pc' := 2947) (ls' := (lsW b X R o (nI (6 * j) + nI 6) w5' w6')) (st' := []) (h' := h') rfl).trans ?_
  refine (ev_fw Tb_h 1 (pc := 2947) (pc' := 23) (ls' := (lsW b X R o (nI (6 * j) + nI 6) w5' w6')) (st' := []) (h' := h') rfl).trans ?_
  rw [nI_add, show 6 * j + 6 = 6 * (j + 1) by omega]
theorem rounds_e {w5 w6 : Value} (hL : L ≤ 384) (hx : L < 6 * j + 6) (hj : 6 * j ≤ L) (I : IV z b L X R o xs j h) : ∃ h', ev z 8 351 23 (lsW b X R o (nI (6 * j)) w5 w6) [] h = some (.inl (some (.int (nI 1))), h') ∧ zC h' ≤ 600128 ∧ zS h' ≤ 7301098 := by
  have s := I.1
  obtain ⟨-, q, -, -, -, n1, n2⟩ := I
  have j64 : j ≤ 64 := by omega
  have m1 : 10 * j ≤ 10 * 64 := Nat.mul_le_mul_left _ j64
  have m2 : 1000 * j ≤ 1000 * 64 := Nat.mul_le_mul_left _ j64
  refine ⟨h, ?_, Nat.le_trans n1 (Nat.le_trans (Nat.add_le_add_left m1 _) (by decide)), Nat.le_trans n2 (Nat.le_trans (Nat.add_le_add_left m2 _) (by decide))⟩
  refine (ev_fw Tb_h 2 (pc := 23) (pc' := 26) (ls' := (lsW b X R o (nI (6 * j)) w5 w6)) (st' := [.ref b, .int (nI (6 * j))]) (h' := h) rfl).trans ?_
  refine (e_alenN (pc := 26) (N := L) (Tb_h _ _ rfl) (by rw [s.2.1.1]; decide) s.2.1.2.1).trans ?_
  refine (ev_fw Tb_h 2 (pc := 27) (pc' := 30) (ls' := (lsW b X R o (nI (6 * j)) w5 w6)) (st' := [.int (nI L - nI 6), .int (nI (6 * j))]) (h' := h) rfl).trans ?_
  refine (e_icmp_gt (pc := 30) (t := 2950) (Tb_h _ _ rfl) (by omega)).trans ?_
  rw [if_pos ((last_6 hj hL).mpr hx)]
  refine (ev_fw Tb_h 1 (pc := 2950) (pc' := 2951) (ls' := (lsW b X R o (nI (6 * j)) w5 w6)) (st' := [.int (nI 1)]) (h' := h) rfl).trans ?_
  exact e_iretz (Tb_h _ _ rfl) rfl (Or.inr rfl)
theorem rounds (hL : L ≤ 384) : ∀ (n j : Nat) (h : Hp) (w5 w6 : Value), L - 6 * j ≤ n → 6 * j ≤ L → IV z b L X R o xs j h → ∃ h', ev z 8 351 23 (lsW b X R o (nI (6 * j)) w5 w6) [] h = some (.inl (some (.int (nI 1))), h') ∧ zC h' ≤ 600128 ∧ zS h' ≤ 7301098 := by
  intro n
  induction n with
  | zero =>
    intro j h w5 w6 hn hj I
    exact rounds_e hL (by omega) hj I
  | succ n ih =>
    intro j h w5 w6 hn hj I
    by_cases c : 6 * j + 6 ≤ L
    · obtain ⟨w5', w6', h', e, I'⟩ := round_1 (w5 := w5) (w6 := w6) hL c I
      obtain ⟨h2, e2, c2⟩ := ih (j + 1) h' w5' w6' (by omega) (by omega) I'
      exact ⟨h2, e.trans e2, c2⟩
    · exact rounds_e hL (by omega) hj I
end
section
variable {z : ZE} {zv : Nat → Nat} {b L X : Nat} {xs : Nat → Int32} {h : Hp}
theorem start_ev (F : zF0 z zv b L X xs h) : ∃ l, qW l 445 ∧ stFf l = true ∧ B15 X (qH X h l) ∧ ev z 8 351 0 [.ref b, zu, zu, zu, zu, zu, zu] [] h = ev z 8 351 23 (lsW b X (X + 433) (X + 444) (nI (6 * 0)) zu zu) [] (qH X h l) := by
  have hB : zT h = X := F.1
  obtain ⟨l1, l2, r1, r2, G⟩ := st_ex
  have w0 : qW [(0, 10, 14, 0, 0)] 1 := ⟨rfl, rfl⟩
  obtain ⟨e1, w1⟩ := qrun_ok (z := z) (d := 8) hB _ _ _ _ _ _ _ _ r1 w0
  have e1 : ev z 8 100 0 [.ref X, zu] [] (qH X h [(0, 10, 14, 0, 0)]) = some (.inl none, qH X h l1) := e1
  have w1 : qW l1 433 := w1
  have t1 : zT (qH X h l1) = X + 433 := q_T hB l1 433 w1
  obtain ⟨e2, w2⟩ := qrun_ok (z := z) (d := 8) hB _ _ _ _ _ _ _ _ r2 (qW_n w1)
  have e2 : ev z 8 172 0 [.ref (X + 433), zu] [] (qH X h ((0, 11, 24, 0, 433) :: l1)) = some (.inl none, qH X h l2) := e2
  have w2 : qW l2 444 := w2
  have t2 : zT (qH X h l2) = X + 444 := q_T hB l2 444 w2
  have k1 : zK (qH X h [(0, 10, 14, 0, 0)]) X = 10 := (q_K hB _ 1 0 w0 (by decide)).1
  have k2 : zK (qH X h ((0, 11, 24, 0, 433) :: l1)) (X + 433) = 11 := (if_pos t1.symm)
  have b0 : B15 X h := fun a ha ka => by
    have := F.2.2.2.2.2.2.2.1 a ha
    rw [this] at ka; cases ka
  have b1 : B15 X (qH X h l1) := B15_ev e1 (B15_n b0)
  have b2 : B15 X (qH X h l2) := B15_ev e2 (B15_n b1)
  refine ⟨(0, 26, 1, 0, 444) :: l2, qW_n w2, G, B15_n b2, ?_⟩
  refine (e_new (pc := 0) (ci := 9) rfl rfl rfl).trans ?_
  rw [hB]
  refine (ev_fa 1 (pc := 3) (pc' := 4) (ls' := [.ref b, zu, zu, zu, zu, zu, zu]) (st' := [.ref X, .ref X]) (h' := qH X h [(0, 10, 14, 0, 0)]) rfl).trans ?_
  refine (e_K (pc := 4) (m := 100) (rest := [.ref X]) (ent := [.ref X, zu]) rfl rfl rfl (zsC_i rfl rfl rfl rfl k1 (Nat.le_of_ble_eq_true rfl)) rfl rfl e1).trans ?_
  refine (ev_fa 1 (pc := 7) (pc' := 8) (ls' := [.ref b, .ref X, zu, zu, zu, zu, zu]) (st' := []) (h' := qH X h l1) rfl).trans ?_
  refine (e_new (pc := 8) (ci := 10) rfl rfl rfl).trans ?_
  rw [t1]
  refine (ev_fa 1 (pc := 11) (pc' := 12) (ls' := [.ref b, .ref X, zu, zu, zu, zu, zu]) (st' := [.ref (X + 433), .ref (X + 433)]) (h' := qH X h ((0, 11, 24, 0, 433) :: l1)) rfl).trans ?_
  refine (e_K (pc := 12) (m := 172) (rest := [.ref (X + 433)]) (ent := [.ref (X + 433), zu]) rfl rfl rfl (zsC_i rfl rfl rfl rfl k2 (Nat.le_of_ble_eq_true rfl)) rfl rfl e2).trans ?_
  refine (ev_fa 2 (pc := 15) (pc' := 17) (ls' := [.ref b, .ref X, .ref (X + 433), zu, zu, zu, zu]) (st' := [.int (nI 1)]) (h' := qH X h l2) rfl).trans ?_
  refine (e_newa_long (pc := 17) rfl ⟨by decide, by decide⟩).trans ?_
  rw [t2, nI_clamp (by decide)]
  exact ev_fa 3 (pc := 19) (pc' := 23) (ls' := [.ref b, .ref X, .ref (X + 433), .ref (X + 444), .int (nI (6 * 0)), zu, zu]) (st' := []) (h' := qH X h ((0, 26, 1, 0, 444) :: l2)) rfl
end
/-- the goal of the toy machine -/
theorem zGoal_t : zGoal := by
  intro z zv b L B0 xs h hL F
  obtain ⟨l, w, G, bz, e0⟩ := start_ev F
  obtain ⟨h', e1, c1, c2⟩ := rounds hL L 0 (qH B0 h l) zu zu (by omega) (by omega) (IV_0 F w G bz)
  obtain ⟨f, hf⟩ := ev_iff.mp (e0.trans e1)
  exact ⟨f, h', hf, c1, c2⟩
theorem i_vc : Claimed_1_1 ∧ Claimed_1_2 := zvc zGoal_t
