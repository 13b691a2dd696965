/-! TEXTS: words in the heap -/
def WSk (h : Hp) (w : Nat) (tx : List Nat) : Prop := zK h w = 12 ∧ ∃ v, zR h w 0 = some v ∧ zI h w 1 = 0 ∧ zK h v = 27 ∧ nI (zN h v) = nI tx.length ∧ tx.length ≤ zN h v ∧ tx.length < 100 ∧ ∀ j, j < tx.length → tx.getD j 0 < 128 ∧ zI h v j = nI (tx.getD j 0)
theorem ch_ok : ∀ c, c < 128 → ((nI c &&& nI 255).toUInt32 % 65536).toInt32 = nI c := by decide +kernel
theorem ch_nr : ∀ c, c < 128 → narrow .char (.int (nI c)) = .int (nI c) := by decide +kernel
theorem sh0 (x : Int32) : x >>> ((0 : Int32) &&& 31) = x := by rw [Int32.zero_and]; exact Int32.shiftRight_zero
section
variable {z : ZE} {d : Nat} {h : Hp} {w : Nat} {tx : List Nat}
theorem T_Str_coder (hk : zK h w = 12) (h1 : zI h w 1 = 0) : ev z d 311 0 [.ref w] [] h = some (.inl (some (.int 0)), h) := by
  refine (ev_Bg (pc' := 3) (ls' := [.ref w]) (st' := [.int 1]) (h' := h) rfl rfl rfl).trans ?_
  refine (e_if_eq rfl rfl).trans ?_
  rw [if_neg (by decide)]
  refine (ev_fa 1 (pc' := 7) (ls' := [.ref w]) (st' := [.ref w]) (h' := h) rfl).trans ?_
  refine (e_getI rfl rfl (fun _ _ => rfl) hk).trans ?_
  rw [h1]
  refine (ev_fa 1 (pc' := 14) (ls' := [.ref w]) (st' := [.int 0]) (h' := h) rfl).trans ?_
  exact e_iretn rfl rfl rfl
theorem T_Str_latin (hk : zK h w = 12) (h1 : zI h w 1 = 0) : ev z d 312 0 [.ref w] [] h = some (.inl (some (.int 1)), h) := by
  refine (ev_Bg (pc' := 3) (ls' := [.ref w]) (st' := [.int 1]) (h' := h) rfl rfl rfl).trans ?_
  refine (e_if_eq rfl rfl).trans ?_
  rw [if_neg (by decide)]
  refine (ev_fa 1 (pc' := 7) (ls' := [.ref w]) (st' := [.ref w]) (h' := h) rfl).trans ?_
  refine (e_getI rfl rfl (fun _ _ => rfl) hk).trans ?_
  rw [h1]
  refine (e_if_ne rfl rfl).trans ?_
  rw [if_pos rfl]
  refine (ev_fa 2 (pc' := 18) (ls' := [.ref w]) (st' := [.int (nI 1)]) (h' := h) rfl).trans ?_
  exact e_iretz rfl rfl (Or.inr rfl)
theorem T_Str_length (W : WSk h w tx) : ev z d 309 0 [.ref w] [] h = some (.inl (some (.int (nI tx.length))), h) := by
  obtain ⟨hk, v, hr, h1, hv, hn, -, -, -⟩ := W
  refine (ev_fa 1 (pc' := 1) (ls' := [.ref w]) (st' := [.ref w]) (h' := h) rfl).trans ?_
  refine (e_getR rfl rfl rfl hk hr).trans ?_
  refine (e_alen rfl (by rw [hv]; decide)).trans ?_
  refine (ev_fa 1 (pc' := 6) (ls' := [.ref w]) (st' := [.ref w, .int (nI (zN h v))]) (h' := h) rfl).trans ?_
  refine (e_K (ent := [.ref w]) rfl rfl rfl (zsC_v rfl rfl rfl hk (Nat.le_of_ble_eq_true rfl)) rfl rfl (T_Str_coder hk h1)).trans ?_
  refine (ev_fa 1 (pc' := 10) (ls' := [.ref w]) (st' := [.int (nI (zN h v) >>> ((0 : Int32) &&& 31))]) (h' := h) rfl).trans ?_
  rw [sh0, hn]
  exact e_ireti rfl rfl
theorem T_Pre_check {x y : Int32} {q : Value} (h1 : ¬ x < 0) (h2 : x < y) : ev z d 316 0 [.int x, .int y, q] [] h = some (.inl (some (.int x)), h) := by
  refine (ev_fa 1 (pc' := 1) (ls' := [.int x, .int y, q]) (st' := [.int x]) (h' := h) rfl).trans ?_
  refine (e_if_lt rfl rfl).trans ?_
  rw [if_neg h1]
  refine (ev_fa 2 (pc' := 6) (ls' := [.int x, .int y, q]) (st' := [.int y, .int x]) (h' := h) rfl).trans ?_
  refine (e_icmp_lt rfl rfl).trans ?_
  rw [if_pos h2]
  refine (ev_fa 1 (pc' := 17) (ls' := [.int x, .int y, q]) (st' := [.int x]) (h' := h) rfl).trans ?_
  exact e_ireti rfl rfl
theorem T_Str_check {x y : Int32} (h1 : ¬ x < 0) (h2 : x < y) : ev z d 313 0 [.int x, .int y] [] h = some (.inl none, h) := by
  obtain ⟨z1, z2⟩ := z
  cases z2 with
  | none =>
    refine (ev_fa 2 (pc' := 2) (ls' := [.int x, .int y]) (st' := [.int y, .int x]) (h' := h) rfl).trans ?_
    refine (ev_Bg (pc' := 5) (ls' := [.int x, .int y]) (st' := [.null, .int y, .int x]) (h' := h) rfl rfl rfl).trans ?_
    refine (e_K (ent := [.int x, .int y, .null]) rfl rfl rfl (zsC_s rfl rfl rfl rfl) rfl rfl (T_Pre_check h1 h2)).trans ?_
    refine (ev_fa 1 (pc' := 9) (ls' := [.int x, .int y]) (st' := []) (h' := h) rfl).trans ?_
    exact e_vret rfl rfl
  | some a =>
    refine (ev_fa 2 (pc' := 2) (ls' := [.int x, .int y]) (st' := [.int y, .int x]) (h' := h) rfl).trans ?_
    refine (ev_Bg (pc' := 5) (ls' := [.int x, .int y]) (st' := [.ref a, .int y, .int x]) (h' := h) rfl rfl rfl).trans ?_
    refine (e_K (ent := [.int x, .int y, .ref a]) rfl rfl rfl (zsC_s rfl rfl rfl rfl) rfl rfl (T_Pre_check h1 h2)).trans ?_
    refine (ev_fa 1 (pc' := 9) (ls' := [.int x, .int y]) (st' := []) (h' := h) rfl).trans ?_
    exact e_vret rfl rfl
theorem T_SL1_charAt {v j c : Nat} (hv : zK h v = 27) (hj : nI j < nI (zN h v)) (h2 : j < zN h v) (h3 : j < 2 ^ 31) (hc : c < 128) (he : zI h v j = nI c) : ev z d 314 0 [.ref v, .int (nI j)] [] h = some (.inl (some (.int (nI c))), h) := by
  refine (ev_fa 2 (pc' := 2) (ls' := [.ref v, .int (nI j)]) (st' := [.ref v, .int (nI j)]) (h' := h) rfl).trans ?_
  refine (e_alen rfl (by rw [hv]; decide)).trans ?_
  refine (e_K (ent := [.int (nI j), .int (nI (zN h v))]) rfl rfl rfl (zsC_s rfl rfl rfl rfl) rfl rfl (T_Str_check (nI_pos h3) hj)).trans ?_
  refine (ev_fa 2 (pc' := 8) (ls' := [.ref v, .int (nI j)]) (st' := [.int (nI j), .ref v]) (h' := h) rfl).trans ?_
  refine (e_bald rfl (Or.inr hv) ⟨nI_pos h3, by rw [nI_clamp h3]; exact h2⟩).trans ?_
  rw [nI_clamp h3, he]
  refine (ev_fa 3 (pc' := 14) (ls' := [.ref v, .int (nI j)]) (st' := [.int ((nI c &&& nI 255).toUInt32 % 65536).toInt32]) (h' := h) rfl).trans ?_
  rw [ch_ok c hc]
  exact e_iretn rfl rfl (ch_nr c hc)
theorem T_Str_charAt (W : WSk h w tx) {j : Nat} (hj : j < tx.length) : ev z d 310 0 [.ref w, .int (nI j)] [] h = some (.inl (some (.int (nI (tx.getD j 0)))), h) := by
  obtain ⟨hk, v, hr, h1, hv, hn, hl, hm, ht⟩ := W
  refine (ev_fa 1 (pc' := 1) (ls' := [.ref w, .int (nI j)]) (st' := [.ref w]) (h' := h) rfl).trans ?_
  refine (e_K (ent := [.ref w]) rfl rfl rfl (zsC_v rfl rfl rfl hk (Nat.le_of_ble_eq_true rfl)) rfl rfl (T_Str_latin hk h1)).trans ?_
  refine (e_if_eq rfl rfl).trans ?_
  rw [if_neg (by decide)]
  refine (ev_fa 1 (pc' := 8) (ls' := [.ref w, .int (nI j)]) (st' := [.ref w]) (h' := h) rfl).trans ?_
  refine (e_getR rfl rfl rfl hk hr).trans ?_
  refine (ev_fa 1 (pc' := 12) (ls' := [.ref w, .int (nI j)]) (st' := [.int (nI j), .ref v]) (h' := h) rfl).trans ?_
  refine (e_K (ent := [.ref v, .int (nI j)]) rfl rfl rfl (zsC_s rfl rfl rfl rfl) rfl rfl (T_SL1_charAt hv (by rw [hn]; exact nI_lt hj (by omega)) (by omega) (by omega) (ht j hj).1 (ht j hj).2)).trans ?_
  exact e_iretn rfl rfl (ch_nr _ (ht j hj).1)
end
