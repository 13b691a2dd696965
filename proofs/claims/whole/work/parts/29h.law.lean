/-! LAW in the class: a new law -/
section
variable {z : ZE} {d : Nat} {h h' g : Hp} {L n j : Nat}
/-- an array is made and laid into a field -/
def arS (g : Hp) (L j n : Nat) : Hp := zwR (znw g 20 n) L j (some (zT g))
theorem arS_K (hl : L < zT g) : zK (arS g L j n) L = zK g L := if_neg (by omega)
theorem arS_T : zT (arS g L j n) = zT g + 1 := rfl
theorem arS_k {x : Nat} (hx : x < zT g) : zK (arS g L j n) x = zK g x := if_neg (by omega)
theorem arS_n {x : Nat} (hx : x < zT g) : zN (arS g L j n) x = zN g x := if_neg (by omega)
theorem arS_i {x y : Nat} (hx : x < zT g) : zI (arS g L j n) x y = zI g x y := if_neg (by omega)
theorem arS_nk : zK (arS g L j n) (zT g) = 20 := if_pos rfl
theorem arS_nn : zN (arS g L j n) (zT g) = n := if_pos rfl
theorem arS_r : zR (arS g L j n) L j = some (zT g) := by
  show zup (zR (znw g 20 n)) L j (some (zT g)) L j = _
  unfold zup
  exact if_pos ⟨rfl, rfl⟩
theorem arS_o {i : Nat} (hl : L < zT g) (hi : i ≠ j) : zR (arS g L j n) L i = zR g L i := by
  show zup (zR (znw g 20 n)) L j (some (zT g)) L i = _
  unfold zup
  rw [if_neg (fun q => hi q.2)]
  exact if_neg (by omega)
theorem arS_m : Mv (fun x => x = L) 1 n g (arS g L j n) := (Mv.nw (k := 20) (n := n)).tr (Mv.wR (a := L) (j := j) (v := some (zT g)))
theorem ar_ev {pc : Nat} {ls : List Value} (h1 : zfetch 18 pc = some (.newarray .int, 2)) {k : Nat} (h2 : zfetch 18 (pc + 2) = some (.putfield k, 3)) (h3 : zfr 18 k = some (3, j)) (h4 : (zfin 3 j && !(Nat.beq (zin 18) 3) || Nat.beq 3 11) = false) (h5 : zfty 3 j = 2) (hk : zK g L = 4) (hl : L < zT g) (hn : n ≤ 400) : ev z d 18 pc ls [.int (nI n), .ref L] g = ev z d 18 (pc + 2 + 3) ls [] (arS g L j n) := by
  have c : (nI n).toNatClampNeg = n := nI_clamp (by omega)
  rw [e_newa_int h1 ⟨ni_nn (by omega), by omega⟩, c]
  exact e_putR h2 h3 h4 h5 ((if_neg (by omega) : zK (znw g 20 n) L = zK g L).trans hk)
theorem Law_s1 (hk : zK h L = 4) : ev z d 18 0 [.ref L, .int (nI n)] [] h = ev z d 18 12 [.ref L, .int (nI n)] [.int (nI 12), .ref L] (zwI h L 1 (nI 0)) := by
  refine (ev_fa 1 (pc' := 1) (ls' := [.ref L, .int (nI n)]) (st' := [.ref L]) (h' := h) rfl).trans ?_
  refine (e_obj rfl rfl (Nat.le_of_ble_eq_true rfl)).trans ?_
  refine (ev_fa 2 (pc' := 6) (ls' := [.ref L, .int (nI n)]) (st' := [.int (nI 0), .ref L]) (h' := h) rfl).trans ?_
  refine (e_putI rfl rfl rfl rfl hk).trans ?_
  exact ev_fa 2 (pc' := 12) (ls' := [.ref L, .int (nI n)]) (st' := [.int (nI 12), .ref L]) (h' := zwI h L 1 (nI 0)) rfl
theorem Law_s2 (hk : zK h L = 4) (hl : L < zT h) : ev z d 18 12 [.ref L, .int (nI n)] [.int (nI 12), .ref L] h = ev z d 18 20 [.ref L, .int (nI n)] [.int (nI 12), .ref L] (arS h L 2 12) := by
  refine (ar_ev (k := 15) (pc := 12) rfl rfl rfl rfl rfl hk hl (by decide)).trans ?_
  exact ev_fa 2 (pc' := 20) (ls' := [.ref L, .int (nI n)]) (st' := [.int (nI 12), .ref L]) (h' := arS h L 2 12) rfl
theorem Law_s3 (hk : zK h L = 4) (hl : L < zT h) : ev z d 18 20 [.ref L, .int (nI n)] [.int (nI 12), .ref L] h = ev z d 18 28 [.ref L, .int (nI n)] [.int (nI 12), .ref L] (arS h L 3 12) := by
  refine (ar_ev (k := 19) (pc := 20) rfl rfl rfl rfl rfl hk hl (by decide)).trans ?_
  exact ev_fa 2 (pc' := 28) (ls' := [.ref L, .int (nI n)]) (st' := [.int (nI 12), .ref L]) (h' := arS h L 3 12) rfl
theorem Law_s4 (hk : zK h L = 4) (hl : L < zT h) : ev z d 18 28 [.ref L, .int (nI n)] [.int (nI 12), .ref L] h = ev z d 18 33 [.ref L, .int (nI n)] [] (arS h L 4 12) := ar_ev (k := 22) (pc := 28) rfl rfl rfl rfl rfl hk hl (by decide)
theorem Law_s5 (hk : zK h L = 4) : ev z d 18 33 [.ref L, .int (nI n)] [] h = ev z d 18 41 [.ref L, .int (nI n)] [.int (nI 40), .ref L] (zwI h L 5 (nI 0)) := by
  refine (ev_fa 2 (pc' := 35) (ls' := [.ref L, .int (nI n)]) (st' := [.int (nI 0), .ref L]) (h' := h) rfl).trans ?_
  refine (e_putI rfl rfl rfl rfl hk).trans ?_
  exact ev_fa 2 (pc' := 41) (ls' := [.ref L, .int (nI n)]) (st' := [.int (nI 40), .ref L]) (h' := zwI h L 5 (nI 0)) rfl
theorem Law_s6 (hk : zK h L = 4) (hl : L < zT h) : ev z d 18 41 [.ref L, .int (nI n)] [.int (nI 40), .ref L] h = ev z d 18 46 [.ref L, .int (nI n)] [] (arS h L 6 40) := ar_ev (k := 28) (pc := 41) rfl rfl rfl rfl rfl hk hl (by decide)
theorem Law_s7 (hn : n ≤ 400) : ev z d 18 46 [.ref L, .int (nI n)] [] h = ev z d 18 52 [.ref L, .int (nI n)] [.int (nI n), .ref L] h := by
  refine (ev_fa 3 (pc' := 49) (ls' := [.ref L, .int (nI n)]) (st' := [.int (nI 0), .int (nI n), .ref L]) (h' := h) rfl).trans ?_
  refine (ev_Cg (pc' := 52) (ls' := [.ref L, .int (nI n)]) (st' := [.int (if nI n < nI 0 then nI 0 else nI n), .ref L]) (h' := h) rfl rfl rfl rfl).trans ?_
  rw [if_neg (show ¬ nI n < nI 0 from ni_nn (by omega))]
theorem Law_s8 (hk : zK h L = 4) (hl : L < zT h) (hn : n ≤ 400) : ev z d 18 52 [.ref L, .int (nI n)] [.int (nI n), .ref L] h = some (.inl none, arS h L 0 n) := by
  refine (ar_ev (k := 37) (pc := 52) rfl rfl rfl rfl rfl hk hl hn).trans ?_
  exact e_vret rfl rfl
/-- what stands when some arrays are made -/
theorem arS_f {x : Nat} (hk : zK g L = 4) (ht : zT g = x) (hl : L < x) : zK (arS g L j n) L = 4 ∧ zT (arS g L j n) = x + 1 ∧ zK (arS g L j n) x = 20 ∧ zN (arS g L j n) x = n ∧ zR (arS g L j n) L j = some x := by
  subst ht
  exact ⟨(arS_K hl).trans hk, arS_T, arS_nk, arS_nn, arS_r⟩
end
