/-! SKELETONS; rules with indices -/
abbrev zus (x y : Int32) : Int32 := (x.toUInt32 >>> (y.toUInt32 &&& Int32.toUInt32 31)).toInt32
theorem ite_cg {P : Prop} {dP : Decidable P} {a b a' b' : Option (zO × Hp)} (h1 : a = a') (h2 : b = b') : (if P then a else b) = if P then a' else b' := by rw [h1, h2]
theorem ix_cgl {j : Int32} {N : Nat} {f g : Nat → Option (zO × Hp)} (h : ∀ k, k < N → f k = g k) : ix j N f = ix j N g := by
  unfold ix
  by_cases hc : ¬ j < 0 ∧ j.toNatClampNeg < N
  · rw [if_pos hc, if_pos hc]; exact h _ hc.2
  · rw [if_neg hc, if_neg hc]
theorem nI_lit {k N : Nat} (h : k < N ∧ k < 2147483648) : ¬ nI k < 0 ∧ (nI k).toNatClampNeg < N := by
  rw [nI_clamp h.2]; exact ⟨nI_pos h.2, h.1⟩
section
variable {z : ZE} {d n pc : Nat} {ls st r : List Value} {h : Hp} {N k a : Nat}
theorem ev_none_of {i : Instr} {len : Nat} (hf : zfetch n pc = some (i, len)) (ha : zsA z n pc i len ls st h = none) (hb : zsB z n pc i len ls st h = none) (hc : zsC n pc i len ls st h = none) : ev z d n pc ls st h = none := by
  rw [ev_step hf]; unfold zstep; rw [ha, hb]; dsimp only; rw [hc]; rfl
theorem e_alenN (hf : zfetch n pc = some (.arraylength, 1)) (hk : 20 ≤ zK h a ∧ zK h a ≤ 28) (hn : zN h a = N) : ev z d n pc ls (.ref a :: r) h = ev z d n (pc + 1) ls (.int (nI N) :: r) h := by rw [e_alen hf hk, hn]
theorem e_ialoadK (hf : zfetch n pc = some (.iaload, 1)) (hk : zK h a = 20) (hn : zN h a = N) (hj : k < N ∧ k < 2147483648) : ev z d n pc ls (.int (nI k) :: .ref a :: r) h = ev z d n (pc + 1) ls (.int (zI h a k) :: r) h := by
  have := e_iald (z := z) (d := d) (ls := ls) (r := r) hf (Or.inl hk) (j := nI k) (by rw [hn]; exact nI_lit hj)
  rw [nI_clamp hj.2] at this
  exact this
theorem e_ialoadV {j : Int32} (hf : zfetch n pc = some (.iaload, 1)) (hk : zK h a = 20) (hn : zN h a = N) : ev z d n pc ls (.int j :: .ref a :: r) h = ix j N (fun k => ev z d n (pc + 1) ls (.int (zI h a k) :: r) h) := by
  unfold ix
  by_cases hj : ¬ j < 0 ∧ j.toNatClampNeg < N
  · rw [if_pos hj]
    exact e_iald hf (Or.inl hk) (by rw [hn]; exact hj)
  · rw [if_neg hj]
    refine ev_none_of hf rfl ?_ rfl
    refine if_neg (fun e => hj ?_)
    rw [← hn]
    exact e.2
theorem e_baloadK (hf : zfetch n pc = some (.baload, 1)) (hk : zK h a = 21) (hn : zN h a = N) (hj : k < N ∧ k < 2147483648) : ev z d n pc ls (.int (nI k) :: .ref a :: r) h = ev z d n (pc + 1) ls (.int (zI h a k) :: r) h := by
  have := e_bald (z := z) (d := d) (ls := ls) (r := r) hf (Or.inl hk) (j := nI k) (by rw [hn]; exact nI_lit hj)
  rw [nI_clamp hj.2] at this
  exact this
theorem e_baloadV {j : Int32} (hf : zfetch n pc = some (.baload, 1)) (hk : zK h a = 21) (hn : zN h a = N) : ev z d n pc ls (.int j :: .ref a :: r) h = ix j N (fun k => ev z d n (pc + 1) ls (.int (zI h a k) :: r) h) := by
  unfold ix
  by_cases hj : ¬ j < 0 ∧ j.toNatClampNeg < N
  · rw [if_pos hj]
    exact e_bald hf (Or.inl hk) (by rw [hn]; exact hj)
  · rw [if_neg hj]
    refine ev_none_of hf rfl ?_ rfl
    refine if_neg (fun e => hj ?_)
    rw [← hn]
    exact e.2
theorem e_laloadK (hf : zfetch n pc = some (.laload, 1)) (hk : zK h a = 26) (hn : zN h a = N) (hj : k < N ∧ k < 2147483648) : ev z d n pc ls (.int (nI k) :: .ref a :: r) h = ev z d n (pc + 1) ls (.long (zJ h a k) :: r) h := by
  have := e_lald (z := z) (d := d) (ls := ls) (r := r) hf hk (j := nI k) (by rw [hn]; exact nI_lit hj)
  rw [nI_clamp hj.2] at this
  exact this
theorem e_laloadV {j : Int32} (hf : zfetch n pc = some (.laload, 1)) (hk : zK h a = 26) (hn : zN h a = N) : ev z d n pc ls (.int j :: .ref a :: r) h = ix j N (fun k => ev z d n (pc + 1) ls (.long (zJ h a k) :: r) h) := by
  unfold ix
  by_cases hj : ¬ j < 0 ∧ j.toNatClampNeg < N
  · rw [if_pos hj]
    exact e_lald hf hk (by rw [hn]; exact hj)
  · rw [if_neg hj]
    refine ev_none_of hf rfl ?_ rfl
    refine if_neg (fun e => hj ?_)
    rw [← hn]
    exact e.2
theorem e_aaloadV {g : Nat → Nat} {j : Int32} (hf : zfetch n pc = some (.aaload, 1)) (hk : 22 ≤ zK h a ∧ zK h a ≤ 25) (hn : zN h a = N) (he : ∀ k, k < N → zR h a k = some (g k)) : ev z d n pc ls (.int j :: .ref a :: r) h = ix j N (fun k => ev z d n (pc + 1) ls (.ref (g k) :: r) h) := by
  unfold ix
  by_cases hj : ¬ j < 0 ∧ j.toNatClampNeg < N
  · rw [if_pos hj]
    exact e_aald hf hk (by rw [hn]; exact hj) (he _ hj.2)
  · rw [if_neg hj]
    refine ev_none_of hf rfl ?_ rfl
    refine if_neg (fun e => hj ?_)
    rw [← hn]
    exact e.2
theorem e_iastoreK {v : Int32} (hf : zfetch n pc = some (.iastore, 1)) (hk : zK h a = 20) (hn : zN h a = N) (hj : k < N ∧ k < 2147483648) : ev z d n pc ls (.int v :: .int (nI k) :: .ref a :: r) h = ev z d n (pc + 1) ls r (zwI h a k v) := by
  have := e_iast (z := z) (d := d) (ls := ls) (r := r) hf hk (j := nI k) (v := v) (by rw [hn]; exact nI_lit hj)
  rw [nI_clamp hj.2] at this
  exact this
theorem e_iastoreV {j : Int32} {v : Int32} (hf : zfetch n pc = some (.iastore, 1)) (hk : zK h a = 20) (hn : zN h a = N) : ev z d n pc ls (.int v :: .int j :: .ref a :: r) h = ix j N (fun k => ev z d n (pc + 1) ls r (zwI h a k v)) := by
  unfold ix
  by_cases hj : ¬ j < 0 ∧ j.toNatClampNeg < N
  · rw [if_pos hj]
    exact e_iast hf hk (by rw [hn]; exact hj)
  · rw [if_neg hj]
    refine ev_none_of hf rfl ?_ rfl
    refine if_neg (fun e => hj ?_)
    rw [← hn]
    exact e.2
theorem e_bastoreK {v : Int32} (hf : zfetch n pc = some (.bastore, 1)) (hk : zK h a = 21) (hn : zN h a = N) (hj : k < N ∧ k < 2147483648) (hv : v = 0 ∨ v = 1) : ev z d n pc ls (.int v :: .int (nI k) :: .ref a :: r) h = ev z d n (pc + 1) ls r (zwI h a k v) := by
  have := e_bast (z := z) (d := d) (ls := ls) (r := r) hf hk (j := nI k) (v := v) (by rw [hn]; exact nI_lit hj) hv
  rw [nI_clamp hj.2] at this
  exact this
theorem e_bastoreV {j : Int32} {v : Int32} (hf : zfetch n pc = some (.bastore, 1)) (hk : zK h a = 21) (hn : zN h a = N) (hv : v = 0 ∨ v = 1) : ev z d n pc ls (.int v :: .int j :: .ref a :: r) h = ix j N (fun k => ev z d n (pc + 1) ls r (zwI h a k v)) := by
  unfold ix
  by_cases hj : ¬ j < 0 ∧ j.toNatClampNeg < N
  · rw [if_pos hj]
    exact e_bast hf hk (by rw [hn]; exact hj) hv
  · rw [if_neg hj]
    refine ev_none_of hf rfl ?_ rfl
    refine if_neg (fun e => hj ?_)
    rw [← hn]
    exact e.2.1
theorem e_lastoreK {v : Int64} (hf : zfetch n pc = some (.lastore, 1)) (hk : zK h a = 26) (hn : zN h a = N) (hj : k < N ∧ k < 2147483648) : ev z d n pc ls (.long v :: .int (nI k) :: .ref a :: r) h = ev z d n (pc + 1) ls r (zwJ h a k v) := by
  have := e_last (z := z) (d := d) (ls := ls) (r := r) hf hk (j := nI k) (v := v) (by rw [hn]; exact nI_lit hj)
  rw [nI_clamp hj.2] at this
  exact this
theorem e_lastoreV {j : Int32} {v : Int64} (hf : zfetch n pc = some (.lastore, 1)) (hk : zK h a = 26) (hn : zN h a = N) : ev z d n pc ls (.long v :: .int j :: .ref a :: r) h = ix j N (fun k => ev z d n (pc + 1) ls r (zwJ h a k v)) := by
  unfold ix
  by_cases hj : ¬ j < 0 ∧ j.toNatClampNeg < N
  · rw [if_pos hj]
    exact e_last hf hk (by rw [hn]; exact hj)
  · rw [if_neg hj]
    refine ev_none_of hf rfl ?_ rfl
    refine if_neg (fun e => hj ?_)
    rw [← hn]
    exact e.2
theorem zsC_s {k m : Nat} (hm : zmr n k = some m) (h1 : Nat.beq m 1001 = false) (hg : (Nat.blt m 351 && zstc m && Nat.ble (zpar m) st.length && Nat.ble (st.drop (zpar m)).length 4) = true) (h0 : zmath m = 0) : zsC n pc (.invokestatic k) 3 ls st h = some (.inr (.inr (m, (st.take (zpar m)).reverse, st.drop (zpar m)))) := by
  show zop (zmr n k) _ = _
  rw [hm]
  unfold zop
  dsimp only
  rw [h1]
  dsimp only
  rw [hg]
  dsimp only
  rw [h0]
  rfl
theorem e_cb {i : Instr} {len m d' : Nat} {as rest ent : List Value} (hf : zfetch n pc = some (i, len)) (ha : zsA z n pc i len ls st h = none) (hb : zsB z n pc i len ls st h = none) (hs : zsC n pc i len ls st h = some (.inr (.inr (m, as, rest)))) (hd : zdep d n m as = some d') (hi : Nat.blt (zin m) 99 = false) (he : zent m as = ent) : ev z d n pc ls st h = zbd (ev z d' m 0 ent [] h) (fun v h' => ev z d n (pc + 3) ls (v.toList ++ rest) h') (fun e h' => evx z d n pc ls e h') := by
  rw [ev_C hf ha hb hs]
  unfold evs
  dsimp only
  rw [hd, hi, he]
theorem zbd_cg {a b : Option (zO × Hp)} {F : Option Value → Hp → Option (zO × Hp)} {G : Nat → Hp → Option (zO × Hp)} (e : a = b) : zbd a F G = zbd b F G := by rw [e]
theorem zbd_ite {P : Prop} {dP : Decidable P} {a b : Option (zO × Hp)} {F : Option Value → Hp → Option (zO × Hp)} {G : Nat → Hp → Option (zO × Hp)} : zbd (if P then a else b) F G = if P then zbd a F G else zbd b F G := by split <;> rfl
theorem zbd_ix {j : Int32} {f : Nat → Option (zO × Hp)} {F : Option Value → Hp → Option (zO × Hp)} {G : Nat → Hp → Option (zO × Hp)} : zbd (ix j N f) F G = ix j N (fun k => zbd (f k) F G) := by unfold ix; split <;> rfl
theorem zbd_v {v : Value} {h2 : Hp} {G : Nat → Hp → Option (zO × Hp)} : zbd (some (.inl (some v), h2)) (fun v h' => ev z d n pc ls (v.toList ++ r) h') G = ev z d n pc ls (v :: r) h2 := rfl
theorem zbd_n {h2 : Hp} {G : Nat → Hp → Option (zO × Hp)} : zbd (some (.inl none, h2)) (fun v h' => ev z d n pc ls (v.toList ++ r) h') G = ev z d n pc ls r h2 := rfl
theorem zbd_x {x : Nat} {h2 : Hp} {F : Option Value → Hp → Option (zO × Hp)} (hh : zhh n = []) : zbd (some (.inr x, h2)) F (fun e h' => evx z d n pc ls e h') = some (.inr x, h2) := by
  show evx z d n pc ls x h2 = _
  unfold evx
  rw [hh]
/-- a call whose callee's answer is known -/
theorem e_K {i : Instr} {len m d' : Nat} {as rest ent : List Value} (hf : zfetch n pc = some (i, len)) (ha : zsA z n pc i len ls st h = none) (hb : zsB z n pc i len ls st h = none) (hs : zsC n pc i len ls st h = some (.inr (.inr (m, as, rest)))) (hd : zdep d n m as = some d') (he : zent m as = ent) {v : Option Value} {h1 : Hp} (hc : ev z d' m 0 ent [] h = some (.inl v, h1)) : ev z d n pc ls st h = ev z d n (pc + 3) ls (v.toList ++ rest) h1 := ev_call hf ha hb hs hd (by rw [he]; exact hc)
theorem e_X {i : Instr} {len m d' : Nat} {as rest ent : List Value} (hf : zfetch n pc = some (i, len)) (ha : zsA z n pc i len ls st h = none) (hb : zsB z n pc i len ls st h = none) (hs : zsC n pc i len ls st h = some (.inr (.inr (m, as, rest)))) (hd : zdep d n m as = some d') (he : zent m as = ent) (hi : Nat.blt (zin m) 99 = false) (hh : zhh n = []) {x : Nat} {h1 : Hp} (hc : ev z d' m 0 ent [] h = some (.inr x, h1)) : ev z d n pc ls st h = some (.inr x, h1) := by
  rw [ev_callX hf ha hb hs hd hi (by rw [he]; exact hc)]
  unfold evx
  rw [hh]
theorem e_H {i : Instr} {len m d' pc2 k2 : Nat} {as rest ent ls2 : List Value} (hf : zfetch n pc = some (i, len)) (ha : zsA z n pc i len ls st h = none) (hb : zsB z n pc i len ls st h = none) (hs : zsC n pc i len ls st h = some (.inr (.inr (m, as, rest)))) (hd : zdep d n m as = some d') (he : zent m as = ent) (hi : Nat.blt (zin m) 99 = false) {q : Nat × Nat × Nat × Nat} {t : List (Nat × Nat × Nat × Nat)} (hh : zhh n = q :: t) {x : Nat} {h1 : Hp} (hz : zhan n pc x = some (pc2, k2)) (hp : zput ls k2 zu = some ls2) (hc : ev z d' m 0 ent [] h = some (.inr x, h1)) : ev z d n pc ls st h = ev z d n pc2 ls2 [] h1 := by
  rw [ev_callX hf ha hb hs hd hi (by rw [he]; exact hc)]
  unfold evx
  rw [hh]
  dsimp only
  rw [hz]
  dsimp only
  rw [hp]
end
def RSk (h : Hp) (R : Nat) : Prop := zK h R = 11 ∧ zR h R 1 = some (R + 1) ∧ zK h (R + 1) = 20 ∧ zN h (R + 1) = 781 ∧ zR h R 2 = some (R + 2) ∧ zK h (R + 2) = 20 ∧ zN h (R + 2) = 781 ∧ zR h R 4 = some (R + 3) ∧ zK h (R + 3) = 20 ∧ zN h (R + 3) = 381 ∧ zR h R 5 = some (R + 4) ∧ zK h (R + 4) = 20 ∧ zN h (R + 4) = 4572 ∧ zR h R 7 = some (R + 5) ∧ zK h (R + 5) = 20 ∧ zN h (R + 5) = 400 ∧ zR h R 14 = some (R + 6) ∧ zK h (R + 6) = 20 ∧ zN h (R + 6) = 7 ∧ zR h R 20 = some (R + 7) ∧ zK h (R + 7) = 21 ∧ zN h (R + 7) = 126 ∧ zR h R 21 = some (R + 8) ∧ zK h (R + 8) = 20 ∧ zN h (R + 8) = 126 ∧ zR h R 22 = some (R + 9) ∧ zK h (R + 9) = 20 ∧ zN h (R + 9) = 576 ∧ zR h R 23 = some (R + 10) ∧ zK h (R + 10) = 20 ∧ zN h (R + 10) = 8
theorem RSk_K {h : Hp} {R : Nat} (s : RSk h R) : zK h R = 11 := s.1
theorem RSk_R1 {h : Hp} {R : Nat} (s : RSk h R) : zR h R 1 = some (R + 1) := s.2.1
theorem RSk_k1 {h : Hp} {R : Nat} (s : RSk h R) : zK h (R + 1) = 20 := s.2.2.1
theorem RSk_n1 {h : Hp} {R : Nat} (s : RSk h R) : zN h (R + 1) = 781 := s.2.2.2.1
theorem RSk_R2 {h : Hp} {R : Nat} (s : RSk h R) : zR h R 2 = some (R + 2) := s.2.2.2.2.1
theorem RSk_k2 {h : Hp} {R : Nat} (s : RSk h R) : zK h (R + 2) = 20 := s.2.2.2.2.2.1
theorem RSk_n2 {h : Hp} {R : Nat} (s : RSk h R) : zN h (R + 2) = 781 := s.2.2.2.2.2.2.1
theorem RSk_R4 {h : Hp} {R : Nat} (s : RSk h R) : zR h R 4 = some (R + 3) := s.2.2.2.2.2.2.2.1
theorem RSk_k4 {h : Hp} {R : Nat} (s : RSk h R) : zK h (R + 3) = 20 := s.2.2.2.2.2.2.2.2.1
theorem RSk_n4 {h : Hp} {R : Nat} (s : RSk h R) : zN h (R + 3) = 381 := s.2.2.2.2.2.2.2.2.2.1
theorem RSk_R5 {h : Hp} {R : Nat} (s : RSk h R) : zR h R 5 = some (R + 4) := s.2.2.2.2.2.2.2.2.2.2.1
theorem RSk_k5 {h : Hp} {R : Nat} (s : RSk h R) : zK h (R + 4) = 20 := s.2.2.2.2.2.2.2.2.2.2.2.1
theorem RSk_n5 {h : Hp} {R : Nat} (s : RSk h R) : zN h (R + 4) = 4572 := s.2.2.2.2.2.2.2.2.2.2.2.2.1
theorem RSk_R7 {h : Hp} {R : Nat} (s : RSk h R) : zR h R 7 = some (R + 5) := s.2.2.2.2.2.2.2.2.2.2.2.2.2.1
theorem RSk_k7 {h : Hp} {R : Nat} (s : RSk h R) : zK h (R + 5) = 20 := s.2.2.2.2.2.2.2.2.2.2.2.2.2.2.1
theorem RSk_n7 {h : Hp} {R : Nat} (s : RSk h R) : zN h (R + 5) = 400 := s.2.2.2.2.2.2.2.2.2.2.2.2.2.2.2.1
theorem RSk_R14 {h : Hp} {R : Nat} (s : RSk h R) : zR h R 14 = some (R + 6) := s.2.2.2.2.2.2.2.2.2.2.2.2.2.2.2.2.1
theorem RSk_k14 {h : Hp} {R : Nat} (s : RSk h R) : zK h (R + 6) = 20 := s.2.2.2.2.2.2.2.2.2.2.2.2.2.2.2.2.2.1
theorem RSk_n14 {h : Hp} {R : Nat} (s : RSk h R) : zN h (R + 6) = 7 := s.2.2.2.2.2.2.2.2.2.2.2.2.2.2.2.2.2.2.1
theorem RSk_R20 {h : Hp} {R : Nat} (s : RSk h R) : zR h R 20 = some (R + 7) := s.2.2.2.2.2.2.2.2.2.2.2.2.2.2.2.2.2.2.2.1
theorem RSk_k20 {h : Hp} {R : Nat} (s : RSk h R) : zK h (R + 7) = 21 := s.2.2.2.2.2.2.2.2.2.2.2.2.2.2.2.2.2.2.2.2.1
theorem RSk_n20 {h : Hp} {R : Nat} (s : RSk h R) : zN h (R + 7) = 126 := s.2.2.2.2.2.2.2.2.2.2.2.2.2.2.2.2.2.2.2.2.2.1
theorem RSk_R21 {h : Hp} {R : Nat} (s : RSk h R) : zR h R 21 = some (R + 8) := s.2.2.2.2.2.2.2.2.2.2.2.2.2.2.2.2.2.2.2.2.2.2.1
theorem RSk_k21 {h : Hp} {R : Nat} (s : RSk h R) : zK h (R + 8) = 20 := s.2.2.2.2.2.2.2.2.2.2.2.2.2.2.2.2.2.2.2.2.2.2.2.1
theorem RSk_n21 {h : Hp} {R : Nat} (s : RSk h R) : zN h (R + 8) = 126 := s.2.2.2.2.2.2.2.2.2.2.2.2.2.2.2.2.2.2.2.2.2.2.2.2.1
theorem RSk_R22 {h : Hp} {R : Nat} (s : RSk h R) : zR h R 22 = some (R + 9) := s.2.2.2.2.2.2.2.2.2.2.2.2.2.2.2.2.2.2.2.2.2.2.2.2.2.1
theorem RSk_k22 {h : Hp} {R : Nat} (s : RSk h R) : zK h (R + 9) = 20 := s.2.2.2.2.2.2.2.2.2.2.2.2.2.2.2.2.2.2.2.2.2.2.2.2.2.2.1
theorem RSk_n22 {h : Hp} {R : Nat} (s : RSk h R) : zN h (R + 9) = 576 := s.2.2.2.2.2.2.2.2.2.2.2.2.2.2.2.2.2.2.2.2.2.2.2.2.2.2.2.1
theorem RSk_R23 {h : Hp} {R : Nat} (s : RSk h R) : zR h R 23 = some (R + 10) := s.2.2.2.2.2.2.2.2.2.2.2.2.2.2.2.2.2.2.2.2.2.2.2.2.2.2.2.2.1
theorem RSk_k23 {h : Hp} {R : Nat} (s : RSk h R) : zK h (R + 10) = 20 := s.2.2.2.2.2.2.2.2.2.2.2.2.2.2.2.2.2.2.2.2.2.2.2.2.2.2.2.2.2.1
theorem RSk_n23 {h : Hp} {R : Nat} (s : RSk h R) : zN h (R + 10) = 8 := s.2.2.2.2.2.2.2.2.2.2.2.2.2.2.2.2.2.2.2.2.2.2.2.2.2.2.2.2.2.2
theorem RSk_kr1 {h : Hp} {R : Nat} (s : RSk h R) : 20 ≤ zK h (R + 1) ∧ zK h (R + 1) ≤ 28 := by rw [RSk_k1 s]; decide
theorem RSk_kr2 {h : Hp} {R : Nat} (s : RSk h R) : 20 ≤ zK h (R + 2) ∧ zK h (R + 2) ≤ 28 := by rw [RSk_k2 s]; decide
theorem RSk_kr4 {h : Hp} {R : Nat} (s : RSk h R) : 20 ≤ zK h (R + 3) ∧ zK h (R + 3) ≤ 28 := by rw [RSk_k4 s]; decide
theorem RSk_kr5 {h : Hp} {R : Nat} (s : RSk h R) : 20 ≤ zK h (R + 4) ∧ zK h (R + 4) ≤ 28 := by rw [RSk_k5 s]; decide
theorem RSk_kr7 {h : Hp} {R : Nat} (s : RSk h R) : 20 ≤ zK h (R + 5) ∧ zK h (R + 5) ≤ 28 := by rw [RSk_k7 s]; decide
theorem RSk_kr14 {h : Hp} {R : Nat} (s : RSk h R) : 20 ≤ zK h (R + 6) ∧ zK h (R + 6) ≤ 28 := by rw [RSk_k14 s]; decide
theorem RSk_kr20 {h : Hp} {R : Nat} (s : RSk h R) : 20 ≤ zK h (R + 7) ∧ zK h (R + 7) ≤ 28 := by rw [RSk_k20 s]; decide
theorem RSk_kr21 {h : Hp} {R : Nat} (s : RSk h R) : 20 ≤ zK h (R + 8) ∧ zK h (R + 8) ≤ 28 := by rw [RSk_k21 s]; decide
theorem RSk_kr22 {h : Hp} {R : Nat} (s : RSk h R) : 20 ≤ zK h (R + 9) ∧ zK h (R + 9) ≤ 28 := by rw [RSk_k22 s]; decide
theorem RSk_kr23 {h : Hp} {R : Nat} (s : RSk h R) : 20 ≤ zK h (R + 10) ∧ zK h (R + 10) ≤ 28 := by rw [RSk_k23 s]; decide
def PSk (h : Hp) (p : Nat) : Prop := (zK h p = 8) ∧ (zR h p 0 = some (p + 1)) ∧ (zR h p 2 = some (p + 2)) ∧ (zR h p 4 = some (p + 3)) ∧ (zR h p 6 = some (p + 4)) ∧ (zR h p 13 = some (p + 5)) ∧ (zR h p 14 = some (p + 7)) ∧ (zK h (p + 1) = 24) ∧ (zN h (p + 1) = 6) ∧ (zK h (p + 2) = 23) ∧ (zN h (p + 2) = 6) ∧ (zK h (p + 3) = 22) ∧ (zN h (p + 3) = 8) ∧ (zK h (p + 4) = 20) ∧ (zN h (p + 4) = 4) ∧ (zK h (p + 5) = 5) ∧ (zR h (p + 5) 0 = some (p + 6)) ∧ (zK h (p + 6) = 20) ∧ (zN h (p + 6) = 240) ∧ (zK h (p + 7) = 20) ∧ (zN h (p + 7) = 9) ∧ (∀ k, k < 6 → zR h (p + 1) k = some (p + 8 + k)) ∧ (∀ k, k < 6 → zR h (p + 2) k = some (p + 14 + k)) ∧ (∀ k, k < 8 → zR h (p + 3) k = some (p + 20 + k)) ∧ (∀ k, k < 6 → zK h (p + 8 + k) = 7) ∧ (∀ k, k < 6 → zK h (p + 14 + k) = 2) ∧ (∀ k, k < 8 → zK h (p + 20 + k) = 1)
theorem PSk_K {h : Hp} {p : Nat} (s : PSk h p) : zK h p = 8 := s.1
theorem PSk_R0 {h : Hp} {p : Nat} (s : PSk h p) : zR h p 0 = some (p + 1) := s.2.1
theorem PSk_R2 {h : Hp} {p : Nat} (s : PSk h p) : zR h p 2 = some (p + 2) := s.2.2.1
theorem PSk_R4 {h : Hp} {p : Nat} (s : PSk h p) : zR h p 4 = some (p + 3) := s.2.2.2.1
theorem PSk_R6 {h : Hp} {p : Nat} (s : PSk h p) : zR h p 6 = some (p + 4) := s.2.2.2.2.1
theorem PSk_R13 {h : Hp} {p : Nat} (s : PSk h p) : zR h p 13 = some (p + 5) := s.2.2.2.2.2.1
theorem PSk_R14 {h : Hp} {p : Nat} (s : PSk h p) : zR h p 14 = some (p + 7) := s.2.2.2.2.2.2.1
theorem PSk_q0 {h : Hp} {p : Nat} (s : PSk h p) : zK h (p + 1) = 24 := s.2.2.2.2.2.2.2.1
theorem PSk_n0 {h : Hp} {p : Nat} (s : PSk h p) : zN h (p + 1) = 6 := s.2.2.2.2.2.2.2.2.1
theorem PSk_q2 {h : Hp} {p : Nat} (s : PSk h p) : zK h (p + 2) = 23 := s.2.2.2.2.2.2.2.2.2.1
theorem PSk_n2 {h : Hp} {p : Nat} (s : PSk h p) : zN h (p + 2) = 6 := s.2.2.2.2.2.2.2.2.2.2.1
theorem PSk_q4 {h : Hp} {p : Nat} (s : PSk h p) : zK h (p + 3) = 22 := s.2.2.2.2.2.2.2.2.2.2.2.1
theorem PSk_n4 {h : Hp} {p : Nat} (s : PSk h p) : zN h (p + 3) = 8 := s.2.2.2.2.2.2.2.2.2.2.2.2.1
theorem PSk_i4 {h : Hp} {p : Nat} (s : PSk h p) : zK h (p + 4) = 20 := s.2.2.2.2.2.2.2.2.2.2.2.2.2.1
theorem PSk_in4 {h : Hp} {p : Nat} (s : PSk h p) : zN h (p + 4) = 4 := s.2.2.2.2.2.2.2.2.2.2.2.2.2.2.1
theorem PSk_B {h : Hp} {p : Nat} (s : PSk h p) : zK h (p + 5) = 5 := s.2.2.2.2.2.2.2.2.2.2.2.2.2.2.2.1
theorem PSk_BR {h : Hp} {p : Nat} (s : PSk h p) : zR h (p + 5) 0 = some (p + 6) := s.2.2.2.2.2.2.2.2.2.2.2.2.2.2.2.2.1
theorem PSk_i6 {h : Hp} {p : Nat} (s : PSk h p) : zK h (p + 6) = 20 := s.2.2.2.2.2.2.2.2.2.2.2.2.2.2.2.2.2.1
theorem PSk_in6 {h : Hp} {p : Nat} (s : PSk h p) : zN h (p + 6) = 240 := s.2.2.2.2.2.2.2.2.2.2.2.2.2.2.2.2.2.2.1
theorem PSk_i7 {h : Hp} {p : Nat} (s : PSk h p) : zK h (p + 7) = 20 := s.2.2.2.2.2.2.2.2.2.2.2.2.2.2.2.2.2.2.2.1
theorem PSk_in7 {h : Hp} {p : Nat} (s : PSk h p) : zN h (p + 7) = 9 := s.2.2.2.2.2.2.2.2.2.2.2.2.2.2.2.2.2.2.2.2.1
theorem PSk_e0 {h : Hp} {p : Nat} (s : PSk h p) : ∀ k, k < 6 → zR h (p + 1) k = some (p + 8 + k) := s.2.2.2.2.2.2.2.2.2.2.2.2.2.2.2.2.2.2.2.2.2.1
theorem PSk_e2 {h : Hp} {p : Nat} (s : PSk h p) : ∀ k, k < 6 → zR h (p + 2) k = some (p + 14 + k) := s.2.2.2.2.2.2.2.2.2.2.2.2.2.2.2.2.2.2.2.2.2.2.1
theorem PSk_e4 {h : Hp} {p : Nat} (s : PSk h p) : ∀ k, k < 8 → zR h (p + 3) k = some (p + 20 + k) := s.2.2.2.2.2.2.2.2.2.2.2.2.2.2.2.2.2.2.2.2.2.2.2.1
theorem PSk_O0 {h : Hp} {p : Nat} (s : PSk h p) : ∀ k, k < 6 → zK h (p + 8 + k) = 7 := s.2.2.2.2.2.2.2.2.2.2.2.2.2.2.2.2.2.2.2.2.2.2.2.2.1
theorem PSk_O2 {h : Hp} {p : Nat} (s : PSk h p) : ∀ k, k < 6 → zK h (p + 14 + k) = 2 := s.2.2.2.2.2.2.2.2.2.2.2.2.2.2.2.2.2.2.2.2.2.2.2.2.2.1
theorem PSk_O4 {h : Hp} {p : Nat} (s : PSk h p) : ∀ k, k < 8 → zK h (p + 20 + k) = 1 := s.2.2.2.2.2.2.2.2.2.2.2.2.2.2.2.2.2.2.2.2.2.2.2.2.2.2
theorem PSk_kr0 {h : Hp} {p : Nat} (s : PSk h p) : 22 ≤ zK h (p + 1) ∧ zK h (p + 1) ≤ 25 := by rw [PSk_q0 s]; decide
theorem PSk_o0 {h : Hp} {p k : Nat} (s : PSk h p) (hk : k < 6) : zK h (p + 8 + k) = 7 := PSk_O0 s k hk
theorem PSk_kr2 {h : Hp} {p : Nat} (s : PSk h p) : 22 ≤ zK h (p + 2) ∧ zK h (p + 2) ≤ 25 := by rw [PSk_q2 s]; decide
theorem PSk_o2 {h : Hp} {p k : Nat} (s : PSk h p) (hk : k < 6) : zK h (p + 14 + k) = 2 := PSk_O2 s k hk
theorem PSk_kr4 {h : Hp} {p : Nat} (s : PSk h p) : 22 ≤ zK h (p + 3) ∧ zK h (p + 3) ≤ 25 := by rw [PSk_q4 s]; decide
theorem PSk_o4 {h : Hp} {p k : Nat} (s : PSk h p) (hk : k < 8) : zK h (p + 20 + k) = 1 := PSk_O4 s k hk
theorem PSk_ir4 {h : Hp} {p : Nat} (s : PSk h p) : 20 ≤ zK h (p + 4) ∧ zK h (p + 4) ≤ 28 := by rw [PSk_i4 s]; decide
theorem PSk_ir6 {h : Hp} {p : Nat} (s : PSk h p) : 20 ≤ zK h (p + 6) ∧ zK h (p + 6) ≤ 28 := by rw [PSk_i6 s]; decide
theorem PSk_ir7 {h : Hp} {p : Nat} (s : PSk h p) : 20 ≤ zK h (p + 7) ∧ zK h (p + 7) ≤ 28 := by rw [PSk_i7 s]; decide
