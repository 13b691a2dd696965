/-! A SEASON LEAVES ROWS WELL -/
def okN (l : LN) : Prop := ∃ n, n ≤ 40 ∧ l.2.1 = nI n
section
variable {T P : Row} {E s : Nat} {F : Nat → Int32} {ls : List LN} {np ni nd k : Nat} {sp : Int32}
theorem lwL_a {q : LN × Nat} (h : lwL T E s = .inr q) : okN q.1 := by
  unfold lwL at h
  obtain ⟨k, h1, h2⟩ := pB_inv h
  obtain ⟨n, h3, h4⟩ := pB_inv h2
  obtain ⟨m, -, hm, em⟩ := pN_ok h3 (by decide) (by decide)
  split at h4
  · obtain ⟨c, h5, h6⟩ := pB_inv h4
    cases h6
    exact ⟨m, hm, em⟩
  · cases h4
    exact ⟨m, hm, em⟩
theorem lwR_a : ∀ n s ls, lwR T E n s = .inr ls → ∀ l, l ∈ ls → okN l
  | 0, s, ls, h => by cases h
  | n + 1, s, ls, h => by
    unfold lwR at h
    obtain ⟨q, h1, h2⟩ := pB_inv h
    have ok := lwL_a h1
    split at h2
    · split at h2
      · obtain ⟨l2, h3, h4⟩ := pB_inv h2
        cases h4
        intro l hl
        rcases List.mem_cons.mp hl with rfl | hl
        · exact ok
        · exact lwR_a n _ l2 h3 l hl
      · cases h2
    · cases h2
      intro l hl
      rcases List.mem_cons.mp hl with rfl | hl
      · exact ok
      · cases hl
theorem OkL.am (H : OkL P ls) : ∀ l, l ∈ ls → okN l := by
  rcases H with ⟨-, rfl⟩ | ⟨E, -, -, -, h⟩
  · intro l hl; cases hl
  · unfold lwT at h
    split at h
    · exact lwR_a 12 _ ls h
    · cases h
      intro l hl; cases hl
theorem tl_b {k : Int32} : ∀ (ls : List LN) (a : Nat), (∀ l, l ∈ ls → okN l) → ∃ b, b ≤ a + 40 * ls.length ∧ tlS F k ls (nI a) = nI b
  | [], a, _ => ⟨a, by simp, rfl⟩
  | l :: ls, a, ok => by
    obtain ⟨n, hn, en⟩ := ok l List.mem_cons_self
    unfold tlS
    have ih := fun a => tl_b (k := k) ls a (fun l hl => ok l (List.mem_cons_of_mem _ hl))
    rw [en, nI_add, List.length_cons]
    split
    · split
      · obtain ⟨b, h1, h2⟩ := ih a
        exact ⟨b, by omega, h2⟩
      · obtain ⟨b, h1, h2⟩ := ih (a + n)
        exact ⟨b, by omega, h2⟩
    · obtain ⟨b, h1, h2⟩ := ih a
      exact ⟨b, by omega, h2⟩
theorem ripS_b (hI : OkI P ni) (hD : OkD P np ni nd) (hS : OkS P) (h6 : ni ≤ 6) (hL : OkL P ls) (hk : k < nd) : ∃ r, r ≤ 489 ∧ ripS P ls k = nI r := by
  obtain ⟨-, i2⟩ := ink_e hD hk h6
  obtain ⟨-, s2⟩ := sea_e hS
  have l12 := hL.ok.1
  have sk := skN_le hI i2 s2
  have so : soS P k = nI (skN P (cN (P (45 + 12 * k + 0))) (seaN P)) := skN_I hI i2 s2
  obtain ⟨a, ha, ea⟩ := tl_b (F := fac P k) (k := nI 0) ls 0 hL.am
  obtain ⟨b, hb, eb⟩ := tl_b (F := fac P k) (k := nI 1) ls 0 hL.am
  have ex : ripX P ls k = nI (1 + skN P (cN (P (45 + 12 * k + 0))) (seaN P) + a) - nI b := by
    unfold ripX
    rw [rp_0 hL.ok.2, ea, eb, so, nI_add, ← nI_add (1 + _) a]
    grind
  unfold ripS
  rw [ex]
  generalize skN P (cN (P (45 + 12 * k + 0))) (seaN P) = x at sk
  by_cases c : 1 + x + a < b
  · rw [if_pos (show _ < nI 0 from pk_sneg (by omega) c)]
    exact ⟨0, by omega, rfl⟩
  · rw [pk_sub (by omega), if_neg (nI_nlt (by omega) (by omega))]
    exact ⟨_, by omega, rfl⟩
theorem cosS_b (hS : OkS P) (hL : OkL P ls) : ∃ r, r ≤ 489 ∧ cosS P ls k = nI r := by
  have l12 := hL.ok.1
  obtain ⟨a, ha, ea⟩ := tl_b (F := fac P k) (k := nI 2) ls 0 hL.am
  obtain ⟨m, hm, em⟩ := hS.2.1
  unfold cosS
  rw [cp_0 hL.ok.2, ea, em, nI_add]
  exact ⟨_, by omega, rfl⟩
theorem ripV_b (H : Ok (P, np, ni, nd)) (hL : OkL P ls) (hsp : sp = nI 0 ∨ sp = nI 1) (hk : k < nd) : ∃ r, r ≤ 999 ∧ ripV P ls sp k = nI r := by
  obtain ⟨⟨h3, h4, h5, l6, l7, l8⟩, hD, hE, hP, hI, hS⟩ := H
  dsimp only at h3 h4 h5 l6 l7 l8 hD hE hP hI hS
  obtain ⟨r, hr, er⟩ := ripS_b hI hD hS l7 hL hk
  obtain ⟨-, -, -, ⟨m, hm, em⟩, -⟩ := hE k hk
  unfold ripV
  rw [er, em]
  rcases hsp with rfl | rfl
  · rw [nI_add, nI_add, mn_nI (by decide) (by omega)]
    exact ⟨_, by omega, rfl⟩
  · rw [nI_add, nI_add, mn_nI (by decide) (by omega)]
    exact ⟨_, by omega, rfl⟩
theorem comeS_ok (H : Ok (P, np, ni, nd)) (hk : k < nd) : Ok (comeS P k, np, ni, nd) := by
  have t := H.2.2.2.2.2.1
  have H1 : Ok (up P (45 + 12 * k + 10) (nI 1), np, ni, nd) := Ok_D (S := (P, np, ni, nd)) H hk (by decide) (by decide) (fun e => absurd e (by decide)) (fun e => absurd e (by decide)) (fun e => absurd e (by decide)) (fun _ => ⟨1, by decide, rfl⟩) (fun e => absurd e (by decide))
  have H2 : Ok (up (up P (45 + 12 * k + 10) (nI 1)) (45 + 12 * k + 9) (P 6), np, ni, nd) := Ok_D (S := (_, np, ni, nd)) H1 hk (by decide) (by decide) (fun e => absurd e (by decide)) (fun e => absurd e (by decide)) (fun _ => Or.inr t) (fun e => absurd e (by decide)) (fun e => absurd e (by decide))
  exact Ok_log (S := (_, np, ni, nd)) H2
theorem ripD_ok (H : Ok (P, np, ni, nd)) (hL : OkL P ls) (hsp : sp = nI 0 ∨ sp = nI 1) (hk : k < nd) : Ok (ripD P ls sp k, np, ni, nd) := by
  have b := ripV_b H hL hsp hk
  have H1 : Ok (up P (45 + 12 * k + 8) (ripV P ls sp k), np, ni, nd) := Ok_D (S := (P, np, ni, nd)) H hk (by decide) (by decide) (fun e => absurd e (by decide)) (fun _ => b) (fun e => absurd e (by decide)) (fun e => absurd e (by decide)) (fun e => absurd e (by decide))
  unfold ripD
  split
  · exact comeS_ok H1 hk
  · exact H1
theorem fadD_ok (H : Ok (P, np, ni, nd)) (hk : k < nd) : Ok (fadD P k, np, ni, nd) := by
  have H1 : Ok (up P (45 + 12 * k + 10) (nI 2), np, ni, nd) := Ok_D (S := (P, np, ni, nd)) H hk (by decide) (by decide) (fun e => absurd e (by decide)) (fun e => absurd e (by decide)) (fun e => absurd e (by decide)) (fun _ => ⟨2, by decide, rfl⟩) (fun e => absurd e (by decide))
  exact Ok_log (S := (_, np, ni, nd)) H1
theorem dN_e (hD : OkD P np ni nd) (hk : k < nd) (h6 : np ≤ 6) : P (45 + 12 * k + 1) = nI (dN P k) ∧ dN P k < np := by
  obtain ⟨i, hi, e⟩ := (hD k hk).2.1
  unfold dN
  rw [e, cN_nI (by omega)]
  exact ⟨rfl, hi⟩
theorem eN_e (hD : OkD P np ni nd) (hk : k < nd) (h6 : np ≤ 6) : P (45 + 12 * k + 2) = nI (eN P k) ∧ eN P k < np := by
  obtain ⟨i, hi, e⟩ := (hD k hk).2.2.1
  unfold eN
  rw [e, cN_nI (by omega)]
  exact ⟨rfl, hi⟩
theorem payV_b (H : Ok (P, np, ni, nd)) (hk : k < nd) : ∃ c v, v ≤ c ∧ c ≤ 9999 ∧ v ≤ 99 ∧ P (15 + 2 * dN P k + 0) = nI c ∧ payV P k = nI v := by
  obtain ⟨⟨h3, h4, h5, l6, l7, l8⟩, hD, hE, hP, hI, hS⟩ := H
  dsimp only at h3 h4 h5 l6 l7 l8 hD hE hP hI hS
  obtain ⟨d1, d2⟩ := dN_e hD hk l6
  obtain ⟨-, c, hc, ec⟩ := hP _ d2
  obtain ⟨⟨m, hm, em⟩, -⟩ := hE k hk
  unfold payV payI
  rw [ec, em]
  by_cases q : nI m ≤ nI c
  · have := (nI_leI (by omega) (by omega)).mp q
    exact ⟨c, m, by omega, hc, by omega, rfl, by rw [if_pos (decide_eq_true q)]⟩
  · have : ¬ m ≤ c := fun h => q ((nI_leI (a := m) (b := c) (by omega) (by omega)).mpr h)
    exact ⟨c, c, by omega, hc, by omega, rfl, by rw [if_neg (fun e => q (of_decide_eq_true e))]⟩
theorem payD_ok (H : Ok (P, np, ni, nd)) (hk : k < nd) : Ok (payD P k, np, ni, nd) := by
  obtain ⟨c, v, h1, h2, h2', e1, e2⟩ := payV_b H hk
  have l6 : np ≤ 6 := H.1.2.2.2.1
  obtain ⟨d1, d2⟩ := dN_e H.2.1 hk l6
  obtain ⟨g1, g2⟩ := eN_e H.2.1 hk l6
  dsimp only at d1 d2 g1 g2
  have H1 : Ok (pay1 P k, np, ni, nd) := Ok_P (S := (P, np, ni, nd)) H d2 (by decide) (fun _ => ⟨c - v, by omega, by rw [e1, e2, pk_sub h1]⟩) (fun e => absurd e (by decide))
  have H2 : Ok (pay2 P k, np, ni, nd) := by
    obtain ⟨-, x, hx, ex⟩ := H1.2.2.2.1 _ g2
    dsimp only at ex
    exact Ok_P (S := (pay1 P k, np, ni, nd)) H1 g2 (by decide) (fun _ => ⟨min 9999 (x + v), by omega, by rw [ex, e2, nI_add, mn_nI (by decide) (by omega)]⟩) (fun e => absurd e (by decide))
  have H3 : Ok (pay3 P k, np, ni, nd) := by
    unfold pay3
    split
    · exact H2
    · exact Ok_P (S := (pay2 P k, np, ni, nd)) H2 d2 (by decide) (fun e => absurd e (by decide)) (fun _ => Or.inr rfl)
  have H4 : Ok (pay4 P k, np, ni, nd) := Ok_D (S := (pay3 P k, np, ni, nd)) H3 hk (by decide) (by decide) (fun e => absurd e (by decide)) (fun e => absurd e (by decide)) (fun e => absurd e (by decide)) (fun e => absurd e (by decide)) (fun _ => Or.inr rfl)
  exact Ok_log (S := (pay4 P k, np, ni, nd)) H4
/-! what steps leave as it was -/
theorem comeS_o {i : Nat} (h9 : i ≠ 9) (h : i < 141 ∨ 381 ≤ i) (h1 : i ≠ 45 + 12 * k + 9) (h2 : i ≠ 45 + 12 * k + 10) : comeS P k i = P i := (logP_o h9 h).trans ((up_n h1).trans (up_n h2))
theorem ripD_o {i : Nat} (h9 : i ≠ 9) (h : i < 141 ∨ 381 ≤ i) (h0 : i ≠ 45 + 12 * k + 8) (h1 : i ≠ 45 + 12 * k + 9) (h2 : i ≠ 45 + 12 * k + 10) : ripD P ls sp k i = P i := by
  unfold ripD
  split
  · rw [comeS_o h9 h h1 h2, up_n h0]
  · exact up_n h0
theorem fadD_o {i : Nat} (h9 : i ≠ 9) (h : i < 141 ∨ 381 ≤ i) (h2 : i ≠ 45 + 12 * k + 10) : fadD P k i = P i := (logP_o h9 h).trans (up_n h2)
theorem pay3_o {i : Nat} (h0 : i ≠ 15 + 2 * dN P k + 0) (h1 : i ≠ 15 + 2 * dN P k + 1) (h2 : i ≠ 15 + 2 * eN P k + 0) : pay3 P k i = P i := by
  have : pay2 P k i = P i := (up_n h2).trans (up_n h0)
  unfold pay3
  split
  · exact this
  · exact (up_n h1).trans this
theorem payD_o {i : Nat} (hd : dN P k < 6) (he : eN P k < 6) (h9 : i ≠ 9) (h : i < 141 ∨ 381 ≤ i) (hp : i < 15 ∨ 27 ≤ i) (h2 : i ≠ 45 + 12 * k + 11) : payD P k i = P i := (logP_o h9 h).trans ((up_n h2).trans (pay3_o (by omega) (by omega) (by omega)))
theorem ripD_q (hk : k < 8) : Qt P (ripD P ls sp k) := by
  unfold ripD
  split
  · exact (Qt.d hk (by decide)).tr ((Qt.d hk (by decide)).tr ((Qt.d hk (by decide)).tr Qt.l))
  · exact Qt.d hk (by decide)
theorem fadD_q (hk : k < 8) : Qt P (fadD P k) := (Qt.d hk (by decide)).tr Qt.l
theorem payD_q (hk : k < 8) (hd : dN P k < 6) (he : eN P k < 6) : Qt P (payD P k) := by
  have h2 : Qt P (pay2 P k) := (Qt.p hd (by decide)).tr (Qt.p he (by decide))
  have h3 : Qt P (pay3 P k) := by
    unfold pay3
    split
    · exact h2
    · exact h2.tr (Qt.p hd (by decide))
  exact h3.tr ((Qt.d hk (by decide)).tr Qt.l)
/-- the blanks' ripening -/
theorem ripL_ok (H : Ok (P, np, ni, nd)) (hL : OkL P ls) (hsp : sp = nI 0 ∨ sp = nI 1) : ∀ k, k ≤ nd → Ok (ripL ls sp P k, np, ni, nd) ∧ Qt P (ripL ls sp P k) ∧ ripL ls sp P k 6 = P 6 ∧ (∀ j c, k ≤ j → j < 8 → c < 12 → ripL ls sp P k (45 + 12 * j + c) = P (45 + 12 * j + c)) ∧ ∀ j, j < k → P (45 + 12 * j + 10) = 0 → ripL ls sp P k (45 + 12 * j + 10) = 0 ∨ (ripL ls sp P k (45 + 12 * j + 10) = nI 1 ∧ ripL ls sp P k (45 + 12 * j + 9) = P 6) := by
  have h8 : nd ≤ 8 := H.1.2.2.2.2.2
  intro k
  induction k with
  | zero => exact fun _ => ⟨H, Qt.rf, rfl, fun _ _ _ _ _ => rfl, fun j hj => by omega⟩
  | succ k ih =>
    intro hk
    obtain ⟨K, q, t, e, b⟩ := ih (by omega)
    unfold ripL
    by_cases c0 : ripL ls sp P k (45 + 12 * k + 10) = 0
    · rw [if_pos c0]
      refine ⟨ripD_ok K (q.okl hL) hsp (by omega), q.tr (ripD_q (by omega)), (ripD_o (by decide) (by decide) (by omega) (by omega) (by omega)).trans t, fun j c h1 h2 h3 => (ripD_o (by omega) (by omega) (by omega) (by omega) (by omega)).trans (e j c (by omega) h2 h3), fun j hj h0 => ?_⟩
      by_cases jk : j = k
      · subst jk
        unfold ripD
        split
        · right
          unfold comeS
          refine ⟨?_, ?_⟩
          · rw [logP_o (by omega) (by omega), up_n (by omega), up_a]
          · rw [logP_o (by omega) (by omega), up_a, up_n (by omega)]; exact t
        · left
          rw [up_n (by omega)]; exact c0
      · rw [ripD_o (by omega) (by omega) (by omega) (by omega) (by omega), ripD_o (by omega) (by omega) (by omega) (by omega) (by omega)]
        exact b j (by omega) h0
    · rw [if_neg c0]
      refine ⟨K, q, t, fun j c h1 h2 h3 => e j c (by omega) h2 h3, fun j hj h0 => ?_⟩
      by_cases jk : j = k
      · subst jk
        rw [e j 10 (Nat.le_refl _) (by omega) (by decide)] at c0
        exact absurd h0 c0
      · exact b j (by omega) h0
theorem fadL_ok (H : Ok (P, np, ni, nd)) : ∀ k, k ≤ nd → Ok (fadL P k, np, ni, nd) ∧ Qt P (fadL P k) ∧ fadL P k 6 = P 6 ∧ (∀ j c, k ≤ j → j < 8 → c < 12 → fadL P k (45 + 12 * j + c) = P (45 + 12 * j + c)) := by
  have h8 : nd ≤ 8 := H.1.2.2.2.2.2
  intro k
  induction k with
  | zero => exact fun _ => ⟨H, Qt.rf, rfl, fun _ _ _ _ _ => rfl⟩
  | succ k ih =>
    intro hk
    obtain ⟨K, q, t, e⟩ := ih (by omega)
    unfold fadL
    split
    · exact ⟨fadD_ok K (by omega), q.tr (fadD_q (by omega)), (fadD_o (by decide) (by decide) (by omega)).trans t, fun j c h1 h2 h3 => (fadD_o (by omega) (by omega) (by omega)).trans (e j c (by omega) h2 h3)⟩
    · exact ⟨K, q, t, fun j c h1 h2 h3 => e j c (by omega) h2 h3⟩
theorem payL_ok {r : Int32} (H : Ok (P, np, ni, nd)) : ∀ k, k ≤ nd → Ok ((payL r P k).1, np, ni, nd) ∧ Qt P (payL r P k).1 ∧ (payL r P k).1 6 = P 6 ∧ (∀ j c, j < 8 → c < 11 → (payL r P k).1 (45 + 12 * j + c) = P (45 + 12 * j + c)) ∧ ∃ m, m ≤ k ∧ (payL r P k).2 = nI m := by
  have h8 : nd ≤ 8 := H.1.2.2.2.2.2
  have l6 : np ≤ 6 := H.1.2.2.2.1
  intro k
  induction k with
  | zero => exact fun _ => ⟨H, Qt.rf, rfl, fun _ _ _ _ => rfl, 0, Nat.le_refl _, rfl⟩
  | succ k ih =>
    intro hk
    obtain ⟨K, q, t, e, m, hm, em⟩ := ih (by omega)
    have d2 := (dN_e K.2.1 (show k < nd by omega) l6).2
    have g2 := (eN_e K.2.1 (show k < nd by omega) l6).2
    dsimp only at d2 g2
    unfold payL
    split
    · exact ⟨payD_ok K (by omega), q.tr (payD_q (by omega) (by omega) (by omega)), (payD_o (by omega) (by omega) (by decide) (by decide) (by decide) (by omega)).trans t, fun j c h2 h3 => (payD_o (by omega) (by omega) (by omega) (by omega) (by omega) (by omega)).trans (e j c h2 h3), m + 1, by omega, by rw [em, nI_add]⟩
    · exact ⟨K, q, t, e, m, by omega, em⟩
theorem inS_cg {Q : Row} {s : Int32} : ∀ n, (∀ j, j < n → Q (45 + 12 * j + 10) = P (45 + 12 * j + 10)) → inS Q s n = inS P s n
  | 0, _ => rfl
  | n + 1, h => by
    unfold inS
    rw [inS_cg n (fun j hj => h j (by omega)), h n (by omega)]
theorem psS_ok (H : Ok (P, np, ni, nd)) (hL : OkL P ls) (hsp : sp = nI 0 ∨ sp = nI 1) : Ok ((psS ls nd P sp).1, np, ni, nd) ∧ Qt P (psS ls nd P sp).1 ∧ OkL (psS ls nd P sp).1 ls := by
  obtain ⟨K1, q1, t1, -⟩ := ripL_ok H hL hsp nd (Nat.le_refl _)
  obtain ⟨K2, q2, t2, -⟩ := fadL_ok K1 nd (Nat.le_refl _)
  obtain ⟨K3, q3, t3, -, -⟩ := payL_ok (r := inS (fadL (ripL ls sp P nd) nd) (nI 1) nd) K2 nd (Nat.le_refl _)
  have q := q1.tr (q2.tr (q3.tr (Qt.t (v := mn (nI 9999) ((payL (inS (fadL (ripL ls sp P nd) nd) (nI 1) nd) (fadL (ripL ls sp P nd) nd) nd).1 6 + nI 1)))))
  refine ⟨?_, q, q.okl hL⟩
  obtain ⟨t, ht, et⟩ := K3.2.2.2.2.2.1
  dsimp only at et
  exact Ok_up (S := (_, np, ni, nd)) K3 (Or.inl rfl) (fun _ => ⟨min 9999 (t + 1), by omega, by rw [et, nI_add, mn_nI (by decide) (by omega)]⟩) (fun e => absurd e (by decide)) (fun e => absurd e (by decide)) (fun e => absurd e (by decide))
end
