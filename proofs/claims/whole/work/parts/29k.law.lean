/-! LAW in the class: helpers -/
section
variable {z : ZE} {d : Nat} {h h' g : Hp} {X R p : Nat} {S S1 : PSt} {K : Option Img} {A : List PSt} {tl : Nat} {T : Row} {ft : Int32} {ls l2 : List LN} {Lo Lo2 : Option Nat} {P Q : Row} {np ni nd m k r b Nb E s c L : Nat} {u v w : Int32} {B : Nat → Prop}
/-- what moves beyond a place -/
theorem Mv.ag (M : Mv B c s h h') (hB : ∀ x, B x → ¬ x < m) (hm : m ≤ zT h) : Ag (fun x => x < m) (fun x => x < m) h h' :=
  ⟨fun x hx => ⟨(M.1 x (Nat.lt_of_lt_of_le hx hm)).1, (M.1 x (Nat.lt_of_lt_of_le hx hm)).2.1, (M.2.1 x (Nat.lt_of_lt_of_le hx hm) (fun q => hB x q hx)).1⟩, fun x hx => (M.2.1 x (Nat.lt_of_lt_of_le hx hm) (fun q => hB x q hx)).2⟩
theorem rd_ag (a : Ag (fun x => x < m) (fun x => x < m) h h') (hr : r < m) (e : rdH h r T E s = h) : rdH h' r T E s = h' := by
  have o : ∀ y, zI h' r y = zI (rdH h r T E s) r y := fun y => by rw [e]; exact congrFun (a.i hr) y
  exact rd_id ((o 2).trans rd_2) ((o 3).trans rd_3) ((o 4).trans rd_4) ((o 5).trans rd_5)
theorem RdT.ag (a : Ag (fun x => x < m) (fun x => x < m) h h') (hr : r < m) (hb : b < m) (O : RdT h r b Nb E T) : RdT h' r b Nb E T := by
  obtain ⟨⟨o1, o2, o3, o4⟩, o5, o6, o7, o8, o9⟩ := O
  exact ⟨⟨by rw [a.k hr]; exact o1, by rw [a.r hr]; exact o2, by rw [a.k hb]; exact o3, by rw [a.n hb]; exact o4⟩, by rw [a.i hr]; exact o5, o6, o7, o8, (a.i hb).trans o9⟩
/-- a new port in the class, with another law -/
theorem CI.newL (H : CI z g X S ls Lo K A tl T ft) (fg : Fr (Pz (X + 4)) g h') (Tn : PT h' (X + 4) Q np ni nd) (zg : zR h' (X + 4) 12 = Lo2) (W : LwP h' Lo2 Q l2) (hL : ∀ L, Lo2 = some L → X + 433 ≤ L) : CI z (zwI h' X 8 (nI 0)) X (Q, np, ni, nd) l2 Lo2 K [] tl T ft := by
  have H0 := H
  obtain ⟨⟨x1, x2, x3⟩, p1, ct, f1, k1, nx, n1, n2, n3, n4, n5⟩ := H
  have hP := XSk_P3 x1
  obtain ⟨⟨y1, y2, y3⟩, y4, y5, y6, y7⟩ := CI_bec H0 (by omega) (by omega) fg hP
  have Pn : PL h' (X + 4) Q np ni nd Lo2 l2 := ⟨Tn, zg, W, fun L e => Or.inl (by have := hL L e; omega)⟩
  have fG : Fr (fun x => x = X) h' (zwI h' X 8 (nI 0)) := Fr.w rfl
  have pl : ∀ {p : Nat} {P : Row} {np ni nd : Nat} {Lo' : Option Nat} {ls' : List LN}, X < p → (∀ L, Lo' = some L → X + 433 ≤ L) → PL h' p P np ni nd Lo' ls' → PL (zwI h' X 8 (nI 0)) p P np ni nd Lo' ls' := fun hp hL Q => Q.fr fG (fun x y => by omega) (fun x L y e => by have := hL L e; omega)
  refine ⟨⟨XSk_w0 y1, WA_fr fG (fun x q => by rw [q, XSk_K y1]; decide) y2, hL, x3.2⟩, pl (by omega) hL Pn, ⟨?_, y4.2.1, fun k hk => ?_⟩, ?_, ?_, nx, n1, ?_, zI_wa, by decide, fun a S' e => ?_⟩
  · rw [zI_wj (by decide)]; exact y4.1
  · rw [zI_wb (by omega)]; exact y4.2.2 k hk
  · rw [zI_wb (by omega)]; exact y5
  · cases K with
    | none => exact ((zI_wj (by decide)).trans (congrFun y6 6)).trans k1
    | some q => exact ⟨((zI_wj (by decide)).trans (congrFun y6 6)).trans k1.1, pl (by omega) (fun L e => x3.2 q L rfl e) (y7 (by omega) (fun L e => x3.2 q L rfl e) k1.2)⟩
  · rw [zI_wj (by decide), y6]; exact n2
  · cases e
/-- laws that the class knows lie below the top -/
theorem CI.lt (t : Tp h) (H : CI z h X S ls Lo K A tl T ft) : (∀ L, Lo = some L → L + 6 ≤ zT h) ∧ ∀ q L, K = some q → q.2.2 = some L → L + 6 ≤ zT h := by
  refine ⟨fun L e => ?_, fun q L e e2 => ?_⟩
  · have w := H.2.1.2.2.1
    subst e
    obtain ⟨En, W, -⟩ := w
    exact t.ll W.1.1.1
  · subst e
    have w := H.2.2.2.2.1.2.2.2.1
    rw [e2] at w
    obtain ⟨En, W, -⟩ := w
    exact t.ll W.1.1.1
theorem lr_o : ∀ n i, (i < 381 ∨ 381 + n ≤ i) → lrS P T n i = P i
  | 0, _, _ => rfl
  | n + 1, i, hi => (up_n (by omega)).trans (lr_o n i (by omega))
theorem lr_i : ∀ n j, j < n → lrS P T n (381 + j) = T j
  | 0, j, h => by omega
  | n + 1, j, h => by
    rw [lr_u]
    by_cases e : j = n
    · rw [e, up_a]
    · rw [up_n (by omega)]
      exact lr_i n j (by omega)
theorem la_o {n i : Nat} (ht : tl ≤ 400) (h1 : i ≠ 1) (h2 : i ≠ 2) (hi : i < 381 ∨ 781 ≤ i) : (laS S T tl n).1 i = S.1 i := (lr_o _ _ (by omega)).trans ((up_n (by omega)).trans (up_n (by omega)))
theorem la_1 {n : Nat} : (laS S T tl n).1 1 = nI n := (lr_o _ _ (by omega)).trans ((up_n (by decide)).trans up_a)
theorem la_2 {n : Nat} : (laS S T tl n).1 2 = nI tl := (lr_o _ _ (by omega)).trans up_a
theorem Ok_la {n : Nat} (ht : tl ≤ 400) (H : Ok S) : Ok (laS S T tl n) := by
  obtain ⟨⟨h3, h4, h5, l6, l7, l8⟩, hD, hE, hP, hI, hS⟩ := H
  have o : ∀ i, i ≠ 1 → i ≠ 2 → i < 381 → (laS S T tl n).1 i = S.1 i := fun i a b c => la_o ht a b (Or.inl c)
  show Ok ((laS S T tl n).1, S.2)
  generalize (laS S T tl n).1 = Q at *
  exact ⟨⟨(o 3 (by decide) (by decide) (by decide)).trans h3, (o 4 (by decide) (by decide) (by decide)).trans h4, (o 5 (by decide) (by decide) (by decide)).trans h5, l6, l7, l8⟩, OkD_cg hD (fun i c (hi : i < S.2.2.2) hc => o _ (by omega) (by omega) (by omega)) (Nat.le_refl _) (Nat.le_refl _), OkE_cg hE (fun i c (hi : i < S.2.2.2) hc => o _ (by omega) (by omega) (by omega)), OkP_cg hP (fun i c (hi : i < S.2.1) hc => o _ (by omega) (by omega) (by omega)), OkI_cg hI (fun i c (hi : i < S.2.2.1) hc => o _ (by omega) (by omega) (by omega)) (fun k hk => o _ (by omega) (by omega) (by omega)), OkS_cg hS (o 0 (by decide) (by decide) (by decide)) (o 6 (by decide) (by decide) (by decide)) (o 7 (by decide) (by decide) (by decide)) (o 8 (by decide) (by decide) (by decide)) (o 9 (by decide) (by decide) (by decide))⟩
theorem OkL_la (ht : tl ≤ 400) (e : lwT T tl = .inr l2) : OkL (laS S T tl l2.length).1 l2 := by
  refine Or.inr ⟨tl, ht, la_1, la_2, ?_⟩
  rw [← e]
  exact cg_lwT (fun k hk => lr_i tl k hk)
theorem O_law (ht : tl ≤ 400) (ok : OkA S ls K A) : OV (laQ S ls Lo K A tl T L) := by
  unfold laQ
  cases e : lwT T tl with
  | inl x => exact ok
  | inr l2 => exact ⟨⟨Ok_la ht ok.1.1, OkL_la ht e, fun i hi => (la_o ht (by omega) (by omega) (Or.inr hi)).trans (ok.1.2.2 i hi)⟩, ok.2.1, fun S' q => by cases q⟩
end
