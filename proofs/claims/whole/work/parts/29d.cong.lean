/-! A LAW'S TEXT read from bytes that agree -/
section
variable {T U : Row} {E s j : Nat} {p : Int32 → Bool}
theorem cg_rnF (e : ∀ k, k < E → T k = U k) : ∀ f s, rnF p T E f s = rnF p U E f s
  | 0, _ => rfl
  | f + 1, s => by
    unfold rnF
    by_cases c : s < E
    · rw [e s c, cg_rnF e f]
    · rw [if_neg (fun q => c q.1), if_neg (fun q => c q.1)]
theorem cg_rn (e : ∀ k, k < E → T k = U k) : rn p T E s = rn p U E s := cg_rnF e _ _
theorem cg_tkK (e : ∀ k, k < E → T k = U k) : tkK T E = tkK U E := by
  funext s
  unfold tkK
  by_cases c : s < E
  · rw [if_pos c, if_pos c, e s c]
  · rw [if_neg c, if_neg c]
theorem cg_tkN (e : ∀ k, k < E → T k = U k) : tkN T E s = tkN U E s := by
  unfold tkN
  by_cases c : s < E
  · rw [if_pos c, if_pos c, e s c, cg_rn e, cg_rn e]
  · rw [if_neg c, if_neg c]
theorem cg_vl (e : ∀ k, k < E → T k = U k) : ∀ j, s + j ≤ E → vl T s j = vl U s j
  | 0, _ => rfl
  | j + 1, h => by
    unfold vl
    rw [cg_vl e j (by omega), e (s + j) (by omega)]
theorem cg_tkV (e : ∀ k, k < E → T k = U k) : tkV T E = tkV U E := by
  funext s
  unfold tkV
  by_cases c : s < E
  · have l : rn cD U E s ≤ E := rn_le (by omega)
    rw [if_pos c, if_pos c, e s c, cg_rn e]
    unfold vv
    rw [cg_vl e _ (by omega)]
  · rw [if_neg c, if_neg c]
theorem cg_adv (e : ∀ k, k < E → T k = U k) : adv T E = adv U E := by
  funext s
  unfold adv
  rw [cg_tkN e, cg_rn e]
theorem cg_eqF (e : ∀ k, k < E → T k = U k) {tx : List Nat} : ∀ n j, s + j + n ≤ E → eqF T s tx n j = eqF U s tx n j
  | 0, _, _ => rfl
  | n + 1, j, h => by
    unfold eqF
    rw [e (s + j) (by omega), cg_eqF e n (j + 1) (by omega)]
theorem cg_isW (e : ∀ k, k < E → T k = U k) : isW T E = isW U E := by
  funext s tx
  unfold isW
  by_cases c : s < E
  · rw [e s c, cg_rn e]
    by_cases c2 : s < E ∧ cL (U s) = true ∧ rn cL U E s = s + tx.length
    · have l : rn cL U E s ≤ E := rn_le (by omega)
      rw [cg_eqF e _ _ (by omega)]
    · rw [decide_eq_false c2, Bool.false_and, Bool.false_and]
  · rw [decide_eq_false (fun q => c q.1), decide_eq_false (fun q => c q.1), Bool.false_and, Bool.false_and]
theorem cg_isS (e : ∀ k, k < E → T k = U k) : isS T E = isS U E := by
  funext s c
  unfold isS
  rw [cg_tkK e]
  by_cases q : s < E
  · rw [e s q]
  · have : ¬ tkK U E s = nI 3 := by
      unfold tkK
      rw [if_neg q]
      decide
    rw [decide_eq_false (fun x => this x.1), decide_eq_false (fun x => this x.1)]
theorem cg_pN (e : ∀ k, k < E → T k = U k) : pN T E = pN U E := by
  funext lo hi s
  unfold pN isN
  rw [cg_tkK e, cg_tkV e, cg_adv e]
theorem cg_fW (e : ∀ k, k < E → T k = U k) : fW T E = fW U E := by
  funext s
  unfold fW
  rw [cg_isW e]
theorem cg_pPt (e : ∀ k, k < E → T k = U k) : pPt T E = pPt U E := by
  funext s
  unfold pPt
  rw [cg_tkK e, cg_pN e, cg_fW e, cg_adv e]
theorem cg_sumL (e : ∀ k, k < E → T k = U k) : ∀ f, sumL T E f = sumL U E f
  | 0 => rfl
  | f + 1 => by
    funext s
    unfold sumL
    rw [cg_isS e, cg_pPt e, cg_adv e, cg_sumL e f]
theorem cg_pSm (e : ∀ k, k < E → T k = U k) : pSm T E = pSm U E := by
  funext s
  unfold pSm
  rw [cg_pPt e, cg_sumL e]
theorem cg_andL (e : ∀ k, k < E → T k = U k) {a : Nat → CR} : ∀ f, andL T E a f = andL U E a f
  | 0 => rfl
  | f + 1 => by
    funext s
    unfold andL
    rw [cg_isW e, cg_adv e, cg_andL e f]
theorem cg_evy (e : ∀ k, k < E → T k = U k) : evy T E = evy U E := by
  funext a s
  unfold evy
  rw [cg_andL e]
theorem cg_orL (e : ∀ k, k < E → T k = U k) {a : Nat → CR} : ∀ f, orL T E a f = orL U E a f
  | 0 => rfl
  | f + 1 => by
    funext s
    unfold orL
    rw [cg_isW e, cg_evy e, cg_adv e, cg_orL e f]
theorem cg_smy (e : ∀ k, k < E → T k = U k) : smy T E = smy U E := by
  funext a s
  unfold smy
  rw [cg_evy e, cg_orL e]
theorem cg_pln (e : ∀ k, k < E → T k = U k) : pln T E = pln U E := by
  funext s
  unfold pln
  rw [cg_isW e, cg_pSm e, cg_isS e, cg_adv e]
theorem cg_atm (e : ∀ k, k < E → T k = U k) : ∀ f, atm T E f = atm U E f
  | 0 => by
    funext s
    unfold atm
    rw [cg_isW e, cg_isS e, cg_pln e]
  | f + 1 => by
    funext s
    unfold atm
    rw [cg_isW e, cg_isS e, cg_pln e, cg_adv e, cg_smy e, cg_atm e f]
theorem cg_lwK (e : ∀ k, k < E → T k = U k) : lwK T E = lwK U E := by
  funext s
  unfold lwK
  rw [cg_isW e, cg_adv e]
theorem cg_lwL (e : ∀ k, k < E → T k = U k) : lwL T E = lwL U E := by
  funext s
  unfold lwL
  rw [cg_lwK e, cg_pN e, cg_isW e, cg_smy e, cg_atm e, cg_adv e]
theorem cg_lwR (e : ∀ k, k < E → T k = U k) : ∀ n, lwR T E n = lwR U E n
  | 0 => rfl
  | n + 1 => by
    funext s
    unfold lwR
    rw [cg_lwL e, cg_isS e, cg_adv e, cg_lwR e n]
theorem cg_lwT (e : ∀ k, k < E → T k = U k) : lwT T E = lwT U E := by
  unfold lwT
  rw [cg_rn e, cg_lwR e]
end
