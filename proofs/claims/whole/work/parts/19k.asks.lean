/-! WHAT A DEED RIPENS BY AND COSTS, in both -/
def seaN (P : Row) : Nat := cN (P 6) % 4
def fac (P : Row) (k : Nat) : Nat → Int32
  | 0 => nI k
  | 1 => P (45 + 12 * k + 0)
  | 2 => P (45 + 12 * k + 3)
  | 3 => P (45 + 12 * k + 8)
  | 4 => nI (seaN P)
  | 5 => P (11 + seaN P)
  | 6 => P 7
  | 7 => if P (45 + 12 * k + 5) = -1 then nI 0 else nI 1
  | _ => if P (45 + 12 * k + 6) = -1 then nI 0 else nI 1
def lTx (P : Row) : Row := fun i => P (381 + i)
/-- the law's text of a row is right -/
def OkL (P : Row) (ls : List LN) : Prop := (P 1 = -1 ∧ ls = []) ∨ ∃ E, E ≤ 400 ∧ P 1 = nI ls.length ∧ P 2 = nI E ∧ lwT (lTx P) E = .inr ls
theorem OkL.ok {P : Row} {ls : List LN} (H : OkL P ls) : ls.length ≤ 12 ∧ ∀ l, l ∈ ls → okL l := by
  rcases H with ⟨-, rfl⟩ | ⟨E, -, -, -, h⟩
  · exact ⟨by simp, fun l hl => by cases hl⟩
  · exact lwT_ok h
def soS (P : Row) (k : Nat) : Int32 := P (27 + 3 * cN (P (45 + 12 * k + 0)) + 2) * P (11 + seaN P) / nI 10
def ripX (P : Row) (ls : List LN) (k : Nat) : Int32 := rpS (fac P k) ls (nI 1 + soS P k)
def ripS (P : Row) (ls : List LN) (k : Nat) : Int32 := if ripX P ls k < nI 0 then nI 0 else ripX P ls k
def cosS (P : Row) (ls : List LN) (k : Nat) : Int32 := cpS (fac P k) ls (P 7)
section
variable {z : ZE} {d : Nat} {h h' g : Hp} {p R k L E : Nat} {P : Row} {np ni nd : Nat} {ls : List LN} {Lo : Option Nat}
theorem sea_e (hS : OkS P) : P 6 - P 6 / nI 4 * nI 4 = nI (seaN P) ∧ seaN P < 4 := by
  obtain ⟨t, ht, e⟩ := hS.1
  unfold seaN
  rw [e, cN_nI (by omega), rem4 (by omega)]
  exact ⟨rfl, Nat.mod_lt _ (by decide)⟩
theorem ink_e (hD : OkD P np ni nd) (hk : k < nd) (h6 : ni ≤ 6) : P (45 + 12 * k + 0) = nI (cN (P (45 + 12 * k + 0))) ∧ cN (P (45 + 12 * k + 0)) < ni := by
  obtain ⟨i, hi, e⟩ := (hD k hk).1
  rw [e, cN_nI (by omega)]
  exact ⟨rfl, hi⟩
theorem nth9 {F : Nat → Int32} {t : Nat} (hK : zK h t = 20) (hN : zN h t = 9) (e0 : zI h t 0 = F 0) (e1 : zI h t 1 = F 1) (e2 : zI h t 2 = F 2) (e3 : zI h t 3 = F 3) (e4 : zI h t 4 = F 4) (e5 : zI h t 5 = F 5) (e6 : zI h t 6 = F 6) (e7 : zI h t 7 = F 7) (e8 : zI h t 8 = F 8) : FT h t F := by
  refine ⟨hK, hN, fun k hk => ?_⟩
  match k, hk with
  | 0, _ => exact e0
  | 1, _ => exact e1
  | 2, _ => exact e2
  | 3, _ => exact e3
  | 4, _ => exact e4
  | 5, _ => exact e5
  | 6, _ => exact e6
  | 7, _ => exact e7
  | 8, _ => exact e8
theorem ite_w {c : Prop} [Decidable c] {a j : Nat} {u v : Int32} {f : Hp → Option (zO × Hp)} : (if c then f (zwI h a j u) else f (zwI h a j v)) = f (zwI h a j (if c then u else v)) := by split <;> rfl
theorem T_Port_lookAt (hP : PSk h p) (H : PRp h p P np ni nd) (hS : OkS P) (hk : k < nd) : ∃ h', ev z d 60 0 [.ref p, .int (nI k), zu, zu] [] h = some (.inl none, h') ∧ Fr (fun x => x = p + 7) h h' ∧ FT h' (p + 7) (fac P k) := by
  have h8 := H.ld
  have k8 : k < 8 := by omega
  obtain ⟨s1, s2⟩ := sea_e hS
  have o := fun c (hc : c < 12) => H.deed hk hc
  have w : ∀ (g : Hp) (j : Nat) (v : Int32), PSk g p → PSk (zwI g (p + 7) j v) p := fun g j v q => q
  rw [S_Port_lookAt_0 hP, ix_n k8 (by decide), H.time, s1, S_Port_lookAt_21 (w _ _ _ hP) k8, zI_wb (by omega), o 0 (by decide), S_Port_lookAt_31 (w _ _ _ (w _ _ _ hP)) k8]
  rw [zI_wb (by omega), zI_wb (by omega), o 3 (by decide), S_Port_lookAt_41 (w _ _ _ (w _ _ _ (w _ _ _ hP))) k8, zI_wb (by omega), zI_wb (by omega), zI_wb (by omega), o 8 (by decide), S_Port_lookAt_51 (w _ _ _ (w _ _ _ (w _ _ _ (w _ _ _ hP)))), S_Port_lookAt_58 (w _ _ _ (w _ _ _ (w _ _ _ (w _ _ _ (w _ _ _ hP))))), ix_n s2 (by decide)]
  rw [zI_wb (by omega), zI_wb (by omega), zI_wb (by omega), zI_wb (by omega), zI_wb (by omega), H.damp s2, S_Port_lookAt_70 (w _ _ _ (w _ _ _ (w _ _ _ (w _ _ _ (w _ _ _ (w _ _ _ hP)))))), zI_wb (by omega), zI_wb (by omega), zI_wb (by omega), zI_wb (by omega), zI_wb (by omega), zI_wb (by omega), H.salt]
  rw [S_Port_lookAt_81 (w _ _ _ (w _ _ _ (w _ _ _ (w _ _ _ (w _ _ _ (w _ _ _ (w _ _ _ hP))))))) k8, zI_wb (by omega), zI_wb (by omega), zI_wb (by omega), zI_wb (by omega), zI_wb (by omega), zI_wb (by omega), zI_wb (by omega), o 5 (by decide)]
  rw [ite_w (f := fun g => ev z d 60 101 [.ref p, .int (nI k), .ref (p + 20 + k), .int (nI (seaN P))] [] g), S_Port_lookAt_101 (w _ _ _ (w _ _ _ (w _ _ _ (w _ _ _ (w _ _ _ (w _ _ _ (w _ _ _ (w _ _ _ hP)))))))) k8, zI_wb (by omega), zI_wb (by omega), zI_wb (by omega), zI_wb (by omega), zI_wb (by omega), zI_wb (by omega), zI_wb (by omega), zI_wb (by omega), o 6 (by decide)]
  rw [ite_w (f := fun g => ev z d 60 121 [.ref p, .int (nI k), .ref (p + 20 + k), .int (nI (seaN P))] [] g), S_Port_lookAt_121]
  refine ⟨_, rfl, ?_, nth9 (PSk_i7 hP) (PSk_in7 hP) ?_ ?_ ?_ ?_ ?_ ?_ ?_ ?_ ?_⟩
  · exact Fr.a (Fr.a (Fr.a (Fr.a (Fr.a (Fr.a (Fr.a (Fr.a (Fr.w rfl) rfl) rfl) rfl) rfl) rfl) rfl) rfl) rfl
  all_goals simp only [zI_w]
  all_goals rfl
/-- the law of a port, and where it lies -/
def LwP (h : Hp) (Lo : Option Nat) (P : Row) (ls : List LN) : Prop := match Lo with
  | none => P 1 = -1 ∧ ls = []
  | some L => ∃ E, LawAt h L E ls ∧ P 1 = nI ls.length
def L4 (Lo : Option Nat) : Nat → Prop := fun x => ∃ L, Lo = some L ∧ x = L + 4
/-- what asking changes in the class -/
def Az (p : Nat) (Lo : Option Nat) : Nat → Prop := fun x => x = p + 7 ∨ L4 Lo x
theorem LwP.ok (H : LwP h Lo P ls) : ls.length ≤ 12 ∧ ∀ l, l ∈ ls → okL l := by
  cases Lo with
  | none => obtain ⟨-, rfl⟩ := H; exact ⟨by simp, fun l hl => by cases hl⟩
  | some L => obtain ⟨E, H, -⟩ := H; exact ⟨H.2.2.1, H.2.2.2.1⟩
theorem soaks_e (H : PRp h p P np ni nd) (hP : PSk h p) (hD : OkD P np ni nd) (hS : OkS P) (hk : k < nd) : zbd (ev z d 8 0 [.ref (p + 14 + cN (P (45 + 12 * k + 0))), .int (P (11 + seaN P))] [] h) (fun v h' => ev z d 58 29 [.ref p, .int (nI k), zu] (v.toList ++ [.int (nI 1)]) h') (fun e h' => evx z d 58 26 [.ref p, .int (nI k), zu] e h') = ev z d 58 29 [.ref p, .int (nI k), zu] [.int (soS P k), .int (nI 1)] h := by
  have h6 := H.li
  obtain ⟨i1, i2⟩ := ink_e hD hk h6
  rw [S_Ink_soaksUp_0 (PSk_o2 hP (by omega)), H.ink i2 (by decide)]
  rfl
theorem T_Port_ripensBy (hP : PSk h p) (H : PRp h p P np ni nd) (hD : OkD P np ni nd) (hS : OkS P) (hk : k < nd) (hLo : zR h p 12 = Lo) (W : LwP h Lo P ls) (hpl : ∀ L, Lo = some L → p + 28 ≤ L ∨ L + 5 < p) : ∃ h', ev z d 58 0 [.ref p, .int (nI k), zu] [] h = some (.inl (some (.int (ripS P ls k))), h') ∧ Fr (Az p Lo) h h' := by
  have h8 := H.ld
  have h6 := H.li
  obtain ⟨i1, i2⟩ := ink_e hD hk h6
  obtain ⟨s1, s2⟩ := sea_e hS
  have ok := W.ok
  have h0 : ev z d 58 0 [.ref p, .int (nI k), zu] [] h = ev z d 58 29 [.ref p, .int (nI k), zu] [.int (soS P k), .int (nI 1)] h := by
    rw [S_Port_ripensByn_0 hP, ix_n (by omega) (by decide), H.deed hk (by decide), i1, ix_n (by omega) (by decide), H.time, s1, ix_n s2 (by decide), H.damp s2]
    exact soaks_e H hP hD hS hk
  rw [h0]
  unfold ripS ripX
  cases Lo with
  | none =>
    obtain ⟨-, rfl⟩ := W
    rw [S_Port_ripensByn_29 hP hLo]
    exact ⟨h, rfl, Fr.rf⟩
  | some L =>
    obtain ⟨E, W, -⟩ := W
    have hL := hpl L rfl
    obtain ⟨h1, e1, f1, F1⟩ := T_Port_lookAt (z := z) (d := d) hP H hS hk
    have P1 : PSk h1 p := PSk_fr f1 hP
    have r1 : zR h1 p 12 = some L := by rw [f1.rx (by omega)]; exact hLo
    have W1 : LawAt h1 L E ls := W.fr f1 (fun x q => by omega)
    obtain ⟨h2, f2, e2⟩ := T_total (z := z) (d := d) (k := nI 0) W1 F1 (by omega)
    have P2 : PSk h2 p := PSk_fr f2 P1
    have r2 : zR h2 p 12 = some L := by rw [f2.rx (by omega)]; exact r1
    have W2 : LawAt h2 L E ls := W1.fr f2 (fun x q => by omega)
    obtain ⟨h3, f3, e3⟩ := T_total (z := z) (d := d) (k := nI 1) W2 (FT_fr f2 (by omega) F1) (by omega)
    rw [S_Port_ripensBys_29 hP hLo, e1]
    simp only [zbd_i, tl_n]
    rw [S_Port_ripensBys_43 P1 W1.1.1.1 r1, e2]
    simp only [zbd_i, tl_s]
    rw [S_Port_ripensBys_56 P2 W2.1.1.1 r2, e3]
    simp only [zbd_i, tl_s]
    rw [S_Port_ripensBys_68 zisL_i, rp_0 ok.2]
    refine ⟨h3, rfl, (f1.mo (fun x q => Or.inl q)).tr ((f2.mo (fun x q => Or.inr ⟨L, rfl, q⟩)).tr (f3.mo (fun x q => Or.inr ⟨L, rfl, q⟩)))⟩
theorem T_Port_costsOf (hP : PSk h p) (H : PRp h p P np ni nd) (hS : OkS P) (hk : k < nd) (hLo : zR h p 12 = Lo) (W : LwP h Lo P ls) (hpl : ∀ L, Lo = some L → p + 28 ≤ L ∨ L + 5 < p) : ∃ h', ev z d 59 0 [.ref p, .int (nI k), zu] [] h = some (.inl (some (.int (cosS P ls k))), h') ∧ Fr (Az p Lo) h h' := by
  have ok := W.ok
  unfold cosS
  cases Lo with
  | none =>
    obtain ⟨-, rfl⟩ := W
    rw [S_Port_costsOfn_0 hP hLo, H.salt]
    exact ⟨h, rfl, Fr.rf⟩
  | some L =>
    obtain ⟨E, W, -⟩ := W
    have hL := hpl L rfl
    obtain ⟨h1, e1, f1, F1⟩ := T_Port_lookAt (z := z) (d := d) hP H hS hk
    have P1 : PSk h1 p := PSk_fr f1 hP
    have r1 : zR h1 p 12 = some L := by rw [f1.rx (by omega)]; exact hLo
    have W1 : LawAt h1 L E ls := W.fr f1 (fun x q => by omega)
    obtain ⟨h2, f2, e2⟩ := T_total (z := z) (d := d) (k := nI 2) W1 F1 (by omega)
    rw [S_Port_costsOfs_0 hP hLo, e1, H.salt]
    simp only [zbd_i, tl_n]
    rw [S_Port_costsOfs_17 P1 W1.1.1.1 r1, e2]
    simp only [zbd_i, tl_s]
    rw [S_Port_costsOfs_30 zisL_i, cp_0 ok.2]
    refine ⟨h2, rfl, (f1.mo (fun x q => Or.inl q)).tr (f2.mo (fun x q => Or.inr ⟨L, rfl, q⟩))⟩
end
