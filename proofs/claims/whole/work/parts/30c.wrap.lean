/-! THE SIMPLEST CALLS in the one form -/
/-- the reference's answer, when nothing is asked about exceptions -/
def RE (z : ZE) (d : Nat) (h : Hp) (R m : Nat) (as : List Value) (v : Option Value) (q : Stt) : Prop := ∃ h', ev z d m 0 as [] h = some (.inl v, h') ∧ Fr (Rz R) h h' ∧ RV h' R q
def CE (z : ZE) (d : Nat) (h : Hp) (X : Nat) (Lo : Option Nat) (m : Nat) (as : List Value) (v : Option Value) (q : Stt) : Prop := ∃ h', ev z d m 0 as [] h = some (.inl v, h') ∧ Mv (Xz X Lo) 10 1000 h h' ∧ CV z h' X q
def fdQ (S : PSt) (ls : List LN) (Lo : Option Nat) (K : Option Img) (A : List PSt) (tl : Nat) (T : Row) (ft v1 v2 v3 v4 v5 : Int32) : Stt := if tl + 20 ≤ 400 then ((S, ls, Lo), K, A, tl + 20, fdT T tl v1 v2 v3 v4 v5, ft) else ((S, ls, Lo), K, A, tl, T, ft)
def fdV (tl : Nat) : Int32 := if tl + 20 ≤ 400 then nI (tl + 20) else -1
def enQ (S : PSt) (ls : List LN) (Lo : Option Nat) (K : Option Img) (A : List PSt) (tl : Nat) (T : Row) (ft v : Int32) : Stt := ((S, ls, Lo), K, A, if enS tl v = true then cN v else tl, T, ft)
def unQ (S : PSt) (ls : List LN) (Lo : Option Nat) (K : Option Img) (A : List PSt) (tl : Nat) (T : Row) (ft : Int32) : Stt := match A with
  | [] => ((S, ls, Lo), K, [], tl, T, ft)
  | S1 :: A => ((S1, ls, Lo), K, A, tl, T, ft)
def bkQ (S : PSt) (ls : List LN) (Lo : Option Nat) (K : Option Img) (A : List PSt) (tl : Nat) (T : Row) (ft : Int32) : Stt := match K with
  | none => ((S, ls, Lo), none, A, tl, T, ft)
  | some q => (q, some q, [], tl, T, ft)
section
variable {z : ZE} {d : Nat} {h h' : Hp} {X R m : Nat} {S S1 : PSt} {K : Option Img} {A : List PSt} {tl : Nat} {T : Row} {ft : Int32} {ls : List LN} {Lo : Option Nat} {as : List Value} {v : Option Value} {q : Stt} {v1 v2 v3 v4 v5 w : Int32}
theorem CE.of (C : CA z d h X Lo m as [] 0 w q) : CE z d h X Lo m as (some (.int w)) q := C
theorem RE.of (C : RB z d h R m as 0 w q) : RE z d h R m as (some (.int w)) q := by
  obtain ⟨h', b, e, f, -, eb, C⟩ := C
  exact ⟨h', by rw [e, eb rfl], f, C⟩
theorem CE.fr (e : ev z d m 0 as [] h = some (.inl v, h')) (f : Fr (fun x => X ≤ x ∧ x < X + 433) h h') (C : CV z h' X q) : CE z d h X Lo m as v q := ⟨h', e, (Mv.fr f).mo (fun x q => Or.inl q) (by decide) (by decide), C⟩
theorem CE_feed (H : CI z h X S ls Lo K A tl T ft) : CE z d h X Lo 101 [.ref X, .int v1, .int v2, .int v3, .int v4, .int v5] (some (.int (fdV tl))) (fdQ S ls Lo K A tl T ft v1 v2 v3 v4 v5) := by
  unfold fdV fdQ
  by_cases c : tl + 20 ≤ 400
  · rw [if_pos c, if_pos c]
    obtain ⟨h', e, f, C⟩ := C_feed (z := z) (d := d) (v1 := v1) (v2 := v2) (v3 := v3) (v4 := v4) (v5 := v5) H c
    exact CE.fr e f C
  · rw [if_neg c, if_neg c]
    exact CE.fr (C_feed0 H c) Fr.rf H
theorem RE_feed (H : RI h R S K A tl T ft) : RE z d h R 190 [.ref R, .int v1, .int v2, .int v3, .int v4, .int v5, zu, zu] (some (.int (fdV tl))) (fdQ S ls Lo K A tl T ft v1 v2 v3 v4 v5) := by
  unfold fdV fdQ
  by_cases c : tl + 20 ≤ 400
  · rw [if_pos c, if_pos c]
    obtain ⟨h', e, f, C⟩ := R_feed (z := z) (d := d) (v1 := v1) (v2 := v2) (v3 := v3) (v4 := v4) (v5 := v5) H c
    exact ⟨h', e, f, C⟩
  · rw [if_neg c, if_neg c]
    have := R_feed0 (z := z) (d := d) (v1 := v1) (v2 := v2) (v3 := v3) (v4 := v4) (v5 := v5) H c
    exact ⟨_, this.1, Fr.w ⟨by omega, by omega⟩, this.2⟩
theorem CE_end (H : CI z h X S ls Lo K A tl T ft) : CE z d h X Lo 102 [.ref X, .int w] (some (.int (bI (enS tl w = true)))) (enQ S ls Lo K A tl T ft w) := by
  have e := C_end (z := z) (d := d) (v := w) H
  unfold enQ
  by_cases c : enS tl w = true
  · rw [if_pos c] at e
    obtain ⟨m, hm, rfl⟩ := enS_n c H.2.2.1.2.1
    have t4 := H.2.2.1.2.1
    rw [if_pos c, bI_t c, cN_nI (by omega)]
    exact CE.fr e (Fr.w ⟨by omega, by omega⟩) (H.cut hm)
  · rw [if_neg c] at e
    rw [if_neg c, bI_f c]
    exact CE.fr e Fr.rf H
theorem RE_end (H : RI h R S K A tl T ft) : RE z d h R 191 [.ref R, .int w] (some (.int (bI (enS tl w = true)))) (enQ S ls Lo K A tl T ft w) := by
  have e := R_end (z := z) (d := d) (v := w) H
  unfold enQ
  by_cases c : enS tl w = true
  · rw [if_pos c] at e
    obtain ⟨m, hm, rfl⟩ := enS_n c H.2.1.2.1
    have t4 := H.2.1.2.1
    rw [if_pos c, bI_t c, cN_nI (by omega)]
    exact ⟨_, e, FZ0.a ⟨by omega, by omega⟩, (H.w0 (v := nI 0)).cut hm⟩
  · rw [if_neg c] at e
    rw [if_neg c, bI_f c]
    exact ⟨_, e, FZ0, H.w0 (v := nI 0)⟩
theorem CE_fault (H : CI z h X S ls Lo K A tl T ft) : CE z d h X Lo 105 [.ref X] (some (.int ft)) ((S, ls, Lo), K, A, tl, T, ft) := CE.fr (C_fault H) Fr.rf H
theorem RE_fault (H : RI h R S K A tl T ft) : RE z d h R 222 [.ref R] (some (.int ft)) ((S, ls, Lo), K, A, tl, T, ft) := ⟨_, (R_fault H).1, FZ0, (R_fault (z := z) (d := d) H).2⟩
theorem CE_image (H : CI z h X S ls Lo K A tl T ft) (ok : Ok S) : CE z d h X Lo 152 [.ref X] none ((S, ls, Lo), some (S, ls, Lo), A, tl, T, ft) := by
  obtain ⟨h', e, f, C⟩ := C_image (z := z) (d := d) H ok
  exact CE.fr e f C
theorem RE_image (H : RI h R S K A tl T ft) : RE z d h R 302 [.ref R, zu] none ((S, ls, Lo), some (S, ls, Lo), A, tl, T, ft) := by
  obtain ⟨h', e, f, C⟩ := R_image (z := z) (d := d) (ls := ls) (Lo := Lo) H
  exact ⟨h', e, f, C⟩
theorem CE_back (H : CI z h X S ls Lo K A tl T ft) (ok : OkA S ls K A) : CE z d h X Lo 153 [.ref X] (some (.int (bI (K ≠ none)))) (bkQ S ls Lo K A tl T ft) := by
  cases K with
  | none =>
    rw [bI_f (fun q => q rfl)]
    exact CE.fr (C_back0 H) Fr.rf H
  | some q =>
    obtain ⟨h', e, f, C⟩ := C_back (z := z) (d := d) H (ok.2.1 q rfl).1
    rw [bI_t (fun q => by cases q)]
    exact CE.fr e f C
theorem RE_back (H : RI h R S K A tl T ft) (ok : OkA S ls K A) : RE z d h R 303 [.ref R, zu] (some (.int (bI (K ≠ none)))) (bkQ S ls Lo K A tl T ft) := by
  cases K with
  | none =>
    rw [bI_f (fun q => q rfl)]
    have := R_back0 (z := z) (d := d) H
    exact ⟨_, this.1, FZ0, this.2⟩
  | some q =>
    obtain ⟨h', e, f, C⟩ := R_back (z := z) (d := d) H ok
    rw [bI_t (fun q => by cases q)]
    exact ⟨h', e, f, C⟩
theorem CE_undo (H : CI z h X S ls Lo K A tl T ft) (ok : OkA S ls K A) : CE z d h X Lo 151 [.ref X] (some (.int (bI (A ≠ [])))) (unQ S ls Lo K A tl T ft) := by
  cases A with
  | nil =>
    rw [bI_f (fun q => q rfl)]
    exact CE.fr (C_undo0 H) Fr.rf H
  | cons S1 A =>
    obtain ⟨h', e, f, C⟩ := C_undo (z := z) (d := d) H ok
    rw [bI_t (fun q => by cases q)]
    exact CE.fr e f C
theorem RE_undo (H : RI h R S K A tl T ft) (ok : OkA S ls K A) : RE z d h R 301 [.ref R, zu] (some (.int (bI (A ≠ [])))) (unQ S ls Lo K A tl T ft) := by
  cases A with
  | nil =>
    rw [bI_f (fun q => q rfl)]
    have := R_undo0 (z := z) (d := d) H
    exact ⟨_, this.1, FZ0, this.2⟩
  | cons S1 A =>
    obtain ⟨h', e, f, C⟩ := R_undo (z := z) (d := d) H ok
    rw [bI_t (fun q => by cases q)]
    exact ⟨h', e, f, C⟩
end
