/-! the law's long method: its instructions decoded along the list of its bytes -/
def zby (c : ByteArray) (p v : Nat) : Prop := ∃ h : p < c.size, (c[p]'h).toNat = v
theorem zby_of {c : ByteArray} {pc : Nat} {b : UInt8} {r : List UInt8} (h : c.data.toList.drop pc = b :: r) : zby c pc b.toNat ∧ c.data.toList.drop (pc + 1) = r := by
  have h1 : c.data.toList[pc]? = some b := by
    have := congrArg (fun l => l[0]?) h
    simpa [List.getElem?_drop] using this
  have h2 : c.data.toList.drop (pc + 1) = r := by
    have := congrArg (fun l => l.drop 1) h
    simpa [List.drop_drop] using this
  refine ⟨?_, h2⟩
  obtain ⟨hlt, he⟩ := List.getElem?_eq_some_iff.mp h1
  have hlt' : pc < c.size := hlt
  refine ⟨hlt', ?_⟩
  have : c[pc]'hlt' = b := by
    rw [← he]; rfl
  rw [this]
theorem zru1 {c : ByteArray} {p v : Nat} (h : zby c p v) : (Reader.u1 : Decoder Nat).runAt c p = .ok (v, p + 1) := by
  obtain ⟨h, rfl⟩ := h
  show (dite (p < c.size) (fun h => (do set (p + 1); Pure.pure (c[p]'h).toNat : Decoder Nat)) (fun _ => throw (HasTruncated.truncated p))) c p = _
  rw [dif_pos h]
  rfl
theorem zrd1 {α : Type} {c : ByteArray} {p v : Nat} {K : Nat → Decoder α} (h : zby c p v) : (Reader.u1 >>= K).runAt c p = (K v).runAt c (p + 1) := by
  obtain ⟨h, rfl⟩ := h
  have e : (Reader.u1 : Decoder Nat) c p = .ok ((c[p]'h).toNat, p + 1) := by
    show (dite (p < c.size) (fun h => (do set (p + 1); Pure.pure (c[p]'h).toNat : Decoder Nat)) (fun _ => throw (HasTruncated.truncated p))) c p = _
    rw [dif_pos h]
    rfl
  show ((Reader.u1 : Decoder Nat) c p >>= fun x => K x.1 c x.2) = _
  rw [e]
  rfl
theorem zdec0 {c : ByteArray} {pc v : Nat} {K : Nat → Decoder Instr} {I : Instr} (hi : Decoder.instr pc = Reader.u1 >>= K) (h : zby c pc v) (hk : K v = Pure.pure I) : decode c pc = .ok (I, 1) := by
  unfold decode
  rw [hi, zrd1 h, hk]
  show Except.ok (_, _) = _
  congr 2
  omega
theorem zdec1 {c : ByteArray} {pc v w : Nat} {K : Nat → Decoder Instr} {F : Nat → Instr} (hi : Decoder.instr pc = Reader.u1 >>= K) (h : zby c pc v) (hk : K v = Reader.u1 >>= fun x => Pure.pure (F x)) (h2 : zby c (pc + 1) w) : decode c pc = .ok (F w, 2) := by
  unfold decode
  rw [hi, zrd1 h, hk, zrd1 h2]
  show Except.ok (_, _) = _
  congr 2
  omega
theorem zrb {α β : Type} {c : ByteArray} {p p' : Nat} {v : β} {R : Decoder β} {K : β → Decoder α} (h : R.runAt c p = .ok (v, p')) : (R >>= K).runAt c p = (K v).runAt c p' := by
  show (R c p >>= fun x => K x.1 c x.2) = _
  rw [show R c p = .ok (v, p') from h]
  rfl
theorem zru2 {c : ByteArray} {p v w : Nat} (h : zby c p v) (h2 : zby c (p + 1) w) : (Reader.u2 : Decoder Nat).runAt c p = .ok (v * 256 + w, p + 1 + 1) := by
  show (Reader.u1 >>= fun hi => Reader.u1 >>= fun lo => (Pure.pure (hi * 256 + lo) : Decoder Nat)).runAt c p = _
  rw [zrd1 h, zrd1 h2]
  rfl
theorem zrs2 {c : ByteArray} {p v w : Nat} (h : zby c p v) (h2 : zby c (p + 1) w) : (Reader.s2 : Decoder Int).runAt c p = .ok (Reader.signed 16 (v * 256 + w), p + 1 + 1) := by
  show ((Reader.u2 : Decoder Nat) c p >>= fun (x : Nat × Nat) => Pure.pure (Reader.signed 16 x.1, x.2)) = _
  rw [show (Reader.u2 : Decoder Nat) c p = _ from zru2 h h2]
  rfl
theorem zrs1 {c : ByteArray} {p v : Nat} (h : zby c p v) : (Reader.s1 : Decoder Int).runAt c p = .ok (Reader.signed 8 v, p + 1) := by
  have e : (Reader.u1 : Decoder Nat).runAt c p = .ok (v, p + 1) := zru1 h
  show ((Reader.u1 : Decoder Nat) c p >>= fun (x : Nat × Nat) => Pure.pure (Reader.signed 8 x.1, x.2)) = _
  rw [show (Reader.u1 : Decoder Nat) c p = _ from e]
  rfl
theorem zdec2 {c : ByteArray} {pc v w x : Nat} {K : Nat → Decoder Instr} {F : Nat → Instr} (hi : Decoder.instr pc = Reader.u1 >>= K) (h : zby c pc v) (hk : K v = Reader.u2 >>= fun x => Pure.pure (F x)) (h2 : zby c (pc + 1) w) (h3 : zby c (pc + 1 + 1) x) : decode c pc = .ok (F (w * 256 + x), 3) := by
  unfold decode
  rw [hi, zrd1 h, hk, zrb (zru2 h2 h3)]
  show Except.ok (_, _) = _
  congr 2
  omega
theorem zdecs {c : ByteArray} {pc v w x : Nat} {K : Nat → Decoder Instr} {F : Int → Instr} (hi : Decoder.instr pc = Reader.u1 >>= K) (h : zby c pc v) (hk : K v = Reader.s2 >>= fun x => Pure.pure (F x)) (h2 : zby c (pc + 1) w) (h3 : zby c (pc + 1 + 1) x) : decode c pc = .ok (F (Reader.signed 16 (w * 256 + x)), 3) := by
  unfold decode
  rw [hi, zrd1 h, hk, zrb (zrs2 h2 h3)]
  show Except.ok (_, _) = _
  congr 2
  omega
theorem zdeci {c : ByteArray} {pc v w x : Nat} {K : Nat → Decoder Instr} (hi : Decoder.instr pc = Reader.u1 >>= K) (h : zby c pc v) (hk : K v = Reader.u1 >>= fun a => Reader.s1 >>= fun b => Pure.pure (Instr.iinc a b)) (h2 : zby c (pc + 1) w) (h3 : zby c (pc + 1 + 1) x) : decode c pc = .ok (.iinc w (Reader.signed 8 x), 3) := by
  unfold decode
  rw [hi, zrd1 h, hk, zrd1 h2, zrb (zrs1 h3)]
  show Except.ok (_, _) = _
  congr 2
  omega
def zdm (l : List UInt8) : Option (Instr × Nat) := match l with
  | [] => none
  | b :: r => match b.toNat with
    | 3 => some (.iconst 0, 1)
    | 4 => some (.iconst 1, 1)
    | 5 => some (.iconst 2, 1)
    | 6 => some (.iconst 3, 1)
    | 7 => some (.iconst 4, 1)
    | 8 => some (.iconst 5, 1)
    | 9 => some (.lconst 0, 1)
    | 10 => some (.lconst 1, 1)
    | 42 => some (.aload_n 0, 1)
    | 43 => some (.aload_n 1, 1)
    | 44 => some (.aload_n 2, 1)
    | 45 => some (.aload_n 3, 1)
    | 46 => some (.iaload, 1)
    | 47 => some (.laload, 1)
    | 89 => some (.dup, 1)
    | 96 => some (.iadd, 1)
    | 100 => some (.isub, 1)
    | 126 => some (.iand, 1)
    | 133 => some (.i2l, 1)
    | 148 => some (.lcmp, 1)
    | 172 => some (.ireturn, 1)
    | 21 => (match r with
      | x :: _ => some (.iload x.toNat, 2)
      | [] => none)
    | 54 => (match r with
      | x :: _ => some (.istore x.toNat, 2)
      | [] => none)
    | 153 => (match r with
      | x :: y :: _ => some (.ifCond .eq (Reader.signed 16 (x.toNat * 256 + y.toNat)), 3)
      | _ => none)
    | 154 => (match r with
      | x :: y :: _ => some (.ifCond .ne (Reader.signed 16 (x.toNat * 256 + y.toNat)), 3)
      | _ => none)
    | 159 => (match r with
      | x :: y :: _ => some (.if_icmp .eq (Reader.signed 16 (x.toNat * 256 + y.toNat)), 3)
      | _ => none)
    | 160 => (match r with
      | x :: y :: _ => some (.if_icmp .ne (Reader.signed 16 (x.toNat * 256 + y.toNat)), 3)
      | _ => none)
    | 167 => (match r with
      | x :: y :: _ => some (.goto (Reader.signed 16 (x.toNat * 256 + y.toNat)), 3)
      | _ => none)
    | 182 => (match r with
      | x :: y :: _ => some (.invokevirtual (x.toNat * 256 + y.toNat), 3)
      | _ => none)
    | 183 => (match r with
      | x :: y :: _ => some (.invokespecial (x.toNat * 256 + y.toNat), 3)
      | _ => none)
    | 184 => (match r with
      | x :: y :: _ => some (.invokestatic (x.toNat * 256 + y.toNat), 3)
      | _ => none)
    | 187 => (match r with
      | x :: y :: _ => some (.new (x.toNat * 256 + y.toNat), 3)
      | _ => none)
    | 132 => (match r with
      | x :: y :: _ => some (.iinc x.toNat (Reader.signed 8 y.toNat), 3)
      | _ => none)
    | _ => none
set_option maxRecDepth 100000 in
set_option maxHeartbeats 4000000 in
theorem zdm_ok {c : ByteArray} {pc : Nat} {l : List UInt8} {r : Instr × Nat} (hl : c.data.toList.drop pc = l) (h : zdm l = some r) : decode c pc = .ok r := by
  cases l with
  | nil => cases h
  | cons b t =>
    obtain ⟨h0, ht⟩ := zby_of hl
    unfold zdm at h
    dsimp only at h
    split at h
    · rename_i e; rw [e] at h0; cases h; exact zdec0 rfl h0 rfl
    · rename_i e; rw [e] at h0; cases h; exact zdec0 rfl h0 rfl
    · rename_i e; rw [e] at h0; cases h; exact zdec0 rfl h0 rfl
    · rename_i e; rw [e] at h0; cases h; exact zdec0 rfl h0 rfl
    · rename_i e; rw [e] at h0; cases h; exact zdec0 rfl h0 rfl
    · rename_i e; rw [e] at h0; cases h; exact zdec0 rfl h0 rfl
    · rename_i e; rw [e] at h0; cases h; exact zdec0 rfl h0 rfl
    · rename_i e; rw [e] at h0; cases h; exact zdec0 rfl h0 rfl
    · rename_i e; rw [e] at h0; cases h; exact zdec0 rfl h0 rfl
    · rename_i e; rw [e] at h0; cases h; exact zdec0 rfl h0 rfl
    · rename_i e; rw [e] at h0; cases h; exact zdec0 rfl h0 rfl
    · rename_i e; rw [e] at h0; cases h; exact zdec0 rfl h0 rfl
    · rename_i e; rw [e] at h0; cases h; exact zdec0 rfl h0 rfl
    · rename_i e; rw [e] at h0; cases h; exact zdec0 rfl h0 rfl
    · rename_i e; rw [e] at h0; cases h; exact zdec0 rfl h0 rfl
    · rename_i e; rw [e] at h0; cases h; exact zdec0 rfl h0 rfl
    · rename_i e; rw [e] at h0; cases h; exact zdec0 rfl h0 rfl
    · rename_i e; rw [e] at h0; cases h; exact zdec0 rfl h0 rfl
    · rename_i e; rw [e] at h0; cases h; exact zdec0 rfl h0 rfl
    · rename_i e; rw [e] at h0; cases h; exact zdec0 rfl h0 rfl
    · rename_i e; rw [e] at h0; cases h; exact zdec0 rfl h0 rfl
    · rename_i e; rw [e] at h0; cases t with
      | nil => cases h
      | cons x t2 => cases h; exact zdec1 rfl h0 rfl (zby_of ht).1
    · rename_i e; rw [e] at h0; cases t with
      | nil => cases h
      | cons x t2 => cases h; exact zdec1 rfl h0 rfl (zby_of ht).1
    · rename_i e; rw [e] at h0; cases t with
      | nil => cases h
      | cons x t2 => cases t2 with
        | nil => cases h
        | cons y t3 => cases h; exact zdecs rfl h0 rfl (zby_of ht).1 (zby_of (zby_of ht).2).1
    · rename_i e; rw [e] at h0; cases t with
      | nil => cases h
      | cons x t2 => cases t2 with
        | nil => cases h
        | cons y t3 => cases h; exact zdecs rfl h0 rfl (zby_of ht).1 (zby_of (zby_of ht).2).1
    · rename_i e; rw [e] at h0; cases t with
      | nil => cases h
      | cons x t2 => cases t2 with
        | nil => cases h
        | cons y t3 => cases h; exact zdecs rfl h0 rfl (zby_of ht).1 (zby_of (zby_of ht).2).1
    · rename_i e; rw [e] at h0; cases t with
      | nil => cases h
      | cons x t2 => cases t2 with
        | nil => cases h
        | cons y t3 => cases h; exact zdecs rfl h0 rfl (zby_of ht).1 (zby_of (zby_of ht).2).1
    · rename_i e; rw [e] at h0; cases t with
      | nil => cases h
      | cons x t2 => cases t2 with
        | nil => cases h
        | cons y t3 => cases h; exact zdecs rfl h0 rfl (zby_of ht).1 (zby_of (zby_of ht).2).1
    · rename_i e; rw [e] at h0; cases t with
      | nil => cases h
      | cons x t2 => cases t2 with
        | nil => cases h
        | cons y t3 => cases h; exact zdec2 rfl h0 rfl (zby_of ht).1 (zby_of (zby_of ht).2).1
    · rename_i e; rw [e] at h0; cases t with
      | nil => cases h
      | cons x t2 => cases t2 with
        | nil => cases h
        | cons y t3 => cases h; exact zdec2 rfl h0 rfl (zby_of ht).1 (zby_of (zby_of ht).2).1
    · rename_i e; rw [e] at h0; cases t with
      | nil => cases h
      | cons x t2 => cases t2 with
        | nil => cases h
        | cons y t3 => cases h; exact zdec2 rfl h0 rfl (zby_of ht).1 (zby_of (zby_of ht).2).1
    · rename_i e; rw [e] at h0; cases t with
      | nil => cases h
      | cons x t2 => cases t2 with
        | nil => cases h
        | cons y t3 => cases h; exact zdec2 rfl h0 rfl (zby_of ht).1 (zby_of (zby_of ht).2).1
    · rename_i e; rw [e] at h0; cases t with
      | nil => cases h
      | cons x t2 => cases t2 with
        | nil => cases h
        | cons y t3 =>
          cases h
          exact zdeci rfl h0 rfl (zby_of ht).1 (zby_of (zby_of ht).2).1
    · cases h
def zchk : Nat → List UInt8 → List (Nat × Instr × Nat) → Bool
  | _, _, [] => true
  | pc, l, q :: r => Nat.beq q.1 pc && decide (zdm l = some q.2) && zchk (pc + q.2.2) (l.drop q.2.2) r
theorem zchk_ok {c : ByteArray} : ∀ (is : List (Nat × Instr × Nat)) (pc : Nat) (l : List UInt8), c.data.toList.drop pc = l → zchk pc l is = true → ∀ q ∈ is, decode c q.1 = .ok q.2 := by
  intro is
  induction is with
  | nil => intro pc l _ _ q hq; cases hq
  | cons a r ih =>
    intro pc l hl h q hq
    simp only [zchk, Bool.and_eq_true, decide_eq_true_eq] at h
    obtain ⟨⟨h1, h2⟩, h3⟩ := h
    have e1 : a.1 = pc := Nat.eq_of_beq_eq_true h1
    rcases List.mem_cons.mp hq with rfl | hq
    · rw [e1]; exact zdm_ok hl h2
    · exact ih (pc + a.2.2) (l.drop a.2.2) (by rw [← hl, List.drop_drop]) h3 q hq
