/-! SOUNDNESS OF THE TOY MACHINE: context, representation -/
abbrev zAp (B0 : Nat) : Nat → Prop := fun q => B0 ≤ q
def zFT (c : Nat) : u_T := fun k => (zfl.getD c []).getD k ("", "", "", false)
abbrev zcn (o : Nat) : String := zow.getD o ""
def zcx : List vw_C := (List.range 11).map (fun c => (zcn c, zFT c, znf c))
def zty : Nat → FieldType
  | 21 => .boolean
  | 22 => .object "LateInks$Deed"
  | 23 => .object "LateInks$Ink"
  | 24 => .object "LateInks$Party"
  | 25 => .object "LateInks$Port"
  | 26 => .long
  | 27 => .byte
  | _ => .int
def zavk (k : Nat) (h : Hp) (a j : Nat) : Value := match k with
  | 26 => .long (zJ h a j)
  | 22 => zrv (zR h a j)
  | 23 => zrv (zR h a j)
  | 24 => zrv (zR h a j)
  | 25 => zrv (zR h a j)
  | _ => .int (zI h a j)
def zRo (dT : Nat → ClassId) (h : Hp) (H : Heap) (a k : Nat) : Prop := ∃ cell : Cell, H[a]? = some cell ∧ cell.cls = dT (100 + 2 * a) ∧ dT (101 + 2 * a) = k ∧ (∀ q, cell.vm ≠ .statics q) ∧ cell.vm ≠ .unknown ∧ cell.slots.size = zN h a ∧ ∀ j, j < zN h a → cell.slots[j]? = some (.int (zI h a j))
def zRa (D : va_G) (dT : Nat → ClassId) (B0 : Nat) (h : Hp) (H : Heap) (a : Nat) : Prop :=
  (∀ c, zK h a = c + 1 → c < 11 → t_OB a (D.1 c) (znf c) (D.2 c) H (zval h c a)) ∧
  (zK h a = 12 → ∃ cell : Cell, H[a]? = some cell ∧ cell.vm.isStatics = false ∧ cell.vm ≠ .unknown ∧ cell.cls = D.1 11 ∧ ∀ k, k < 2 → cell.slots[D.2 11 k]? = some (zval h 11 a k)) ∧
  (20 ≤ zK h a → zK h a ≤ 26 → H[a]? = some (arrV (dT (zK h a)) (zN h a) (zavk (zK h a) h a))) ∧
  (27 ≤ zK h a → zK h a ≤ 28 → zRo dT h H a (zK h a)) ∧
  (zK h a ≠ 0 → zK h a ≠ 12 → zK h a ≤ 26 → B0 ≤ a)
def zRep (D : va_G) (dT : Nat → ClassId) (B0 : Nat) (h : Hp) (H : Heap) : Prop := zT h = H.size ∧ B0 ≤ H.size ∧ (∀ a, H.size ≤ a → zK h a = 0) ∧ ∀ a, zRa D dT B0 h H a
/-- a field of String -/
def zSF (U : State) (n d : String) (i : Nat) : Prop := ∃ (cf : ClassId) (k : Class) (fi : Nat) (f : Field), U.fieldFound? "java/lang/String" n d = some (cf, k, fi, f) ∧ f.isStatic = false ∧ f.slot = i
theorem zSF.moved {n d : String} {i : Nat} {u U : State} (hvm : u.vm.Alike U.vm) (h : zSF u n d i) : zSF U n d i := by
  obtain ⟨cf, k, fi, f, h1, h2, h3⟩ := h
  obtain ⟨k', hk, -⟩ := State.fieldFound?_setVm hvm h1
  exact ⟨cf, k', fi, f, hk, h2, h3⟩
def zKs (D : va_G) (dT : Nat → ClassId) (s : State) : Prop := (∀ (c : Nat) (q : vw_C), zcx[c]? = some q → u_Kn s q.1 q.2.1 q.2.2 (D.1 c) (D.2 c)) ∧ (∀ k, 20 ≤ k → k ≤ 26 → ArrOfT s (dT k) (zty k)) ∧ (∀ k, 20 ≤ k → k ≤ 26 → va_RA s (dT k) (zty k)) ∧ s.vm.findClass "java/lang/String" = some (D.1 11) ∧ (∀ k, k < 2 → zSF s (zFT 11 k).2.1 (zFT 11 k).2.2.1 (D.2 11 k)) ∧ ∀ a, (dT (101 + 2 * a) = 27 → ArrOfT s (dT (100 + 2 * a)) .byte) ∧ (dT (101 + 2 * a) = 28 → ArrOfT s (dT (100 + 2 * a)) .int)
theorem zKs.moved {D : va_G} {dT : Nat → ClassId} {u U : State} (hvm : u.vm.Alike U.vm) (h : zKs D dT u) : zKs D dT U :=
  ⟨fun c q hq => u_Kn_moved hvm (h.1 c q hq), fun k h1 h2 => arrOfT_moved hvm (h.2.1 k h1 h2), fun k h1 h2 => (h.2.2.1 k h1 h2).moved hvm, by rw [hvm.findClass]; exact h.2.2.2.1, fun k hk => (h.2.2.2.2.1 k hk).moved hvm, fun a => ⟨fun e => arrOfT_moved hvm ((h.2.2.2.2.2 a).1 e), fun e => arrOfT_moved hvm ((h.2.2.2.2.2 a).2 e)⟩⟩
def zexn : List String := ["java/lang/IllegalArgumentException", "java/lang/IllegalStateException", "java/lang/IndexOutOfBoundsException", "java/lang/UnsupportedOperationException", "java/util/NoSuchElementException"]
/-- links to constructors of nest mates: owner, pool number, method -/
def znd : List (Nat × Nat × Nat) := [(9, 19, 89), (7, 64, 31), (7, 74, 45), (7, 75, 6), (7, 76, 0), (9, 53, 9), (9, 60, 37)]
/-- what a state's statics and texts are -/
def zSt (B0 : Nat) (z : ZE) (U : State) (H : Heap) : Prop :=
  vx_Zq Bundle.tN "UNASSIGNED_STACK" Bundle.steD (zAp B0) U H ∧ vx_Zq Bundle.tN "SUPPRESSED_SENTINEL" Bundle.listD (zAp B0) U H ∧
  va_Z "java/lang/String" "COMPACT_STRINGS" "Z" (.int 1) (zAp B0) U H ∧ va_Z "jdk/internal/util/Preconditions" "SIOOBE_FORMATTER" "Ljava/util/function/BiFunction;" (zrv z.2) (zAp B0) U H ∧
  (∀ o k q, zlk k (zcs.getD o []) = some q → ∃ tx, vk_R (zcn o) k tx (z.1 q) U) ∧
  (∀ e f, e < 5 → f < 5 → e ≠ f → va_Nc (zexn.getD e "") (zexn.getD f "") U) ∧
  (∀ q ∈ znd, va_Nw (.methodLinkNest (zcn q.1) q.2.1 (zyy q.2.2) "LateInks") U) ∧
  (∀ C ∈ ["LateInks$Deed", "LateInks$Ink", "LateInks$Party", "LateInks$Port"], va_AO C U) ∧
  (∀ Y ∈ ["java/lang/RuntimeException", "java/lang/Exception", "java/lang/Throwable"], va_Nw (.declares ⟨Y, "<init>", "()V"⟩) U) ∧
  (∀ e, e < 5 → va_Nw (.castable (zexn.getD e "") (zexn.getD e "")) U)
theorem zSt.kept {B0 : Nat} {z : ZE} {s U : State} {H H1 : Heap} (hW : s.WarmedH U.vm) (hq : ∀ a : Nat, a < H.size → ¬ zAp B0 a → H1[a]? = H[a]?) (h : zSt B0 z s H) : zSt B0 z U H1 := by
  obtain ⟨h1, h2, h3, h4, h5, h6, h7, h8, h9, h10⟩ := h
  refine ⟨vx_Zq.moved hW.alike (h1.kept hq), vx_Zq.moved hW.alike (h2.kept hq), va_Z.moved hW.alike (h3.kept hq), va_Z.moved hW.alike (h4.kept hq), ?_, ?_, ?_, ?_, fun Y hY => (h9 Y hY).warmD hW, fun e he => (h10 e he).warmC hW⟩
  · intro o k q hk
    obtain ⟨tx, ht⟩ := h5 o k q hk
    exact ⟨tx, ht.warm hW⟩
  · intro e f he hf hne
    exact (h6 e f he hf hne).moved hW.alike
  · intro q hq
    exact (h7 q hq).warmM hW
  · intro C hC
    exact va_AO.moved hW.alike (h8 C hC)
theorem zlk_mem {α : Type} {i : Nat} {x : α} : ∀ {l : List (Nat × α)}, zlk i l = some x → (i, x) ∈ l := by
  intro l
  induction l with
  | nil => intro h; cases h
  | cons q r ih =>
    obtain ⟨j, y⟩ := q
    intro h
    unfold zlk at h
    split at h
    · rename_i e
      cases h
      rw [Nat.eq_of_beq_eq_true e]
      exact List.mem_cons_self
    · exact List.mem_cons_of_mem _ (ih h)
/-- the words that stay true -/
def zgw : List Cond := lw_tbl.filter goodWord
/-- the context of a method's run -/
def zCx (D : va_G) (dT : Nat → ClassId) (B0 : Nat) (z : ZE) (p : Program) (l : Launch) (R : Room) (s : State) (m : MethodId) (args : Array Value) (meth : Method) (c : Code) (n : Nat) : Prop :=
  p.tables.exec = Jvm.exec ∧ c.code = zcd n ∧ c.maxLocals = zmax n ∧ meth.sig.returnType = zret n ∧ s.vm.findClass (zcn (zown n)) = some m.cls ∧ (∀ w ∈ zgw, w.before args s = true) ∧ meth.locks = false ∧ (zin n ≠ 99 → meth.name = "<init>") ∧ zKs D dT s ∧ zSt B0 z s s.heap ∧ l.stackTraces = false ∧
  c.exceptionTable.toList.map (fun x => (x.startPc, x.endPc, x.handlerPc, x.catchType)) = zhh n
/-- the locals: what is unset on the toy side is free -/
def zpr : Nat → List Value → List (Nat × Value)
  | _, [] => []
  | i, .retAddr _ :: r => zpr (i + 1) r
  | i, .int x :: r => (i, .int x) :: zpr (i + 1) r
  | i, .long x :: r => (i, .long x) :: zpr (i + 1) r
  | i, .float x :: r => (i, .float x) :: zpr (i + 1) r
  | i, .double x :: r => (i, .double x) :: zpr (i + 1) r
  | i, .null :: r => (i, .null) :: zpr (i + 1) r
  | i, .ref x :: r => (i, .ref x) :: zpr (i + 1) r
def zset : Value → Bool
  | .retAddr _ => false
  | _ => true
theorem zpr_mem : ∀ (l : List Value) (i k : Nat) (v : Value), (k, v) ∈ zpr i l ↔ ∃ j, k = i + j ∧ l[j]? = some v ∧ zset v = true := by
  intro l
  induction l with
  | nil => intro i k v; simp [zpr]
  | cons w r ih =>
    intro i k v
    have key : (∃ j, k = i + 1 + j ∧ r[j]? = some v ∧ zset v = true) ↔ ∃ j, k = i + (j + 1) ∧ (w :: r)[j + 1]? = some v ∧ zset v = true := by
      constructor
      · rintro ⟨j, h1, h2, h3⟩; exact ⟨j, by omega, by simpa using h2, h3⟩
      · rintro ⟨j, h1, h2, h3⟩; exact ⟨j, by omega, by simpa using h2, h3⟩
    have spl : (∃ j, k = i + j ∧ (w :: r)[j]? = some v ∧ zset v = true) ↔ (k = i ∧ w = v ∧ zset v = true) ∨ ∃ j, k = i + (j + 1) ∧ (w :: r)[j + 1]? = some v ∧ zset v = true := by
      constructor
      · rintro ⟨j, h1, h2, h3⟩
        cases j with
        | zero => left; refine ⟨by omega, ?_, h3⟩; simpa using h2
        | succ j => right; exact ⟨j, h1, h2, h3⟩
      · rintro (⟨h1, h2, h3⟩ | ⟨j, h1, h2, h3⟩)
        · exact ⟨0, by omega, by simp [h2], h3⟩
        · exact ⟨j + 1, h1, h2, h3⟩
    rw [spl, ← key, ← ih (i + 1) k v]
    cases w <;> simp only [zpr, List.mem_cons, Prod.mk.injEq] <;> constructor <;> intro h <;> first
      | (rcases h with ⟨rfl, rfl⟩ | h
         · left; exact ⟨rfl, rfl, rfl⟩
         · right; exact h)
      | (rcases h with ⟨rfl, rfl, h⟩ | h
         · first | (left; exact ⟨rfl, rfl⟩) | (cases h)
         · first | (right; exact h) | exact h)
      | (right; exact h)
def zLs (N : Nat) (l : List Value) (ls : Array Slot) : Prop := l.length = N ∧ lv_has ls N (zpr 0 l)
theorem zLs_at {N k : Nat} {l : List Value} {ls : Array Slot} {v : Value} (h : zLs N l ls) (hk : l[k]? = some v) (hv : zset v = true) : ls[k]? = some (.val v) :=
  h.2.2.2 (k, v) ((zpr_mem l 0 k v).mpr ⟨k, by omega, hk, hv⟩)
theorem zcat {v : Value} : zisL v = false → ¬ v.category = 2 := by
  cases v <;> simp [zisL, Value.category]
theorem zcat1_1 {v : Value} (h : zcat1 v = true) : v.category = 1 := by
  cases v <;> first | rfl | cases h
/-- a store into a local of one word -/
theorem zput_ok {N k : Nat} {l l' : List Value} {ls : Array Slot} {v : Value} (h : zLs N l ls) (hp : zput l k v = some l') :
    k < N ∧ ∀ ls', lv_has ls' N ((k, v) :: (zpr 0 l).filter (fun q => !(q.1 == k) && !(q.1 + 1 == k && q.2.category == 2))) → zLs N l' ls' := by
  unfold zput at hp
  split at hp
  · cases hp
  · rename_i hb
    have hlt : k < l.length := by simpa using hb
    have hl' : l' = l.set k v ∧ ∀ j, k = j + 1 → zisL (l.getD j zu) = false := by
      cases k with
      | zero => simp only [Option.some.injEq] at hp; exact ⟨hp.symm, fun j hj => by omega⟩
      | succ j =>
        dsimp only at hp
        split at hp
        · cases hp
        · rename_i hz
          simp only [Option.some.injEq] at hp
          exact ⟨hp.symm, fun j' hj => by have : j' = j := by omega
                                          subst this; exact hz⟩
    obtain ⟨rfl, hbelow⟩ := hl'
    refine ⟨by rw [← h.1]; exact hlt, fun ls' hh => ⟨by simp [h.1], hh.1, hh.2.1, fun q hq => ?_⟩⟩
    obtain ⟨j, e1, e2, e3⟩ := (zpr_mem (l.set k v) 0 q.1 q.2).mp (by simpa using hq)
    have e1' : q.1 = j := by omega
    rw [List.getElem?_set] at e2
    by_cases hjk : k = j
    · rw [if_pos hjk] at e2
      split at e2
      · have : v = q.2 := by simpa using e2
        have hqe : q = (k, v) := by rw [this, hjk, ← e1']
        rw [hqe]
        exact hh.2.2 (k, v) List.mem_cons_self
      · rename_i hn; exact absurd hlt hn
    · rw [if_neg hjk] at e2
      refine hh.2.2 q (List.mem_cons_of_mem _ ?_)
      rw [List.mem_filter]
      refine ⟨?_, ?_⟩
      · have := (zpr_mem l 0 q.1 q.2).mpr ⟨j, by omega, e2, e3⟩
        simpa using this
      · simp only [Bool.and_eq_true, Bool.not_eq_true', beq_eq_false_iff_ne, ne_eq, Bool.and_eq_false_imp, beq_iff_eq]
        refine ⟨by rw [e1']; exact fun e => hjk e.symm, fun e => ?_⟩
        have hz := hbelow j (by omega)
        have hg : l.getD j zu = q.2 := by simp [List.getD, e2]
        rw [hg] at hz
        exact zcat hz
/-- a store of a long -/
theorem zputL_ok {N k : Nat} {l l' : List Value} {ls : Array Slot} {x : Int64} (h : zLs N l ls) (hp : zput l k (.long x) = some l') (hlt2 : k + 1 < l.length) :
    k + 1 < N ∧ ∀ ls', lv_has ls' N ((k, .long x) :: (zpr 0 l).filter (fun q => !(q.1 == k) && (!(q.1 == k + 1) && !(q.1 + 1 == k && q.2.category == 2)))) → zLs N (l'.set (k + 1) zu) ls' := by
  unfold zput at hp
  split at hp
  · cases hp
  · rename_i hb
    have hlt : k < l.length := by simpa using hb
    have hl' : l' = l.set k (.long x) ∧ ∀ j, k = j + 1 → zisL (l.getD j zu) = false := by
      cases k with
      | zero => simp only [Option.some.injEq] at hp; exact ⟨hp.symm, fun j hj => by omega⟩
      | succ j =>
        dsimp only at hp
        split at hp
        · cases hp
        · rename_i hz
          simp only [Option.some.injEq] at hp
          exact ⟨hp.symm, fun j' hj => by have : j' = j := by omega
                                          subst this; exact hz⟩
    obtain ⟨rfl, hbelow⟩ := hl'
    refine ⟨by rw [← h.1]; exact hlt2, fun ls' hh => ⟨by simp [h.1], hh.1, hh.2.1, fun q hq => ?_⟩⟩
    obtain ⟨j, e1, e2, e3⟩ := (zpr_mem ((l.set k (.long x)).set (k + 1) zu) 0 q.1 q.2).mp (by simpa using hq)
    have e1' : q.1 = j := by omega
    rw [List.getElem?_set] at e2
    by_cases hj1 : k + 1 = j
    · rw [if_pos hj1] at e2
      split at e2
      · have : zu = q.2 := by simpa using e2
        rw [← this] at e3
        cases e3
      · rename_i hn; simp at hn; omega
    · rw [if_neg hj1, List.getElem?_set] at e2
      by_cases hjk : k = j
      · rw [if_pos hjk] at e2
        split at e2
        · have : Value.long x = q.2 := by simpa using e2
          have hqe : q = (k, .long x) := by rw [this, hjk, ← e1']
          rw [hqe]
          exact hh.2.2 (k, .long x) List.mem_cons_self
        · rename_i hn; exact absurd hlt hn
      · rw [if_neg hjk] at e2
        refine hh.2.2 q (List.mem_cons_of_mem _ ?_)
        rw [List.mem_filter]
        refine ⟨?_, ?_⟩
        · have := (zpr_mem l 0 q.1 q.2).mpr ⟨j, by omega, e2, e3⟩
          simpa using this
        · simp only [Bool.and_eq_true, Bool.not_eq_true', beq_eq_false_iff_ne, ne_eq, Bool.and_eq_false_imp, beq_iff_eq]
          refine ⟨by rw [e1']; exact fun e => hjk e.symm, by rw [e1']; exact fun e => hj1 e.symm, fun e => ?_⟩
          have hz := hbelow j (by omega)
          have hg : l.getD j zu = q.2 := by simp [List.getD, e2]
          rw [hg] at hz
          exact zcat hz
