/-! THE TOY MACHINE: heap = kinds, lengths, ints, references, longs, top, cells made, slots made -/
/-- catches: method, from, to, handler, catch type (pool number) -/
def zhr : List (Nat × List (Nat × Nat × Nat × Nat)) := [(317, [(0, 8, 11, 13), (0, 8, 14, 15)]), (318, [(0, 8, 11, 13)]), (319, [(0, 10, 13, 24), (0, 10, 17, 26)]), (320, [(0, 10, 13, 24), (0, 10, 17, 26)]), (321, [(0, 10, 13, 24), (0, 10, 17, 26)]), (322, [(0, 9, 12, 13)]), (323, [(0, 16, 19, 24), (0, 16, 23, 13), (0, 16, 27, 42)]), (324, [(0, 10, 13, 24), (0, 10, 17, 42)]), (325, [(0, 9, 12, 24), (0, 9, 15, 42)]), (326, [(0, 12, 15, 24), (0, 12, 19, 13), (0, 12, 23, 42)]), (327, [(0, 9, 12, 13)]), (328, [(0, 10, 13, 24), (0, 10, 17, 13)]), (329, [(0, 9, 12, 24)]), (330, [(0, 9, 12, 24)]), (331, [(0, 10, 13, 24), (0, 10, 17, 13)]), (332, [(0, 9, 12, 24)]), (333, [(0, 9, 12, 24)]), (334, [(0, 10, 13, 24)]), (335, [(0, 12, 15, 24), (0, 12, 19, 13)]), (336, [(0, 9, 12, 13)]), (337, [(0, 8, 11, 13)]), (338, [(0, 16, 19, 24), (0, 16, 22, 42)]), (339, [(0, 10, 13, 24), (0, 10, 17, 13)]), (340, [(0, 16, 19, 24)]), (341, [(0, 9, 12, 24)]), (342, [(0, 12, 15, 24), (0, 12, 19, 13)]), (343, [(0, 10, 13, 13)]), (344, [(0, 9, 12, 24)]), (345, [(0, 12, 15, 24), (0, 12, 19, 13), (0, 12, 23, 26)]), (346, [(0, 10, 13, 13)]), (347, [(0, 10, 13, 13)]), (348, [(0, 10, 13, 24)]), (349, [(0, 10, 13, 26)]), (350, [(0, 9, 12, 24)])]
def zhh (n : Nat) : List (Nat × Nat × Nat × Nat) := match zlk n zhr with
  | some l => l
  | none => []
abbrev Hp : Type := (Nat → Nat) × (Nat → Nat) × (Nat → Nat → Int32) × (Nat → Nat → Option Nat) × (Nat → Nat → Int64) × Nat × Nat × Nat
def zK (h : Hp) : Nat → Nat := h.1
def zN (h : Hp) : Nat → Nat := h.2.1
def zI (h : Hp) : Nat → Nat → Int32 := h.2.2.1
def zR (h : Hp) : Nat → Nat → Option Nat := h.2.2.2.1
def zJ (h : Hp) : Nat → Nat → Int64 := h.2.2.2.2.1
def zT (h : Hp) : Nat := h.2.2.2.2.2.1
def zC (h : Hp) : Nat := h.2.2.2.2.2.2.1
def zS (h : Hp) : Nat := h.2.2.2.2.2.2.2
def zup {α : Type} (f : Nat → Nat → α) (a j : Nat) (v : α) : Nat → Nat → α := fun x y => if x = a ∧ y = j then v else f x y
def zwI (h : Hp) (a j : Nat) (v : Int32) : Hp := (zK h, zN h, zup (zI h) a j v, zR h, zJ h, zT h, zC h, zS h)
def zwR (h : Hp) (a j : Nat) (v : Option Nat) : Hp := (zK h, zN h, zI h, zup (zR h) a j v, zJ h, zT h, zC h, zS h)
def zwJ (h : Hp) (a j : Nat) (v : Int64) : Hp := (zK h, zN h, zI h, zR h, zup (zJ h) a j v, zT h, zC h, zS h)
/-- a new cell at the top: its kind, its length, how many slots -/
def znw (h : Hp) (k n : Nat) : Hp := (fun x => if x = zT h then k else zK h x, fun x => if x = zT h then n else zN h x, fun x y => if x = zT h then 0 else zI h x y, fun x y => if x = zT h then none else zR h x y, fun x y => if x = zT h then 0 else zJ h x y, zT h + 1, zC h + 1, zS h + n)
/-- n ints are copied -/
def zcpy (h : Hp) (a sp b dp n : Nat) : Hp := (zK h, zN h, fun x y => if x = b ∧ dp ≤ y ∧ y < dp + n then zI h a (sp + (y - dp)) else zI h x y, zR h, zJ h, zT h, zC h, zS h)
def zrv : Option Nat → Value
  | none => .null
  | some a => .ref a
abbrev zu : Value := .retAddr 0
abbrev ZE : Type := (Nat → Nat) × Option Nat
abbrev zO : Type := Option Value ⊕ Nat
abbrev zRes : Type := (Nat × List Value × List Value × Hp) ⊕ (zO × Hp) ⊕ (Nat × List Value × List Value)
def zmt0 : MethodName × ByteArray × Nat × Option FieldType := (⟨"", "", ""⟩, ⟨#[]⟩, 0, none)
def zmi0 : Nat × Bool × Nat × Nat × Bool × Bool × Nat := (0, false, 0, 0, false, false, 99)
def zyy (n : Nat) : MethodName := (zmt.getD n zmt0).1
def zcd (n : Nat) : ByteArray := (zmt.getD n zmt0).2.1
def zmax (n : Nat) : Nat := (zmt.getD n zmt0).2.2.1
def zret (n : Nat) : Option FieldType := (zmt.getD n zmt0).2.2.2
def zown (n : Nat) : Nat := (zmi.getD n zmi0).1
def zstc (n : Nat) : Bool := (zmi.getD n zmi0).2.1
def zpar (n : Nat) : Nat := (zmi.getD n zmi0).2.2.1
def zrk (n : Nat) : Nat := (zmi.getD n zmi0).2.2.2.1
def zlg (n : Nat) : Bool := (zmi.getD n zmi0).2.2.2.2.1
def zlp (n : Nat) : Bool := (zmi.getD n zmi0).2.2.2.2.2.1
def zin (n : Nat) : Nat := (zmi.getD n zmi0).2.2.2.2.2.2
def zfetch (n pc : Nat) : Option (Instr × Nat) := zlk pc (zii.getD n [])
def zfr (n i : Nat) : Option (Nat × Nat) := zlk i (zfd.getD (zown n) [])
def zmr (n i : Nat) : Option Nat := zlk i (zmd.getD (zown n) [])
def zcl (n i : Nat) : Option Nat := zlk i (zcr.getD (zown n) [])
def zir (n i : Nat) : Option Int32 := zlk i (zci.getD (zown n) [])
def zjr (n i : Nat) : Option Int64 := zlk i (zcj.getD (zown n) [])
def zsr (n i : Nat) : Option Nat := zlk i (zcs.getD (zown n) [])
def zgr (n i : Nat) : Option Nat := zlk i (zsg.getD (zown n) [])
def zfty (c k : Nat) : Nat := (zft.getD c []).getD k 0
def zfin (c k : Nat) : Bool := ((zfl.getD c []).getD k ("", "", "", false)).2.2.2
def znf (c : Nat) : Nat := (zfl.getD c []).length
def zgo (pc : Nat) (ls st : List Value) (h : Hp) : Option zRes := some (.inl (pc, ls, st, h))
def zl (len k : Nat) (x : Option zRes) : Option zRes := match Nat.beq len k with
  | true => x
  | false => none
def z1 (st : List Value) (f : Int32 → List Value → Option zRes) : Option zRes := match st with
  | .int x :: r => f x r
  | _ => none
def z2 (st : List Value) (f : Int32 → Int32 → List Value → Option zRes) : Option zRes := match st with
  | .int y :: .int x :: r => f x y r
  | _ => none
def zq1 (st : List Value) (f : Int64 → List Value → Option zRes) : Option zRes := match st with
  | .long x :: r => f x r
  | _ => none
def zq2 (st : List Value) (f : Int64 → Int64 → List Value → Option zRes) : Option zRes := match st with
  | .long y :: .long x :: r => f x y r
  | _ => none
def za1 (st : List Value) (f : Nat → List Value → Option zRes) : Option zRes := match st with
  | .ref a :: r => f a r
  | _ => none
/-- an array's load: the array, the index -/
def zal (st : List Value) (f : Nat → Int32 → List Value → Option zRes) : Option zRes := match st with
  | .int j :: .ref a :: r => f a j r
  | _ => none
def zrf : Value → Bool
  | .null => true
  | .ref _ => true
  | _ => false
def zisL : Value → Bool
  | .long _ => true
  | .double _ => true
  | _ => false
def zput (ls : List Value) (k : Nat) (v : Value) : Option (List Value) := match Nat.blt k ls.length with
  | false => none
  | true => match k with
    | 0 => some (ls.set 0 v)
    | j + 1 => match zisL (ls.getD j zu) with
      | true => none
      | false => some (ls.set (j + 1) v)
def zstore (ls : List Value) (k : Nat) (v : Value) (f : List Value → Option zRes) : Option zRes := match zput ls k v with
  | some l => f l
  | none => none
def zld (ls : List Value) (k : Nat) (p : Value → Bool) (f : Value → Option zRes) : Option zRes := match ls[k]? with
  | some v => match p v with
    | true => f v
    | false => none
  | none => none
def zisI : Value → Bool
  | .int _ => true
  | _ => false
def zcat1 : Value → Bool
  | .int _ => true
  | .ref _ => true
  | .null => true
  | _ => false
def zj (pc : Nat) (off : Int) (f : Nat → Option zRes) : Option zRes := match (pc : Int) + off with
  | .ofNat t => f t
  | .negSucc _ => none
def zop {α : Type} (o : Option α) (f : α → Option zRes) : Option zRes := match o with
  | some x => f x
  | none => none
def zst1 (st : List Value) (p : Value → Bool) (f : Value → List Value → Option zRes) : Option zRes := match st with
  | v :: r => match p v with
    | true => f v r
    | false => none
  | [] => none
def zcnd (c : Jvm.ClassFile.Cond) (x y : Int32) (A B : Option zRes) : Option zRes := match c with
  | .eq => if x = y then A else B
  | .ne => if x = y then B else A
  | .lt => if x < y then A else B
  | .ge => if y ≤ x then A else B
  | .gt => if y < x then A else B
  | .le => if x ≤ y then A else B
def zval (h : Hp) (c a k : Nat) : Value := match zfty c k with
  | 2 => zrv (zR h a k)
  | _ => .int (zI h a k)
def zinr (j : Int32) (n : Nat) : Prop := ¬ j < 0 ∧ j.toNatClampNeg < n
def zexp : List Value → List Value
  | [] => []
  | v :: r => match zisL v with
    | true => v :: zu :: zexp r
    | false => v :: zexp r
def zpad (m : Nat) (l : List Value) : List Value := l ++ List.replicate (m - l.length) zu
def zent (n : Nat) (args : List Value) : List Value := zpad (zmax n) (zexp args)
/-- the first half: constants, locals, arithmetic, branches -/
def zsA (z : ZE) (n pc : Nat) (i : Instr) (len : Nat) (ls st : List Value) (h : Hp) : Option zRes := match i with
  | .iconst k => zl len 1 (zgo (pc + 1) ls (.int (Int32.ofInt k) :: st) h)
  | .bipush k => zl len 2 (zgo (pc + 2) ls (.int (Int8.ofInt k).toInt32 :: st) h)
  | .sipush k => zl len 3 (zgo (pc + 3) ls (.int (Int16.ofInt k).toInt32 :: st) h)
  | .lconst k => zl len 1 (zgo (pc + 1) ls (.long (Int64.ofNat k.val) :: st) h)
  | .aconst_null => zl len 1 (zgo (pc + 1) ls (.null :: st) h)
  | .ldc k => zl len 2 (match zir n k with
    | some v => zgo (pc + 2) ls (.int v :: st) h
    | none => zop (zsr n k) (fun q => zgo (pc + 2) ls (.ref (z.1 q) :: st) h))
  | .ldc_w k => zl len 3 (match zir n k with
    | some v => zgo (pc + 3) ls (.int v :: st) h
    | none => zop (zsr n k) (fun q => zgo (pc + 3) ls (.ref (z.1 q) :: st) h))
  | .ldc2_w k => zl len 3 (zop (zjr n k) (fun v => zgo (pc + 3) ls (.long v :: st) h))
  | .iload k => zl len 2 (zld ls k zisI (fun v => zgo (pc + 2) ls (v :: st) h))
  | .iload_n k => zl len 1 (zld ls k.val zisI (fun v => zgo (pc + 1) ls (v :: st) h))
  | .aload k => zl len 2 (zld ls k zrf (fun v => zgo (pc + 2) ls (v :: st) h))
  | .aload_n k => zl len 1 (zld ls k.val zrf (fun v => zgo (pc + 1) ls (v :: st) h))
  | .lload k => zl len 2 (match ls[k]? with
    | some (.long x) => zgo (pc + 2) ls (.long x :: st) h
    | _ => none)
  | .lload_n k => zl len 1 (match ls[k.val]? with
    | some (.long x) => zgo (pc + 1) ls (.long x :: st) h
    | _ => none)
  | .istore k => zl len 2 (zst1 st zisI (fun v r => zstore ls k v (fun l => zgo (pc + 2) l r h)))
  | .istore_n k => zl len 1 (zst1 st zisI (fun v r => zstore ls k.val v (fun l => zgo (pc + 1) l r h)))
  | .astore k => zl len 2 (zst1 st zrf (fun v r => zstore ls k v (fun l => zgo (pc + 2) l r h)))
  | .astore_n k => zl len 1 (zst1 st zrf (fun v r => zstore ls k.val v (fun l => zgo (pc + 1) l r h)))
  | .lstore k => zl len 2 (zq1 st (fun x r => match Nat.blt (k + 1) ls.length with
    | true => zstore ls k (.long x) (fun l => zgo (pc + 2) (l.set (k + 1) zu) r h)
    | false => none))
  | .lstore_n k => zl len 1 (zq1 st (fun x r => match Nat.blt (k.val + 1) ls.length with
    | true => zstore ls k.val (.long x) (fun l => zgo (pc + 1) (l.set (k.val + 1) zu) r h)
    | false => none))
  | .iinc k c => zl len 3 (match ls[k]? with
    | some (.int x) => zstore ls k (.int (x + Int32.ofInt c)) (fun l => zgo (pc + 3) l st h)
    | _ => none)
  | .iadd => zl len 1 (z2 st (fun x y r => zgo (pc + 1) ls (.int (x + y) :: r) h))
  | .isub => zl len 1 (z2 st (fun x y r => zgo (pc + 1) ls (.int (x - y) :: r) h))
  | .imul => zl len 1 (z2 st (fun x y r => zgo (pc + 1) ls (.int (x * y) :: r) h))
  | .idiv => zl len 1 (z2 st (fun x y r => if y = 0 then none else zgo (pc + 1) ls (.int (x / y) :: r) h))
  | .irem => zl len 1 (z2 st (fun x y r => if y = 0 then none else zgo (pc + 1) ls (.int (x - x / y * y) :: r) h))
  | .iand => zl len 1 (z2 st (fun x y r => zgo (pc + 1) ls (.int (x &&& y) :: r) h))
  | .ior => zl len 1 (z2 st (fun x y r => zgo (pc + 1) ls (.int (x ||| y) :: r) h))
  | .ixor => zl len 1 (z2 st (fun x y r => zgo (pc + 1) ls (.int (x ^^^ y) :: r) h))
  | .ishl => zl len 1 (z2 st (fun x y r => zgo (pc + 1) ls (.int (x <<< (y &&& 31)) :: r) h))
  | .ishr => zl len 1 (z2 st (fun x y r => zgo (pc + 1) ls (.int (x >>> (y &&& 31)) :: r) h))
  | .iushr => zl len 1 (z2 st (fun x y r => zgo (pc + 1) ls (.int (x.toUInt32 >>> (y.toUInt32 &&& Int32.toUInt32 31)).toInt32 :: r) h))
  | .ineg => zl len 1 (z1 st (fun x r => zgo (pc + 1) ls (.int (-x) :: r) h))
  | .ladd => zl len 1 (zq2 st (fun x y r => zgo (pc + 1) ls (.long (x + y) :: r) h))
  | .lmul => zl len 1 (zq2 st (fun x y r => zgo (pc + 1) ls (.long (x * y) :: r) h))
  | .ldiv => zl len 1 (zq2 st (fun x y r => if y = 0 then none else zgo (pc + 1) ls (.long (x / y) :: r) h))
  | .lcmp => zl len 1 (zq2 st (fun x y r => zgo (pc + 1) ls (.int (lg_cmp x y) :: r) h))
  | .i2l => zl len 1 (z1 st (fun x r => zgo (pc + 1) ls (.long x.toInt64 :: r) h))
  | .l2i => zl len 1 (zq1 st (fun x r => zgo (pc + 1) ls (.int x.toInt32 :: r) h))
  | .i2c => zl len 1 (z1 st (fun x r => zgo (pc + 1) ls (.int (x.toUInt32 % 65536).toInt32 :: r) h))
  | .dup => zl len 1 (zst1 st zcat1 (fun v r => zgo (pc + 1) ls (v :: v :: r) h))
  | .pop => zl len 1 (zst1 st zcat1 (fun _ r => zgo (pc + 1) ls r h))
  | .dup2 => zl len 1 (zst1 st zcat1 (fun v r => zst1 r zcat1 (fun w r2 => zgo (pc + 1) ls (v :: w :: v :: w :: r2) h)))
  | .ifCond c off => zl len 3 (z1 st (fun x r => zj pc off (fun t => zcnd c x 0 (zgo t ls r h) (zgo (pc + 3) ls r h))))
  | .if_icmp c off => zl len 3 (z2 st (fun x y r => zj pc off (fun t => zcnd c x y (zgo t ls r h) (zgo (pc + 3) ls r h))))
  | .goto off => zl len 3 (zj pc off (fun t => zgo t ls st h))
  | .ifnull off => zl len 3 (zj pc off (fun t => match st with
    | .null :: r => zgo t ls r h
    | .ref _ :: r => zgo (pc + 3) ls r h
    | _ => none))
  | .ifnonnull off => zl len 3 (zj pc off (fun t => match st with
    | .null :: r => zgo (pc + 3) ls r h
    | .ref _ :: r => zgo t ls r h
    | _ => none))
  | .tableswitch dflt lo hi offs => z1 st (fun x r => if x.toInt < lo ∨ hi < x.toInt then zj pc dflt (fun t => zgo t ls r h) else zop offs[(x.toInt - lo).toNat]? (fun off => zj pc off (fun t => zgo t ls r h)))
  | _ => none
def zkidR (k : Nat) : Option Nat := match k with
  | 22 => some 1
  | 23 => some 2
  | 24 => some 7
  | 25 => some 8
  | _ => none
/-- the second half, of the heap -/
def zsB (z : ZE) (n pc : Nat) (i : Instr) (len : Nat) (ls st : List Value) (h : Hp) : Option zRes := match i with
  | .getfield k => zl len 3 (zop (zfr n k) (fun q => za1 st (fun a r => if zK h a = q.1 + 1 then zgo (pc + 3) ls (zval h q.1 a q.2 :: r) h else none)))
  | .putfield k => zl len 3 (zop (zfr n k) (fun q => match zfin q.1 q.2 && !(Nat.beq (zin n) q.1) || Nat.beq q.1 11 with
    | true => none
    | false => match zfty q.1 q.2 with
      | 2 => match st with
        | .ref v :: .ref a :: r => if zK h a = q.1 + 1 then zgo (pc + 3) ls r (zwR h a q.2 (some v)) else none
        | .null :: .ref a :: r => if zK h a = q.1 + 1 then zgo (pc + 3) ls r (zwR h a q.2 none) else none
        | _ => none
      | 1 => match st with
        | .int v :: .ref a :: r => if zK h a = q.1 + 1 ∧ (v = 0 ∨ v = 1) then zgo (pc + 3) ls r (zwI h a q.2 v) else none
        | _ => none
      | _ => match st with
        | .int v :: .ref a :: r => if zK h a = q.1 + 1 then zgo (pc + 3) ls r (zwI h a q.2 v) else none
        | _ => none))
  | .getstatic k => zl len 3 (zop (zgr n k) (fun q => match q with
    | 0 => zgo (pc + 3) ls (.int 1 :: st) h
    | _ => zgo (pc + 3) ls (zrv z.2 :: st) h))
  | .arraylength => zl len 1 (za1 st (fun a r => if 20 ≤ zK h a ∧ zK h a ≤ 28 then zgo (pc + 1) ls (.int (nI (zN h a)) :: r) h else none))
  | .iaload => zl len 1 (zal st (fun a j r => if (zK h a = 20 ∨ zK h a = 28) ∧ ¬ j < 0 ∧ j.toNatClampNeg < zN h a then zgo (pc + 1) ls (.int (zI h a j.toNatClampNeg) :: r) h else none))
  | .baload => zl len 1 (zal st (fun a j r => if (zK h a = 21 ∨ zK h a = 27) ∧ ¬ j < 0 ∧ j.toNatClampNeg < zN h a then zgo (pc + 1) ls (.int (zI h a j.toNatClampNeg) :: r) h else none))
  | .laload => zl len 1 (zal st (fun a j r => if zK h a = 26 ∧ ¬ j < 0 ∧ j.toNatClampNeg < zN h a then zgo (pc + 1) ls (.long (zJ h a j.toNatClampNeg) :: r) h else none))
  | .aaload => zl len 1 (zal st (fun a j r => if (22 ≤ zK h a ∧ zK h a ≤ 25) ∧ ¬ j < 0 ∧ j.toNatClampNeg < zN h a then zgo (pc + 1) ls (zrv (zR h a j.toNatClampNeg) :: r) h else none))
  | .iastore => zl len 1 (match st with
    | .int v :: .int j :: .ref a :: r => if zK h a = 20 ∧ ¬ j < 0 ∧ j.toNatClampNeg < zN h a then zgo (pc + 1) ls r (zwI h a j.toNatClampNeg v) else none
    | _ => none)
  | .bastore => zl len 1 (match st with
    | .int v :: .int j :: .ref a :: r => if zK h a = 21 ∧ (¬ j < 0 ∧ j.toNatClampNeg < zN h a) ∧ (v = 0 ∨ v = 1) then zgo (pc + 1) ls r (zwI h a j.toNatClampNeg v) else none
    | _ => none)
  | .lastore => zl len 1 (match st with
    | .long v :: .int j :: .ref a :: r => if zK h a = 26 ∧ ¬ j < 0 ∧ j.toNatClampNeg < zN h a then zgo (pc + 1) ls r (zwJ h a j.toNatClampNeg v) else none
    | _ => none)
  | .aastore => zl len 1 (match st with
    | .ref v :: .int j :: .ref a :: r => if zkidR (zK h a) = some (zK h v) ∧ ¬ j < 0 ∧ j.toNatClampNeg < zN h a then zgo (pc + 1) ls r (zwR h a j.toNatClampNeg (some v)) else none
    | _ => none)
  | .newarray ty => zl len 2 (z1 st (fun j r => if ¬ j < 0 ∧ j.toNatClampNeg ≤ 100000 then (match ty with
    | .int => zgo (pc + 2) ls (.ref (zT h) :: r) (znw h 20 j.toNatClampNeg)
    | .boolean => zgo (pc + 2) ls (.ref (zT h) :: r) (znw h 21 j.toNatClampNeg)
    | .long => zgo (pc + 2) ls (.ref (zT h) :: r) (znw h 26 j.toNatClampNeg)
    | _ => none) else none))
  | .anewarray k => zl len 3 (z1 st (fun j r => if ¬ j < 0 ∧ j.toNatClampNeg ≤ 100000 then (match zcl n k with
    | some 0 => zgo (pc + 3) ls (.ref (zT h) :: r) (znw h 22 j.toNatClampNeg)
    | some 1 => zgo (pc + 3) ls (.ref (zT h) :: r) (znw h 23 j.toNatClampNeg)
    | some 6 => zgo (pc + 3) ls (.ref (zT h) :: r) (znw h 24 j.toNatClampNeg)
    | some 7 => zgo (pc + 3) ls (.ref (zT h) :: r) (znw h 25 j.toNatClampNeg)
    | _ => none) else none))
  | _ => none
def zthr (n pc e : Nat) : Bool := (match zfetch n (pc + 3) with
    | some (.dup, 1) => true
    | _ => false) && (match zfetch n (pc + 4) with
    | some (.invokespecial k, 3) => (match zmr n k with
      | some q => Nat.beq q (1010 + e)
      | none => false)
    | _ => false) && (match zfetch n (pc + 7) with
    | some (.athrow, 1) => true
    | _ => false) && (zhh n).isEmpty && Nat.blt e 5
/-- Math.max of ints 1, of longs 2, Math.min 3 -/
def zmath (m : Nat) : Nat := match Nat.beq m 306 with
  | true => 1
  | false => match Nat.beq m 307 with
    | true => 2
    | false => match Nat.beq m 308 with
      | true => 3
      | false => 0
/-- the third part: new, calls, returns -/
def zsC (n pc : Nat) (i : Instr) (len : Nat) (ls st : List Value) (h : Hp) : Option zRes := match i with
  | .new k => zl len 3 (zop (zcl n k) (fun c => match Nat.blt c 11 with
    | true => zgo (pc + 3) ls (.ref (zT h) :: st) (znw h (c + 1) (znf c))
    | false => match Nat.ble 100 c && zthr n pc (c - 100) && st.isEmpty with
      | true => some (.inr (.inl (.inr (c - 100), znw h 0 6)))
      | false => none))
  | .invokestatic k => zl len 3 (zop (zmr n k) (fun m => match Nat.beq m 1001 with
    | true => match st with
      | .int c :: .int dp :: .ref b :: .int sp :: .ref a :: r => if (zK h a = 20 ∧ zK h b = 20 ∧ a ≠ b) ∧ (¬ sp < 0 ∧ ¬ dp < 0 ∧ ¬ c < 0) ∧ sp.toNatClampNeg + c.toNatClampNeg ≤ zN h a ∧ dp.toNatClampNeg + c.toNatClampNeg ≤ zN h b ∧ r.length ≤ 4 then zgo (pc + 3) ls r (zcpy h a sp.toNatClampNeg b dp.toNatClampNeg c.toNatClampNeg) else none
      | _ => none
    | false => match Nat.blt m 351 && zstc m && Nat.ble (zpar m) st.length && Nat.ble (st.drop (zpar m)).length 4 with
      | true => (match zmath m with
        | 0 => some (.inr (.inr (m, (st.take (zpar m)).reverse, st.drop (zpar m))))
        | 1 => z2 st (fun x y r => zgo (pc + 3) ls (.int (if x < y then y else x) :: r) h)
        | 2 => zq2 st (fun x y r => zgo (pc + 3) ls (.long (if y < x then x else y) :: r) h)
        | _ => z2 st (fun x y r => zgo (pc + 3) ls (.int (if y < x then y else x) :: r) h))
      | false => none))
  | .invokevirtual k => zl len 3 (zop (zmr n k) (fun m => match Nat.blt m 351 && !zstc m && Nat.beq (zin m) 99 && Nat.ble (zpar m) st.length with
    | true => za1 (st.drop (zpar m)) (fun a r => if zK h a = zown m + 1 ∧ r.length ≤ 4 then some (.inr (.inr (m, .ref a :: (st.take (zpar m)).reverse, r))) else none)
    | false => none))
  | .invokespecial k => zl len 3 (zop (zmr n k) (fun m => match Nat.beq m 1000 with
    | true => za1 st (fun _ r => if r.length ≤ 4 then zgo (pc + 3) ls r h else none)
    | false => match Nat.blt m 351 && !zstc m && Nat.beq (zin m) (zown m) && Nat.ble (zpar m) st.length with
      | true => za1 (st.drop (zpar m)) (fun a r => if zK h a = zown m + 1 ∧ r.length ≤ 4 then some (.inr (.inr (m, .ref a :: (st.take (zpar m)).reverse, r))) else none)
      | false => none))
  | .ireturn => zl len 1 (match st with
    | [.int x] => zop (zret n) (fun ty => if narrow ty (.int x) = .int x then some (.inr (.inl (.inl (some (.int x)), h))) else none)
    | _ => none)
  | .lreturn => zl len 1 (match st with
    | [.long x] => match zret n with
      | some .long => some (.inr (.inl (.inl (some (.long x)), h)))
      | _ => none
    | _ => none)
  | .areturn => zl len 1 (match st with
    | [.ref a] => match zret n with
      | some (.object _) => some (.inr (.inl (.inl (some (.ref a)), h)))
      | _ => none
    | _ => none)
  | .return_ => zl len 1 (match st with
    | [] => match zret n with
      | none => some (.inr (.inl (.inl none, h)))
      | _ => none
    | _ => none)
  | _ => none
def zstep (z : ZE) (n pc : Nat) (i : Instr) (len : Nat) (ls st : List Value) (h : Hp) : Option zRes := match zsA z n pc i len ls st h with
  | some r => some r
  | none => match zsB z n pc i len ls st h with
    | some r => some r
    | none => zsC n pc i len ls st h
/-- a call: there is room for its arguments; its depth -/
def zdep0 (d n m : Nat) : Option Nat := match Nat.blt (zrk m) (zrk n) with
  | true => some d
  | false => match d with
    | 0 => none
    | d' + 1 => some d'
def zhnd (n : Nat) : List (Nat × Nat × Nat × Nat) → Nat → Nat → Option Nat
  | [], _, _ => none
  | (a, b, q, x) :: r, pc, e => match Nat.ble a pc && Nat.blt pc b with
    | true => (match zcl n x with
      | some y => (match Nat.beq y (100 + e) with
        | true => some q
        | false => (match Nat.ble 100 y && Nat.blt y 105 with
          | true => zhnd n r pc e
          | false => none))
      | none => none)
    | false => zhnd n r pc e
def zdep (d n m : Nat) (as : List Value) : Option Nat := match Nat.ble (zexp as).length (zmax m) with
  | true => zdep0 d n m
  | false => none
/-- where a thrown one is caught: behind the handler's astore, its local -/
def zhan (n pc e : Nat) : Option (Nat × Nat) := match zhnd n (zhh n) pc e with
  | none => none
  | some q => match zfetch n q with
    | some (.astore_n k, 1) => some (q + 1, k.val)
    | some (.astore k, 2) => some (q + 2, k)
    | _ => none
def zbd (r : Option (zO × Hp)) (f : Option Value → Hp → Option (zO × Hp)) (g : Nat → Hp → Option (zO × Hp)) : Option (zO × Hp) := match r with
  | none => none
  | some (.inl v, h) => f v h
  | some (.inr e, h) => g e h
def zrun : Nat → ZE → Nat → Nat → Nat → List Value → List Value → Hp → Option (zO × Hp)
  | 0, _, _, _, _, _, _, _ => none
  | f + 1, z, d, n, pc, ls, st, h => match zfetch n pc with
    | none => none
    | some (i, len) => match zstep z n pc i len ls st h with
      | none => none
      | some (.inl (pc', ls', st', h')) => zrun f z d n pc' ls' st' h'
      | some (.inr (.inl r)) => some r
      | some (.inr (.inr (m, args, rest))) => match zdep d n m args with
        | none => none
        | some d' => zbd (zrun f z d' m 0 (zent m args) [] h) (fun v h' => zrun f z d n (pc + 3) ls (v.toList ++ rest) h') (fun e h' => match Nat.blt (zin m) 99 with
          | true => none
          | false => match zhh n with
            | [] => some (.inr e, h')
            | _ :: _ => match zhan n pc e with
              | none => none
              | some (pc', k) => match zput ls k zu with
                | none => none
                | some ls' => zrun f z d n pc' ls' [] h')
