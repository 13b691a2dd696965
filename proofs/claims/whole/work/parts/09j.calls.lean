/-! SOUNDNESS: rooms, calls -/
def zmu (d n : Nat) : Nat := d * 64 + zrk n
def zroom (d n mc ms : Nat) : Room := { frames := zmu d n + 20, cells := mc, slots := ms, locals := 40 * zmu d n + 300 }
theorem zrk_max : ∀ n, n < 352 → zrk n < 64 ∧ zmax n ≤ 20 := by decide +kernel
/-- what a call's tables keep -/
def zmok (m : Nat) : Bool := decide ((parseMethodDescriptor (zyy m).desc).map (fun d => d.parameters.length) = some (zpar m)) && decide ((zyy m).cls = zcn (zown m)) && decide ((zyy m).cls ≠ "java/lang/invoke/MethodHandle") && decide ((zyy m).cls ≠ "java/lang/invoke/VarHandle") && (plainName (zyy m).cls || Nat.blt 0 (zmath m)) && (Nat.blt (zin m) 99 == decide ((zyy m).name = "<init>")) && (!Nat.blt (zin m) 99 || decide (zret m = none)) && ((zhh m).isEmpty || zstc m)
theorem zm_ok0 : ∀ m, m < 90 → zmok m = true := by decide +kernel
theorem zm_ok1 : ∀ m, m < 90 → zmok (90 + m) = true := by decide +kernel
theorem zm_ok2 : ∀ m, m < 90 → zmok (180 + m) = true := by decide +kernel
theorem zm_ok3 : ∀ m, m < 82 → zmok (270 + m) = true := by decide +kernel
theorem zm_ok (m : Nat) (h : m < 352) : zmok m = true := by
  rcases Nat.lt_or_ge m 90 with h1 | h1
  · exact zm_ok0 m h1
  rcases Nat.lt_or_ge m 180 with h2 | h2
  · have := zm_ok1 (m - 90) (by omega); rwa [show 90 + (m - 90) = m by omega] at this
  rcases Nat.lt_or_ge m 270 with h3 | h3
  · have := zm_ok2 (m - 180) (by omega); rwa [show 180 + (m - 180) = m by omega] at this
  have := zm_ok3 (m - 270) (by omega); rwa [show 270 + (m - 270) = m by omega] at this
abbrev zwsm (m : Nat) : List Cond := zcode m :: zgw
theorem zgood {m : Nat} (hm : m < 351) : GoodIn zgw (zwsm m) := by
  intro w hw
  have hz : w ∈ zgw := by
    rcases List.mem_cons.mp hw with rfl | h
    · exact zcode_w m hm
    · exact h
  exact ⟨hz, good_of_word (List.mem_filter.mp hz).2⟩
section
variable {D : va_G} {dT : Nat → ClassId} {B0 C0 S0 : Nat} {z : ZE} {p : Program} {l : Launch} {e : Env} {R : Room} {s : State} {m : MethodId} {args : Array Value} {below : List Frame} {meth : Method} {c : Code} {n : Nat} {Q : State → Prop}
/-- a callee's contract out of a run of its body -/
def zMet (D : va_G) (dT : Nat → ClassId) (B0 : Nat) (z : ZE) (l : Launch) (d k : Nat) (as : List Value) (h : Hp) (r : zO) (h' : Hp) : Prop :=
  vx_Met l (zyy k) (zwsm k) (zroom d k (zC h' - zC h) (zS h' - zS h)) (zPc D dT B0 z as h) (zQc D dT B0 r h') (zXc D dT B0 r h') (zC h' - zC h) (zS h' - zS h) (zAp B0)
theorem zblind_pre {H : Heap} {as : List Value} {h : Hp} {locs : List Loc} (hC : zCx D dT B0 z p l R s m args meth c n) (hR : zRep D dT B0 h H) (hS : va_S (zAp B0) s.heap H locs) : ∀ U : State, U.heap = H → s.WarmedH U.vm → zPc D dT B0 z as h as.toArray U := by
  obtain ⟨hx, hb, hml, hr, hown, hts, hlocks, hin, hK, hSt, hl, hxt⟩ := id hC
  intro U hU hW
  exact ⟨rfl, by rw [hU]; exact hR, hK.moved hW.alike, by rw [hU]; exact hSt.kept hW (fun a _ h2 => hS.2.1 a ‹_› h2)⟩
/-- what comes behind a call's answer -/
def zAns (D : va_G) (dT : Nat → ClassId) (B0 C0 S0 : Nat) (p : Program) (l : Launch) (e : Env) (R : Room) (s : State) (m : MethodId) (args : Array Value) (below : List Frame) (meth : Method) (c : Code) (n : Nat) (Q : State → Prop) (pc : Nat) (lst rest : List Value) (r : zO) (h' : Hp) : Prop :=
  (∀ v, r = .inl v → zWk D dT B0 C0 S0 p l e R s m args below meth c n Q (pc + 3) lst (v.toList ++ rest) h') ∧
  (∀ x, r = .inr x → x < 5 → ∀ (H : Heap) (locs : List Loc) (cells slots : Nat) (ls : Array Slot) (q : Addr) (ce : Cell), zRep D dT B0 h' H → va_S (zAp B0) s.heap H locs → cells + C0 = zC h' → slots + S0 = zS h' → zLs (zmax n) lst ls → H[q]? = some ce → ce.vm = .none → s.vm.findClass (zexn.getD x "") = some ce.cls → vx_W p l e R s m args below meth c H locs cells slots Q (F0 m pc ls rest) q)
theorem zrunX {pc : Nat} {lst st rest : List Value} {h h' : Hp} {as : List Value} {r : zO} {H : Heap} {locs : List Loc} {cells slots : Nat} {ls : Array Slot} (hS : va_S (zAp B0) s.heap H locs) (hc : cells + C0 = zC h) (hsl : slots + S0 = zS h) (hL : zLs (zmax n) lst ls) (hmon : zC h ≤ zC h' ∧ zS h ≤ zS h')
    (hrun : vx_Run p l e R s m args below meth c H locs cells slots (zC h' - zC h) (zS h' - zS h) (F0 m pc ls st) rest (zQc D dT B0 r h' as.toArray) (zXc D dT B0 r h') (zAp B0)) (ka : zAns D dT B0 C0 S0 p l e R s m args below meth c n Q pc lst rest r h') : W p l e R s m args below meth c H locs cells slots Q (F0 m pc ls st) := by
  intro T hT X
  have hkeep : ∀ (st₀ t T' : State) (L : List Loc), st₀.heap = H → T'.heap = t.heap → (∀ q ∈ L, zAp B0 q.base) → zEnd D dT B0 h' st₀ t → zRep D dT B0 h' T'.heap ∧ va_S (zAp B0) s.heap T'.heap (locs ++ L) := by
    intro st₀ t T' L e0 e1 hLf hE
    refine ⟨by rw [e1]; exact hE.1, ?_, ?_, ?_⟩
    · rw [e1]; exact Nat.le_trans hS.1 (by rw [← e0]; exact hE.2.1)
    · intro q h1 h2
      rw [e1, hE.2.2 q (by rw [e0]; exact Nat.lt_of_lt_of_le h1 hS.1) h2, e0]
      exact hS.2.1 q h1 h2
    · intro q hq
      rcases List.mem_append.mp hq with hq | hq
      · exact hS.2.2 q hq
      · exact hLf q hq
  rcases hrun T hT X with ⟨v, st₀, t, T', L, e0, X', hLf, e1, e2, hq, hgo⟩ | ⟨q, st₀, t, T', L, E, ce, e0, X', hLf, e1, e2, hq, hce, hcv, hcl, hst⟩
  · obtain ⟨v', hv', ho, hE⟩ := hq
    obtain rfl : v = v' := Outcome.returned.inj ho
    obtain ⟨k1, k2⟩ := hkeep st₀ t T' L e0 e1 hLf hE
    obtain ⟨t2, a1, b1⟩ := ka.1 v hv' T'.heap (locs ++ L) _ _ ls k1 k2 (by omega) (by omega) hL T' rfl X'
    exact ⟨t2, hgo _ a1, b1⟩
  · obtain ⟨x, hx, hx5, rfl, hE⟩ := hq
    obtain ⟨k1, k2⟩ := hkeep st₀ t T' L e0 e1 hLf hE
    obtain ⟨t2, a1, b1⟩ := ka.2 x hx hx5 T'.heap (locs ++ L) _ _ ls q ce k1 k2 (by omega) (by omega) hL (by rw [e1]; exact hce) hcv hcl T' rfl X'
    exact ⟨t2, hst.trans a1, b1⟩
end
