/-! A PORT'S PICTURE; numbers as bits -/
def PRp (h : Hp) (p : Nat) (P : Nat → Int32) (np ni nd : Nat) : Prop :=
  (np ≤ 6 ∧ ni ≤ 6 ∧ nd ≤ 8) ∧ (P 3 = nI np ∧ P 4 = nI ni ∧ P 5 = nI nd) ∧ (zI h p 1 = nI np ∧ zI h p 3 = nI ni ∧ zI h p 5 = nI nd) ∧
  (zI h p 7 = P 7 ∧ zI h p 8 = P 8 ∧ zI h p 9 = P 6 ∧ zI h p 10 = P 10 ∧ zI h p 11 = P 0) ∧
  (∀ k, k < 4 → zI h (p + 4) k = P (11 + k)) ∧ (∀ i c, i < np → c < 2 → zI h (p + 8 + i) c = P (15 + 2 * i + c)) ∧
  (∀ i c, i < ni → c < 3 → zI h (p + 14 + i) c = P (27 + 3 * i + c)) ∧ (∀ i c, i < nd → c < 12 → zI h (p + 20 + i) c = P (45 + 12 * i + c))
section
variable {h : Hp} {p : Nat} {P : Nat → Int32} {np ni nd : Nat}
theorem PRp.lp (H : PRp h p P np ni nd) : np ≤ 6 := H.1.1
theorem PRp.li (H : PRp h p P np ni nd) : ni ≤ 6 := H.1.2.1
theorem PRp.ld (H : PRp h p P np ni nd) : nd ≤ 8 := H.1.2.2
theorem PRp.P3 (H : PRp h p P np ni nd) : P 3 = nI np := H.2.1.1
theorem PRp.P4 (H : PRp h p P np ni nd) : P 4 = nI ni := H.2.1.2.1
theorem PRp.P5 (H : PRp h p P np ni nd) : P 5 = nI nd := H.2.1.2.2
theorem PRp.cp (H : PRp h p P np ni nd) : zI h p 1 = nI np := H.2.2.1.1
theorem PRp.ci (H : PRp h p P np ni nd) : zI h p 3 = nI ni := H.2.2.1.2.1
theorem PRp.cd (H : PRp h p P np ni nd) : zI h p 5 = nI nd := H.2.2.1.2.2
theorem PRp.salt (H : PRp h p P np ni nd) : zI h p 7 = P 7 := H.2.2.2.1.1
theorem PRp.spray (H : PRp h p P np ni nd) : zI h p 8 = P 8 := H.2.2.2.1.2.1
theorem PRp.time (H : PRp h p P np ni nd) : zI h p 9 = P 6 := H.2.2.2.1.2.2.1
theorem PRp.seed (H : PRp h p P np ni nd) : zI h p 10 = P 10 := H.2.2.2.1.2.2.2.1
theorem PRp.texts (H : PRp h p P np ni nd) : zI h p 11 = P 0 := H.2.2.2.1.2.2.2.2
theorem PRp.damp (H : PRp h p P np ni nd) {k : Nat} (hk : k < 4) : zI h (p + 4) k = P (11 + k) := H.2.2.2.2.1 k hk
theorem PRp.party (H : PRp h p P np ni nd) {i c : Nat} (hi : i < np) (hc : c < 2) : zI h (p + 8 + i) c = P (15 + 2 * i + c) := H.2.2.2.2.2.1 i c hi hc
theorem PRp.ink (H : PRp h p P np ni nd) {i c : Nat} (hi : i < ni) (hc : c < 3) : zI h (p + 14 + i) c = P (27 + 3 * i + c) := H.2.2.2.2.2.2.1 i c hi hc
theorem PRp.deed (H : PRp h p P np ni nd) {i c : Nat} (hi : i < nd) (hc : c < 12) : zI h (p + 20 + i) c = P (45 + 12 * i + c) := H.2.2.2.2.2.2.2 i c hi hc
end
theorem nI_and (a b : Nat) : nI a &&& nI b = nI (a &&& b) := Int32.toBitVec_inj.mp (by
  show BitVec.ofNat 32 a &&& BitVec.ofNat 32 b = BitVec.ofNat 32 (a &&& b)
  exact BitVec.ofNat_and.symm)
theorem nI_or (a b : Nat) : nI a ||| nI b = nI (a ||| b) := Int32.toBitVec_inj.mp (by
  show BitVec.ofNat 32 a ||| BitVec.ofNat 32 b = BitVec.ofNat 32 (a ||| b)
  exact BitVec.ofNat_or.symm)
theorem or_n0 (x : Int32) : x ||| nI 0 = x := Int32.or_zero
theorem n0_or (x : Int32) : nI 0 ||| x = x := Int32.zero_or
theorem add_n0 (x : Int32) : x + nI 0 = x := Int32.add_zero x
theorem n0_add (x : Int32) : nI 0 + x = x := Int32.zero_add x
theorem nI_shl : ∀ k, k < 31 → nI 1 <<< (nI k &&& 31) = nI (2 ^ k) := by decide +kernel
/-- within a set -/
theorem sub_iff {x b : Int32} : (x &&& (b ^^^ (-1)) = 0) ↔ x &&& b = x := by
  rw [← Int32.toBitVec_inj, ← Int32.toBitVec_inj]
  show (x.toBitVec &&& (b.toBitVec ^^^ (-1 : Int32).toBitVec) = 0#32) ↔ (x.toBitVec &&& b.toBitVec = x.toBitVec)
  rw [show (-1 : Int32).toBitVec = BitVec.allOnes 32 from rfl, BitVec.xor_allOnes]
  constructor
  · intro e
    refine BitVec.eq_of_getLsbD_eq (fun i hi => ?_)
    have := congrArg (fun v => v.getLsbD i) e
    simp only [BitVec.getLsbD_and, BitVec.getLsbD_not, hi, decide_true, Bool.true_and, BitVec.getLsbD_zero] at this
    rw [BitVec.getLsbD_and]
    cases h1 : x.toBitVec.getLsbD i <;> cases h2 : b.toBitVec.getLsbD i <;> simp_all
  · intro e
    refine BitVec.eq_of_getLsbD_eq (fun i hi => ?_)
    have := congrArg (fun v => v.getLsbD i) e
    simp only [BitVec.getLsbD_and] at this
    simp only [BitVec.getLsbD_and, BitVec.getLsbD_not, hi, decide_true, Bool.true_and, BitVec.getLsbD_zero]
    cases h1 : x.toBitVec.getLsbD i <;> cases h2 : b.toBitVec.getLsbD i <;> simp_all
/-- bits of deeds as a number -/
def bsN (f : Nat → Prop) [∀ k, Decidable (f k)] : Nat → Nat
  | 0 => 0
  | k + 1 => if f k then bsN f k + 2 ^ k else bsN f k
theorem bsN_lt (f : Nat → Prop) [∀ k, Decidable (f k)] : ∀ n, bsN f n < 2 ^ n
  | 0 => Nat.zero_lt_one
  | n + 1 => by
    have := bsN_lt f n
    unfold bsN
    have e : 2 ^ (n + 1) = 2 ^ n + 2 ^ n := by rw [Nat.pow_succ]; omega
    split <;> omega
theorem or_pow {a n : Nat} (h : a < 2 ^ n) : a ||| 2 ^ n = a + 2 ^ n := by
  have := Nat.two_pow_add_eq_or_of_lt h 1
  rw [Nat.mul_one] at this
  rw [Nat.or_comm, ← this, Nat.add_comm]
theorem inS_N {P : Nat → Int32} {s : Int32} : ∀ n, n ≤ 31 → inS P s n = nI (bsN (fun k => P (45 + 12 * k + 10) = s) n)
  | 0, _ => rfl
  | n + 1, h => by
    have ih := inS_N (P := P) (s := s) n (by omega)
    unfold inS bsN
    rw [ih]
    split
    · rw [nI_shl n (by omega), nI_or, or_pow (bsN_lt _ n)]
    · exact or_n0 _
