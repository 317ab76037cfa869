/-! numbers: nI of naturals through the int instructions -/
theorem nJ_sl : ∀ n, n < 32 → ((nI n &&& 31).toBitVec.smod 32).toNat = n := by decide +kernel
theorem nJ_shr {a g : Nat} (ha : a < 2 ^ 31) (hg : g < 32) : nI a >>> (nI g &&& 31) = nI (a / 2 ^ g) := pk_shrN ha _ g (nJ_sl g hg)
theorem nJ_shl {a g : Nat} (hg : g < 32) (h : a * 2 ^ g < 2 ^ 32) : nI a <<< (nI g &&& 31) = nI (a * 2 ^ g) := pk_shlN _ g (nJ_sl g hg) h
theorem nJ_1shl {g : Nat} (hg : g < 32) : nI 1 <<< (nI g &&& 31) = nI (2 ^ g) := by
  rw [nJ_shl hg (by rw [Nat.one_mul]; exact Nat.pow_lt_pow_right (by decide) hg), Nat.one_mul]
theorem nJ_and (a b : Nat) : nI a &&& nI b = nI (a &&& b) := by
  apply Int32.toBitVec_inj.mp
  apply BitVec.eq_of_getLsbD_eq
  intro i hi
  rw [Int32.toBitVec_and, BitVec.getLsbD_and]
  show ((BitVec.ofNat 32 a).getLsbD i && (BitVec.ofNat 32 b).getLsbD i) = (BitVec.ofNat 32 (a &&& b)).getLsbD i
  rw [BitVec.getLsbD_ofNat, BitVec.getLsbD_ofNat, BitVec.getLsbD_ofNat, Nat.testBit_and]
  simp [hi]
theorem nJ_or (a b : Nat) : nI a ||| nI b = nI (a ||| b) := by
  apply Int32.toBitVec_inj.mp
  apply BitVec.eq_of_getLsbD_eq
  intro i hi
  rw [Int32.toBitVec_or, BitVec.getLsbD_or]
  show ((BitVec.ofNat 32 a).getLsbD i || (BitVec.ofNat 32 b).getLsbD i) = (BitVec.ofNat 32 (a ||| b)).getLsbD i
  rw [BitVec.getLsbD_ofNat, BitVec.getLsbD_ofNat, BitVec.getLsbD_ofNat, Nat.testBit_or]
  simp [hi]
theorem nJ_xor (a b : Nat) : nI a ^^^ nI b = nI (a ^^^ b) := by
  apply Int32.toBitVec_inj.mp
  apply BitVec.eq_of_getLsbD_eq
  intro i hi
  rw [Int32.toBitVec_xor, BitVec.getLsbD_xor]
  show ((BitVec.ofNat 32 a).getLsbD i ^^ (BitVec.ofNat 32 b).getLsbD i) = (BitVec.ofNat 32 (a ^^^ b)).getLsbD i
  rw [BitVec.getLsbD_ofNat, BitVec.getLsbD_ofNat, BitVec.getLsbD_ofNat, Nat.testBit_xor]
  simp [hi]
/-- a truth value, as an int -/
def bI (b : Bool) : Int32 := nI (bif b then 1 else 0)
theorem bI01 (b : Bool) : bI b = 0 ∨ bI b = 1 := by cases b <;> decide
theorem nJ_mod2 (a : Nat) : nI a &&& nI 1 = nI (a % 2) := by rw [nJ_and, Nat.and_one_is_mod]
theorem nJ_bit {a g : Nat} (ha : a < 2 ^ 31) (hg : g < 32) : nI a >>> (nI g &&& 31) &&& nI 1 = bI (a.testBit g) := by
  rw [nJ_shr ha hg, nJ_mod2]
  unfold bI Nat.testBit
  rw [Nat.shiftRight_eq_div_pow, Nat.one_and_eq_mod_two]
  rcases Nat.mod_two_eq_zero_or_one (a / 2 ^ g) with h | h <;> rw [h] <;> rfl
theorem bI_t : bI true = nI 1 := rfl
theorem bI_f : bI false = nI 0 := rfl
theorem bI_eq1 {b : Bool} : bI b = nI 1 ↔ b = true := by cases b <;> decide
theorem bI_eq0 {b : Bool} : bI b = 0 ↔ b = false := by cases b <;> decide
/-- comparing a number from the machine with its natural -/
theorem nJ_eq0 {a : Nat} (h : a < 2 ^ 31) : nI a = 0 ↔ a = 0 := by
  rw [show (0 : Int32) = nI 0 from rfl, nI_eq h (by decide)]
theorem nJ_le {a b : Nat} (ha : a < 2 ^ 31) (hb : b < 2 ^ 31) : nI a ≤ nI b ↔ a ≤ b := nI_leI ha hb
theorem nJ_lt {a b : Nat} (ha : a < 2 ^ 31) (hb : b < 2 ^ 31) : nI a < nI b ↔ a < b := nI_ltI ha hb
theorem nJ_and_lt {a b k : Nat} (h : b < k) : a &&& b < k := Nat.lt_of_le_of_lt Nat.and_le_right h
