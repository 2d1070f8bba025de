/-! numbers of the small machine -/
theorem qlcmp_lt {x y : Int} : qlcmp x y < 0 ↔ x < y := by unfold qlcmp; split <;> (try split) <;> omega
theorem qlcmp_le {x y : Int} : qlcmp x y ≤ 0 ↔ x ≤ y := by unfold qlcmp; split <;> (try split) <;> omega
theorem qlcmp_eq {x y : Int} : qlcmp x y = 0 ↔ x = y := by unfold qlcmp; split <;> (try split) <;> omega
theorem qlcmp_gt {x y : Int} : 0 < qlcmp x y ↔ y < x := by unfold qlcmp; split <;> (try split) <;> omega
theorem qlcmp_ge {x y : Int} : 0 ≤ qlcmp x y ↔ y ≤ x := by unfold qlcmp; split <;> (try split) <;> omega
theorem qR_of {x : Int} (h1 : -2147483648 ≤ x) (h2 : x < 2147483648) : qR x := ⟨h1, h2⟩
theorem qRL_of {x : Int} (h1 : -9223372036854775808 ≤ x) (h2 : x < 9223372036854775808) : qRL x := ⟨h1, h2⟩
theorem qi_nat {n : Nat} : Int32.ofInt (n : Int) = nI n := Int32.ofInt_eq_ofNat
theorem qn_toInt {n : Nat} (h : n < 2147483648) : (nI n).toInt = n := nI_toInt (by omega)
theorem q_and {a b : Nat} (ha : a < 2147483648) : qand a b = ((a &&& b : Nat) : Int) := by
  unfold qand
  rw [qi_nat, qi_nat]
  have e : nI a &&& nI b = nI (a &&& b) := by
    apply Int32.toBitVec.inj
    show (nI a).toBitVec &&& (nI b).toBitVec = (nI (a &&& b)).toBitVec
    apply BitVec.eq_of_toNat_eq
    show ((BitVec.ofNat 32 a) &&& (BitVec.ofNat 32 b)).toNat = (BitVec.ofNat 32 (a &&& b)).toNat
    simp only [BitVec.toNat_and, BitVec.toNat_ofNat]
    rw [Nat.and_mod_two_pow]
  rw [e, qn_toInt (Nat.lt_of_le_of_lt Nat.and_le_left ha)]
theorem q_or {a b : Nat} (ha : a < 2147483648) (hb : b < 2147483648) : qor a b = ((a ||| b : Nat) : Int) := by
  unfold qor
  rw [qi_nat, qi_nat]
  have e : nI a ||| nI b = nI (a ||| b) := by
    apply Int32.toBitVec.inj
    show (nI a).toBitVec ||| (nI b).toBitVec = (nI (a ||| b)).toBitVec
    apply BitVec.eq_of_toNat_eq
    show ((BitVec.ofNat 32 a) ||| (BitVec.ofNat 32 b)).toNat = (BitVec.ofNat 32 (a ||| b)).toNat
    simp only [BitVec.toNat_or, BitVec.toNat_ofNat]
    rw [Nat.or_mod_two_pow]
  have : a ||| b < 2 ^ 31 := Nat.or_lt_two_pow (by omega) (by omega)
  rw [e, qn_toInt (by omega)]
theorem q_xor {a b : Nat} (ha : a < 2147483648) (hb : b < 2147483648) : qxor a b = ((a ^^^ b : Nat) : Int) := by
  unfold qxor
  rw [qi_nat, qi_nat]
  have e : nI a ^^^ nI b = nI (a ^^^ b) := by
    apply Int32.toBitVec.inj
    show (nI a).toBitVec ^^^ (nI b).toBitVec = (nI (a ^^^ b)).toBitVec
    apply BitVec.eq_of_toNat_eq
    show ((BitVec.ofNat 32 a) ^^^ (BitVec.ofNat 32 b)).toNat = (BitVec.ofNat 32 (a ^^^ b)).toNat
    simp only [BitVec.toNat_xor, BitVec.toNat_ofNat]
    rw [Nat.xor_mod_two_pow]
  have : a ^^^ b < 2 ^ 31 := Nat.xor_lt_two_pow (by omega) (by omega)
  rw [e, qn_toInt (by omega)]
theorem q_sh31 : ∀ k, k < 31 → ((nI k &&& 31).toBitVec.smod 32).toNat = k := by decide
theorem q_shl {a k : Nat} (hk : k < 31) (ha : a * 2 ^ k < 2147483648) : qshl a k = ((a * 2 ^ k : Nat) : Int) := by
  unfold qshl
  rw [qi_nat, qi_nat, pk_shlN (nI k &&& 31) k (q_sh31 k hk) (by omega), qn_toInt ha]
theorem q_shr {a k : Nat} (ha : a < 2147483648) (hk : k < 31) : qshr a k = ((a / 2 ^ k : Nat) : Int) := by
  unfold qshr
  rw [qi_nat, qi_nat, pk_shrN (by omega) (nI k &&& 31) k (q_sh31 k hk), qn_toInt (Nat.lt_of_le_of_lt (Nat.div_le_self _ _) ha)]
/-- a bit of a set -/
theorem q_bit {a k : Nat} (ha : a < 2147483648) (hk : k < 31) : qand (qshr a k) 1 = if a.testBit k then 1 else 0 := by
  rw [q_shr ha hk]
  have h1 : qand ((a / 2 ^ k : Nat) : Int) ((1 : Nat) : Int) = ((a / 2 ^ k &&& 1 : Nat) : Int) := q_and (Nat.lt_of_le_of_lt (Nat.div_le_self _ _) ha)
  rw [show (1 : Int) = ((1 : Nat) : Int) from rfl, h1, Nat.and_one_is_mod]
  have h2 : a.testBit k = decide (a / 2 ^ k % 2 = 1) := Nat.testBit_eq_decide_div_mod_eq
  rw [h2]
  by_cases h : a / 2 ^ k % 2 = 1
  · simp [h]
  · have : a / 2 ^ k % 2 = 0 := by omega
    simp [this]
theorem q_one {k : Nat} (hk : k < 31) : qshl 1 k = ((2 ^ k : Nat) : Int) := by
  have h : (2 : Nat) ^ k < 2 ^ 31 := Nat.pow_lt_pow_right (by decide) hk
  have := q_shl (a := 1) hk (by omega)
  rw [Nat.one_mul] at this
  exact this
