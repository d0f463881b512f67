/-! bits of longs (the rows wb_ are the kit's, pasted) -/
theorem wb_tb (n : Nat) : (lN n).toBitVec = BitVec.ofNat 64 n := rfl
theorem wb_inj {a b : Int64} (h : a.toBitVec = b.toBitVec) : a = b := Int64.toBitVec_inj.mp h
theorem wb_tn {n : Nat} (h : n < 2 ^ 64) : (lN n).toBitVec.toNat = n := by rw [wb_tb, BitVec.toNat_ofNat, Nat.mod_eq_of_lt h]
theorem wb_of (x : Int64) : ∃ n, n < 2 ^ 64 ∧ x = lN n := ⟨x.toBitVec.toNat, x.toBitVec.isLt, wb_inj (by rw [wb_tb]; simp)⟩
theorem wb_of32 (x : Int32) : ∃ n, n < 2 ^ 32 ∧ x = nI n := ⟨x.toBitVec.toNat, x.toBitVec.isLt, Int32.toBitVec_inj.mp (by show _ = BitVec.ofNat 32 _; simp)⟩
theorem wb_c : ∀ k, k < 64 → ((nI k).toInt64 &&& 63) = lN k := by decide +kernel
theorem wb_cu : ∀ k, k < 64 → ((nI k).toInt64.toUInt64 &&& Int64.toUInt64 63) = UInt64.ofNat k := by decide +kernel
theorem wb_sm : ∀ k, k < 64 → (BitVec.ofNat 64 k).smod 64 = BitVec.ofNat 64 k := by decide +kernel
theorem wb_pw {a b : Nat} (h : a ≤ b) : 2 ^ b = 2 ^ a * 2 ^ (b - a) := by rw [← Nat.pow_add]; congr 1; omega
theorem wb_lt2 {a b : Nat} (h : a < b) : 2 ^ a < 2 ^ b := Nat.pow_lt_pow_right (by decide) h
theorem wb_mod (n : Nat) : lN n = lN (n % 2 ^ 64) := wb_inj (by rw [wb_tb, wb_tb]; apply BitVec.eq_of_toNat_eq; rw [BitVec.toNat_ofNat, BitVec.toNat_ofNat, Nat.mod_mod])
theorem wb_shr {n k : Nat} (hn : n < 2 ^ 64) (hk : k < 64) : ((lN n).toUInt64 >>> ((nI k).toInt64.toUInt64 &&& Int64.toUInt64 63)).toInt64 = lN (n / 2 ^ k) := by
  rw [wb_cu k hk]
  apply wb_inj
  apply BitVec.eq_of_toNat_eq
  show ((lN n).toUInt64 >>> UInt64.ofNat k).toNat = (BitVec.ofNat 64 _).toNat
  have h1 : (UInt64.ofNat k).toNat = k := by
    show (BitVec.ofNat 64 k).toNat = k
    rw [BitVec.toNat_ofNat, Nat.mod_eq_of_lt (by omega)]
  have h2 : (lN n).toUInt64.toNat = n := wb_tn hn
  rw [UInt64.toNat_shiftRight, h1, h2, Nat.mod_eq_of_lt hk, Nat.shiftRight_eq_div_pow, BitVec.toNat_ofNat, Nat.mod_eq_of_lt (Nat.lt_of_le_of_lt (Nat.div_le_self _ _) hn)]
theorem wb_shl (n : Nat) {k : Nat} (hk : k < 64) : lN n <<< ((nI k).toInt64 &&& 63) = lN (n * 2 ^ k) := by
  rw [wb_c k hk]
  apply wb_inj
  rw [Int64.toBitVec_shiftLeft, wb_tb, wb_tb, wb_tb, wb_sm k hk]
  apply BitVec.eq_of_toNat_eq
  rw [BitVec.shiftLeft_eq', BitVec.toNat_shiftLeft, BitVec.toNat_ofNat, BitVec.toNat_ofNat, BitVec.toNat_ofNat, Nat.mod_eq_of_lt (show k < 2 ^ 64 by omega), Nat.shiftLeft_eq, Nat.mul_mod, Nat.mod_mod, ← Nat.mul_mod]
theorem wb_and {a b : Nat} (ha : a < 2 ^ 64) (hb : b < 2 ^ 64) : lN a &&& lN b = lN (a &&& b) := by
  apply wb_inj
  rw [Int64.toBitVec_and, wb_tb, wb_tb, wb_tb]
  apply BitVec.eq_of_toNat_eq
  rw [BitVec.toNat_and, BitVec.toNat_ofNat, BitVec.toNat_ofNat, BitVec.toNat_ofNat, Nat.mod_eq_of_lt ha, Nat.mod_eq_of_lt hb, Nat.mod_eq_of_lt (Nat.and_lt_two_pow _ hb)]
theorem wb_or {a b : Nat} (ha : a < 2 ^ 64) (hb : b < 2 ^ 64) : lN a ||| lN b = lN (a ||| b) := by
  apply wb_inj
  rw [Int64.toBitVec_or, wb_tb, wb_tb, wb_tb]
  apply BitVec.eq_of_toNat_eq
  rw [BitVec.toNat_or, BitVec.toNat_ofNat, BitVec.toNat_ofNat, BitVec.toNat_ofNat, Nat.mod_eq_of_lt ha, Nat.mod_eq_of_lt hb, Nat.mod_eq_of_lt (Nat.or_lt_two_pow ha hb)]
theorem wb_mask {n k : Nat} (hn : n < 2 ^ 64) (hk : k < 64) : lN n &&& lN (2 ^ k - 1) = lN (n % 2 ^ k) := by
  rw [wb_and hn (by have := wb_lt2 hk; omega), Nat.and_two_pow_sub_one_eq_mod]
theorem wb_a1 {n : Nat} (hn : n < 2 ^ 64) : lN n &&& 1 = lN (n % 2) := wb_mask (k := 1) hn (by decide)
theorem wb_bit {n k : Nat} (hn : n < 2 ^ 64) (hk : k < 64) : ((lN n).toUInt64 >>> ((nI k).toInt64.toUInt64 &&& Int64.toUInt64 63)).toInt64 &&& 1 = lN (n / 2 ^ k % 2) := by
  rw [wb_shr hn hk, wb_a1 (Nat.lt_of_le_of_lt (Nat.div_le_self _ _) hn)]
theorem kL_or {a b : Nat} (ha : a < 18446744073709551616) (hb : b < 18446744073709551616) : kL (a : Int) ||| kL (b : Int) = kL ((a ||| b : Nat) : Int) := by
  rw [kL_nat, kL_nat, kL_nat]
  exact wb_or ha hb
theorem kL_and {a b : Nat} (ha : a < 18446744073709551616) (hb : b < 18446744073709551616) : kL (a : Int) &&& kL (b : Int) = kL ((a &&& b : Nat) : Int) := by
  rw [kL_nat, kL_nat, kL_nat]
  exact wb_and ha hb
theorem kL_ush {a m : Nat} (ha : a < 18446744073709551616) (hm : m < 64) : ((kL (a : Int)).toUInt64 >>> ((kI (m : Int)).toInt64.toUInt64 &&& Int64.toUInt64 63)).toInt64 = kL ((a / 2 ^ m : Nat) : Int) := by
  rw [kL_nat, kL_nat, kI_nat]
  exact wb_shr ha hm
theorem kL_and1 {a : Nat} (ha : a < 18446744073709551616) : kL (a : Int) &&& kL 1 = kL ((a % 2 : Nat) : Int) := by
  rw [kL_nat, kL_nat]
  exact wb_a1 ha
theorem kL_shl1 {m : Nat} (hm : m < 64) : kL 1 <<< ((kI (m : Int)).toInt64 &&& 63) = kL ((2 ^ m : Nat) : Int) := by
  rw [show kL 1 = lN 1 from kL_nat 1, kL_nat, kI_nat, wb_shl 1 hm, Nat.one_mul]
theorem kL_eqU {a b : Nat} (ha : a < 18446744073709551616) (hb : b < 18446744073709551616) : kL (a : Int) = kL (b : Int) ↔ a = b := by
  constructor
  · intro h
    have := congrArg (fun x => x.toBitVec.toNat) h
    simp only [kL_nat, wb_tn ha, wb_tn hb] at this
    exact this
  · intro h
    rw [h]
def lb (P : Nat → Bool) : Nat → Nat
  | 0 => 0
  | n + 1 => lb P n ||| (if P n then 2 ^ n else 0)
theorem lb_lt (P : Nat → Bool) : ∀ n, lb P n < 2 ^ n
  | 0 => by simp [lb]
  | n + 1 => by
    unfold lb
    refine Nat.or_lt_two_pow (Nat.lt_of_lt_of_le (lb_lt P n) (Nat.pow_le_pow_right (by omega) (by omega))) ?_
    split
    · exact Nat.pow_lt_pow_right (by omega) (by omega)
    · exact Nat.two_pow_pos _
theorem lb_test (P : Nat → Bool) (m : Nat) : ∀ n, (lb P n).testBit m = (decide (m < n) && P m)
  | 0 => by simp [lb]
  | n + 1 => by
    unfold lb
    rw [Nat.testBit_or, lb_test P m n]
    by_cases h : m = n
    · subst h
      by_cases hp : P m <;> simp [hp, Nat.testBit_two_pow_self]
    · by_cases hp : P n
      · rw [if_pos hp, Nat.testBit_two_pow_of_ne (fun e => h e.symm)]
        by_cases h2 : m < n
        · simp [h2, show m < n + 1 by omega]
        · simp [h2, show ¬ m < n + 1 by omega]
      · rw [if_neg hp]
        by_cases h2 : m < n
        · simp [h2, show m < n + 1 by omega]
        · simp [h2, show ¬ m < n + 1 by omega]
theorem p60 {n x : Nat} (hn : n ≤ 60) (h : x < 2 ^ n) : x < 1152921504606846976 := Nat.lt_of_lt_of_le h (Nat.pow_le_pow_right (n := 2) (by omega) hn)
