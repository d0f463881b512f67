/-! the JDK: bits of a long -/
def pop (v : Nat) : Nat → Nat
  | 0 => 0
  | n + 1 => pop v n + v / 2 ^ n % 2
theorem pop_add (v m : Nat) : ∀ n, pop v (m + n) = pop v m + pop (v / 2 ^ m) n
  | 0 => rfl
  | n + 1 => by
    show pop v (m + n) + v / 2 ^ (m + n) % 2 = pop v m + (pop (v / 2 ^ m) n + v / 2 ^ m / 2 ^ n % 2)
    rw [pop_add v m n, Nat.div_div_eq_div_mul, ← Nat.pow_add, Nat.add_assoc]
theorem pop_mod (v m : Nat) : ∀ n, n ≤ m → pop (v % 2 ^ m) n = pop v n
  | 0, _ => rfl
  | n + 1, h => by
    show pop (v % 2 ^ m) n + v % 2 ^ m / 2 ^ n % 2 = pop v n + v / 2 ^ n % 2
    rw [pop_mod v m n (by omega)]
    congr 1
    have h1 := Nat.testBit_mod_two_pow v m n
    rw [show decide (n < m) = true from decide_eq_true (by omega), Bool.true_and, Nat.testBit_eq_decide_div_mod_eq, Nat.testBit_eq_decide_div_mod_eq] at h1
    have h2 := Nat.mod_lt (v % 2 ^ m / 2 ^ n) (show 0 < 2 by omega)
    have h3 := Nat.mod_lt (v / 2 ^ n) (show 0 < 2 by omega)
    by_cases h4 : v / 2 ^ n % 2 = 1
    · rw [decide_eq_true h4] at h1
      have := of_decide_eq_true h1
      omega
    · rw [decide_eq_false h4] at h1
      have := of_decide_eq_false h1
      omega
def bl (v : Nat) : List Nat := (List.range 64).filter v.testBit
theorem bl_n (v : Nat) : ∀ n, ((List.range n).filter v.testBit).length = pop v n
  | 0 => rfl
  | n + 1 => by
    rw [List.range_succ, List.filter_append, List.length_append, bl_n v n]
    show _ = pop v n + v / 2 ^ n % 2
    congr 1
    have h3 := Nat.mod_lt (v / 2 ^ n) (show 0 < 2 by omega)
    by_cases h : v / 2 ^ n % 2 = 1
    · have : v.testBit n = true := by rw [Nat.testBit_eq_decide_div_mod_eq]; exact decide_eq_true h
      simp [this, h]
    · have : v.testBit n = false := by rw [Nat.testBit_eq_decide_div_mod_eq]; exact decide_eq_false h
      simp [this]; omega
theorem bl_len (v : Nat) : (bl v).length = pop v 64 := bl_n v 64
theorem bl_mem {v t : Nat} : t ∈ bl v ↔ t < 64 ∧ v.testBit t = true := by
  unfold bl
  rw [List.mem_filter, List.mem_range]
theorem bl_0 {v : Nat} (hv : v < 18446744073709551616) (h : bl v = []) : v = 0 := by
  apply Nat.eq_of_testBit_eq
  intro i
  rw [Nat.zero_testBit]
  rcases Nat.lt_or_ge i 64 with h1 | h1
  · cases hb : v.testBit i with
    | false => rfl
    | true =>
      have : i ∈ bl v := bl_mem.mpr ⟨h1, hb⟩
      rw [h] at this
      cases this
  · exact Nat.testBit_lt_two_pow (Nat.lt_of_lt_of_le hv (Nat.pow_le_pow_right (n := 2) (by omega) h1))
theorem fil_cons {p q : Nat → Bool} {t : Nat} (hp : p t = true) (h0 : ∀ j, j < t → p j = false) (hq : ∀ j, q j = (p j && decide (j ≠ t))) : ∀ n, (List.range (t + 1 + n)).filter p = t :: (List.range (t + 1 + n)).filter q
  | 0 => by
    rw [Nat.add_zero, List.range_succ, List.filter_append, List.filter_append]
    have h1 : (List.range t).filter p = [] := List.filter_eq_nil_iff.mpr fun j hj => by rw [h0 j (List.mem_range.mp hj)]; decide
    have h2 : (List.range t).filter q = [] := List.filter_eq_nil_iff.mpr fun j hj => by rw [hq, h0 j (List.mem_range.mp hj)]; simp
    rw [h1, h2]
    simp [hp, hq]
  | n + 1 => by
    rw [← Nat.add_assoc, List.range_succ, List.filter_append, List.filter_append, fil_cons hp h0 hq n, List.cons_append]
    congr 2
    have : q (t + 1 + n) = p (t + 1 + n) := by rw [hq, show decide (t + 1 + n ≠ t) = true from decide_eq_true (by omega), Bool.and_true]
    simp [List.filter, this]
/-- v's lowest bit is t -/
def lowB (v t : Nat) : Prop := v.testBit t = true ∧ ∀ j, j < t → v.testBit j = false
theorem low_split {v t : Nat} (h : lowB v t) : v = 2 ^ (t + 1) * (v / 2 ^ (t + 1)) + 2 ^ t := by
  have h1 : v % 2 ^ (t + 1) = 2 ^ t := by
    apply Nat.eq_of_testBit_eq
    intro j
    rw [Nat.testBit_mod_two_pow, Nat.testBit_two_pow]
    rcases Nat.lt_trichotomy j t with h2 | h2 | h2
    · rw [h.2 j h2, Bool.and_false]; exact (decide_eq_false (by omega)).symm
    · subst h2; rw [h.1]; simp
    · rw [show decide (j < t + 1) = false from decide_eq_false (by omega), Bool.false_and]; exact (decide_eq_false (by omega)).symm
  have := Nat.div_add_mod v (2 ^ (t + 1))
  omega
theorem low_pred {v t : Nat} (h : lowB v t) (j : Nat) : (v - 1).testBit j = if j < t then true else if j = t then false else v.testBit j := by
  have h1 := low_split h
  have hp := Nat.two_pow_pos t
  have h2 : v - 1 = 2 ^ (t + 1) * (v / 2 ^ (t + 1)) + (2 ^ t - 1) := by omega
  have h3 : 2 ^ (t + 1) = 2 * 2 ^ t := by rw [Nat.pow_succ]; omega
  rw [h2, Nat.testBit_two_pow_mul_add _ (by omega)]
  have h4 : v.testBit j = if j < t + 1 then (2 ^ t).testBit j else (v / 2 ^ (t + 1)).testBit (j - (t + 1)) := by
    conv => lhs; rw [h1]
    exact Nat.testBit_two_pow_mul_add _ (by omega) _
  rcases Nat.lt_trichotomy j t with h5 | h5 | h5
  · rw [if_pos (show j < t + 1 by omega), if_pos h5, Nat.testBit_two_pow_sub_one]; exact decide_eq_true h5
  · rw [if_pos (show j < t + 1 by omega), if_neg (show ¬ j < t by omega), if_pos h5, Nat.testBit_two_pow_sub_one]; exact decide_eq_false (by omega)
  · rw [if_neg (show ¬ j < t + 1 by omega), if_neg (show ¬ j < t by omega), if_neg (show ¬ j = t by omega), h4, if_neg (show ¬ j < t + 1 by omega)]
theorem low_and {v t : Nat} (h : lowB v t) (j : Nat) : (v &&& (v - 1)).testBit j = (v.testBit j && decide (j ≠ t)) := by
  rw [Nat.testBit_and, low_pred h]
  rcases Nat.lt_trichotomy j t with h5 | h5 | h5
  · rw [h.2 j h5, Bool.false_and, Bool.false_and]
  · rw [if_neg (by omega), if_pos h5, Bool.and_false, show decide (j ≠ t) = false from decide_eq_false (by omega), Bool.and_false]
  · rw [if_neg (by omega), if_neg (by omega), Bool.and_self, show decide (j ≠ t) = true from decide_eq_true (by omega), Bool.and_true]
theorem bl_cons {v t : Nat} (h : lowB v t) (ht : t < 64) : bl v = t :: bl (v &&& (v - 1)) := by
  have := fil_cons (p := v.testBit) (q := (v &&& (v - 1)).testBit) h.1 h.2 (fun j => low_and h j) (63 - t)
  rw [show t + 1 + (63 - t) = 64 by omega] at this
  exact this
theorem bl_low {v : Nat} (hv : v < 18446744073709551616) (h : ¬ v = 0) : ∃ t, t < 64 ∧ lowB v t := by
  cases hf : fnd v.testBit 64 with
  | none =>
    have h1 := fnd_spec0 hf
    refine absurd (bl_0 hv ?_) h
    exact List.filter_eq_nil_iff.mpr fun j hj => by rw [h1 j (List.mem_range.mp hj)]; decide
  | some t =>
    obtain ⟨h1, h2, h3⟩ := fnd_spec hf
    exact ⟨t, h1, h2, h3⟩
theorem and_lt {a b n : Nat} (h : a < n) : a &&& b < n := Nat.lt_of_le_of_lt Nat.and_le_left h
def nw (y : Nat) : Nat := if 4 < y then 2 + (1 + y / 4 / 2) else 1 + y / 2
def nv (y : Nat) : Nat := if 16 < y then 4 + nw (y / 16) else nw y
def nu (y : Nat) : Nat := if 256 < y then 8 + nv (y / 256) else nv y
def nt (y : Nat) : Nat := if 65536 < y then 16 + nu (y / 65536) else nu y
theorem nt_ok : ∀ t, t < 32 → 1 ≤ t → nt (2 ^ t - 1) = t := by decide +kernel
theorem kI_low {v t : Nat} (hv : v < 4294967296) (ht : t < 32) (h : lowB v t) : (kI (v : Int) ^^^ kI (-1)) &&& (kI (v : Int) - kI 1) = kI ((2 ^ t - 1 : Nat) : Int) := by
  have hs := low_split h
  have hp := Nat.two_pow_pos t
  have h1 : kI (v : Int) - kI 1 = nI (v - 1) := by rw [kI_sub, show (v : Int) - 1 = ((v - 1 : Nat) : Int) by omega, kI_nat]
  have hq : 2 ^ t < 2 ^ 32 := Nat.pow_lt_pow_right (by omega) ht
  rw [h1, kI_nat, kI_nat]
  apply Int32.toBitVec_inj.mp
  rw [Int32.toBitVec_and, Int32.toBitVec_xor]
  apply BitVec.eq_of_getLsbD_eq
  intro i hi
  have e1 : ∀ n : Nat, (nI n).toBitVec = BitVec.ofNat 32 n := fun n => rfl
  have e2 : (kI (-1)).toBitVec = BitVec.allOnes 32 := by decide
  rw [BitVec.getLsbD_and, BitVec.getLsbD_xor, e1, e1, e1, e2, BitVec.getLsbD_ofNat, BitVec.getLsbD_ofNat, BitVec.getLsbD_ofNat, BitVec.getLsbD_allOnes, show decide (i < 32) = true from decide_eq_true hi, Bool.true_and, Bool.true_and, Bool.true_and, low_pred h, Nat.testBit_two_pow_sub_one]
  rcases Nat.lt_trichotomy i t with h5 | h5 | h5
  · rw [h.2 i h5, if_pos h5]; simp; exact h5
  · rw [if_neg (by omega), if_pos h5, Bool.and_false]; exact (decide_eq_false (by omega)).symm
  · rw [if_neg (by omega), if_neg (by omega), show decide (i < t) = false from decide_eq_false (by omega)]; cases v.testBit i <;> rfl
theorem kI_ushN {v : Nat} (hv : v < 4294967296) {m : Int} (s : Nat) (hs : s < 32) (hm : m = (s : Int)) : ((kI (v : Int)).toUInt32 >>> ((kI m).toUInt32 &&& Int32.toUInt32 31)).toInt32 = kI ((v / 2 ^ s : Nat) : Int) := by
  rw [kI_nat, kI_nat, hm, kI_nat]
  have h : ∀ s, s < 32 → (((nI s).toUInt32 &&& Int32.toUInt32 31).toBitVec % 32).toNat = s := by decide +kernel
  exact pk_ushrN hv (nI s) s (h s hs)
theorem kL_l2im {v : Nat} (hv : v < 18446744073709551616) : (kL (v : Int)).toInt32 = kI ((v % 4294967296 : Nat) : Int) := by
  rw [kL_l2i, kI_nat, kI_nat]
  apply Int32.toBitVec_inj.mp
  show BitVec.ofNat 32 v = BitVec.ofNat 32 (v % 4294967296)
  apply BitVec.eq_of_toNat_eq
  rw [BitVec.toNat_ofNat, BitVec.toNat_ofNat]
  omega

set_option maxRecDepth 100000 in
set_option maxHeartbeats 500000 in
theorem c_ntzI (v t : Nat) (hv : v < 4294967296) (ht : t < 32) (h : lowB v t) : CT mJ6_numberOfTrailingZeros_0f7a4 0 0 [vI (v : Int)] [] (fun r w => r = some (vI (t : Int)) ∧ w = []) := by
  refine CT.intro rfl (Nat.le_of_ble_eq_true rfl) ?_
  generalize hPost : (fun r w => r = some (vI (t : Int)) ∧ w = [] : MP) = Post
  have hPo : ∀ rr ww, (fun r w => r = some (vI (t : Int)) ∧ w = [] : MP) rr ww → Post rr ww := by rw [← hPost]; exact fun _ _ h => h
  clear hPost
  obtain ⟨y, hy⟩ : ∃ y, y = 2 ^ t - 1 := ⟨_, rfl⟩
  have hpw : 2 ^ t ≤ 2147483648 := Nat.pow_le_pow_right (n := 2) (by omega) (show t ≤ 31 by omega)
  have hyb : y ≤ 2147483647 := by omega
  show WM mJ6_numberOfTrailingZeros_0f7a4 0 0 Post 0 0 [(0, vI (v : Int))] [] [] 0 0
  refine sq_ok rfl [(.iload_n 0, 0, 0, 0), (.iconst (-1), 0, 0, 0), (.ixor, 0, 0, 0), (.iload_n 0, 0, 0, 0), (.iconst 1, 0, 0, 0), (.isub, 0, 0, 0), (.iand, 0, 0, 0)] 0 _ _ _ _ _ (by decide +kernel) ?_
  show WM mJ6_numberOfTrailingZeros_0f7a4 0 0 Post 0 7 [(0, vI (v : Int))] [.int (((kI (v : Int)) ^^^ (kI (-1))) &&& ((kI (v : Int)) - (kI 1)))] [] 0 0
  have e1 : (((kI (v : Int)) ^^^ (kI (-1))) &&& ((kI (v : Int)) - (kI 1))) = kI (y : Int) := by rw [hy]; exact kI_low hv ht h
  rw [e1]
  refine sq_ok rfl [(.istore_n 0, 0, 0, 0), (.iload_n 0, 0, 0, 0), (.ifCond .gt 8, 0, 0, 0)] 7 _ _ _ _ _ (by decide +kernel) ?_
  show (kI 0 < kI (y : Int) → WM mJ6_numberOfTrailingZeros_0f7a4 0 0 Post 0 17 [(0, vI (y : Int))] [] [] 0 0) ∧ (¬ kI 0 < kI (y : Int) → WM mJ6_numberOfTrailingZeros_0f7a4 0 0 Post 0 12 [(0, vI (y : Int))] [] [] 0 0)
  refine ⟨fun c9 => ?_, fun c9 => ?_⟩
  · 
    rw [kI_lt (by omega)] at c9
    refine sq_ok rfl [(.iconst 1, 0, 0, 0), (.istore_n 1, 0, 0, 0), (.iload_n 0, 0, 0, 0), (.ldc_w 264, 0, 0, 65536), (.if_icmp .le 11, 0, 0, 0)] 17 _ _ _ _ _ (by decide +kernel) ?_
    show (kI (y : Int) ≤ kI 65536 → WM mJ6_numberOfTrailingZeros_0f7a4 0 0 Post 0 34 [(0, vI (y : Int)), (1, vI 1)] [] [] 0 0) ∧ (¬ kI (y : Int) ≤ kI 65536 → WM mJ6_numberOfTrailingZeros_0f7a4 0 0 Post 0 26 [(0, vI (y : Int)), (1, vI 1)] [] [] 0 0)
    refine ⟨fun c23 => ?_, fun c23 => ?_⟩
    · 
      rw [kI_le (by omega)] at c23
      refine sq_ok rfl [(.iload_n 0, 0, 0, 0), (.sipush 256, 0, 0, 0), (.if_icmp .le 11, 0, 0, 0)] 34 _ _ _ _ _ (by decide +kernel) ?_
      show (kI (y : Int) ≤ kI 256 → WM mJ6_numberOfTrailingZeros_0f7a4 0 0 Post 0 49 [(0, vI (y : Int)), (1, vI 1)] [] [] 0 0) ∧ (¬ kI (y : Int) ≤ kI 256 → WM mJ6_numberOfTrailingZeros_0f7a4 0 0 Post 0 41 [(0, vI (y : Int)), (1, vI 1)] [] [] 0 0)
      refine ⟨fun c38 => ?_, fun c38 => ?_⟩
      · 
        rw [kI_le (by omega)] at c38
        refine sq_ok rfl [(.iload_n 0, 0, 0, 0), (.bipush 16, 0, 0, 0), (.if_icmp .le 10, 0, 0, 0)] 49 _ _ _ _ _ (by decide +kernel) ?_
        show (kI (y : Int) ≤ kI 16 → WM mJ6_numberOfTrailingZeros_0f7a4 0 0 Post 0 62 [(0, vI (y : Int)), (1, vI 1)] [] [] 0 0) ∧ (¬ kI (y : Int) ≤ kI 16 → WM mJ6_numberOfTrailingZeros_0f7a4 0 0 Post 0 55 [(0, vI (y : Int)), (1, vI 1)] [] [] 0 0)
        refine ⟨fun c52 => ?_, fun c52 => ?_⟩
        · 
          rw [kI_le (by omega)] at c52
          refine sq_ok rfl [(.iload_n 0, 0, 0, 0), (.iconst 4, 0, 0, 0), (.if_icmp .le 10, 0, 0, 0)] 62 _ _ _ _ _ (by decide +kernel) ?_
          show (kI (y : Int) ≤ kI 4 → WM mJ6_numberOfTrailingZeros_0f7a4 0 0 Post 0 74 [(0, vI (y : Int)), (1, vI 1)] [] [] 0 0) ∧ (¬ kI (y : Int) ≤ kI 4 → WM mJ6_numberOfTrailingZeros_0f7a4 0 0 Post 0 67 [(0, vI (y : Int)), (1, vI 1)] [] [] 0 0)
          refine ⟨fun c64 => ?_, fun c64 => ?_⟩
          · 
            rw [kI_le (by omega)] at c64
            refine sq_ok rfl [(.iload_n 1, 0, 0, 0), (.iload_n 0, 0, 0, 0), (.iconst 1, 0, 0, 0), (.iushr, 0, 0, 0)] 74 _ _ _ _ _ (by decide +kernel) ?_
            show WM mJ6_numberOfTrailingZeros_0f7a4 0 0 Post 0 78 [(0, vI (y : Int)), (1, vI 1)] [.int (((kI (y : Int)).toUInt32 >>> ((kI 1).toUInt32 &&& Int32.toUInt32 31)).toInt32), vI 1] [] 0 0
            have e7 : ((kI (y : Int)).toUInt32 >>> ((kI 1).toUInt32 &&& Int32.toUInt32 31)).toInt32 = kI (((y / 2) : Nat) : Int) := by exact kI_ushN (by omega) 1 (by omega) rfl
            rw [e7]
            refine sq_ok rfl [(.iadd, 0, 0, 0), (.ireturn, 0, 0, 0)] 78 _ _ _ _ _ (by decide +kernel) ?_
            show ((0 ≤ 0 ∧ 0 ≤ 0) ∧ Post (some (.int ((kI 1) + (kI (((y / 2) : Nat) : Int))))) [])
            have e8 : ((kI 1) + (kI (((y / 2) : Nat) : Int))) = kI (((1 + (y / 2)) : Nat) : Int) := by first | (simp only [kI_add, kI_sub, kI_mul]; done) | (simp only [kI_add, kI_sub, kI_mul]; rfl)
            rw [e8]
            refine ⟨⟨Nat.le_refl _, Nat.le_refl _⟩, hPo _ _ ?_⟩
            refine ⟨congrArg (fun q : Nat => some (vI (q : Int))) ?_, rfl⟩
            have ht1 : 1 ≤ t := by (cases t with | zero => (rw [Nat.pow_zero] at hy; omega) | succ t => omega)
            have hn := nt_ok t ht ht1
            rw [← hy] at hn
            rw [← hn]
            unfold nt nu nv nw
            (repeat' split) <;> omega
          · 
            rw [kI_le (by omega)] at c64
            refine sq_ok rfl [(.iinc 1 2, 0, 0, 0), (.iload_n 0, 0, 0, 0), (.iconst 2, 0, 0, 0), (.iushr, 0, 0, 0)] 67 _ _ _ _ _ (by decide +kernel) ?_
            show WM mJ6_numberOfTrailingZeros_0f7a4 0 0 Post 0 73 [(0, vI (y : Int)), (1, .int ((kI 1) + (kI 2)))] [.int (((kI (y : Int)).toUInt32 >>> ((kI 2).toUInt32 &&& Int32.toUInt32 31)).toInt32)] [] 0 0
            have e9 : ((kI (y : Int)).toUInt32 >>> ((kI 2).toUInt32 &&& Int32.toUInt32 31)).toInt32 = kI (((y / 4) : Nat) : Int) := by exact kI_ushN (by omega) 2 (by omega) rfl
            rw [e9]
            have e10 : ((kI 1) + (kI 2)) = kI (((1 + 2) : Nat) : Int) := by first | (simp only [kI_add, kI_sub, kI_mul]; done) | (simp only [kI_add, kI_sub, kI_mul]; rfl)
            rw [e10]
            refine sq_ok rfl [(.istore_n 0, 0, 0, 0), (.iload_n 1, 0, 0, 0), (.iload_n 0, 0, 0, 0), (.iconst 1, 0, 0, 0), (.iushr, 0, 0, 0)] 73 _ _ _ _ _ (by decide +kernel) ?_
            show WM mJ6_numberOfTrailingZeros_0f7a4 0 0 Post 0 78 [(0, vI (((y / 4) : Nat) : Int)), (1, vI (((1 + 2) : Nat) : Int))] [.int (((kI (((y / 4) : Nat) : Int)).toUInt32 >>> ((kI 1).toUInt32 &&& Int32.toUInt32 31)).toInt32), vI (((1 + 2) : Nat) : Int)] [] 0 0
            have e11 : ((kI (((y / 4) : Nat) : Int)).toUInt32 >>> ((kI 1).toUInt32 &&& Int32.toUInt32 31)).toInt32 = kI ((((y / 4) / 2) : Nat) : Int) := by exact kI_ushN (by omega) 1 (by omega) rfl
            rw [e11]
            refine sq_ok rfl [(.iadd, 0, 0, 0), (.ireturn, 0, 0, 0)] 78 _ _ _ _ _ (by decide +kernel) ?_
            show ((0 ≤ 0 ∧ 0 ≤ 0) ∧ Post (some (.int ((kI (((1 + 2) : Nat) : Int)) + (kI ((((y / 4) / 2) : Nat) : Int))))) [])
            have e12 : ((kI (((1 + 2) : Nat) : Int)) + (kI ((((y / 4) / 2) : Nat) : Int))) = kI ((((1 + 2) + ((y / 4) / 2)) : Nat) : Int) := by first | (simp only [kI_add, kI_sub, kI_mul]; done) | (simp only [kI_add, kI_sub, kI_mul]; rfl)
            rw [e12]
            refine ⟨⟨Nat.le_refl _, Nat.le_refl _⟩, hPo _ _ ?_⟩
            refine ⟨congrArg (fun q : Nat => some (vI (q : Int))) ?_, rfl⟩
            have ht1 : 1 ≤ t := by (cases t with | zero => (rw [Nat.pow_zero] at hy; omega) | succ t => omega)
            have hn := nt_ok t ht ht1
            rw [← hy] at hn
            rw [← hn]
            unfold nt nu nv nw
            (repeat' split) <;> omega
        · 
          rw [kI_le (by omega)] at c52
          refine sq_ok rfl [(.iinc 1 4, 0, 0, 0), (.iload_n 0, 0, 0, 0), (.iconst 4, 0, 0, 0), (.iushr, 0, 0, 0)] 55 _ _ _ _ _ (by decide +kernel) ?_
          show WM mJ6_numberOfTrailingZeros_0f7a4 0 0 Post 0 61 [(0, vI (y : Int)), (1, .int ((kI 1) + (kI 4)))] [.int (((kI (y : Int)).toUInt32 >>> ((kI 4).toUInt32 &&& Int32.toUInt32 31)).toInt32)] [] 0 0
          have e13 : ((kI (y : Int)).toUInt32 >>> ((kI 4).toUInt32 &&& Int32.toUInt32 31)).toInt32 = kI (((y / 16) : Nat) : Int) := by exact kI_ushN (by omega) 4 (by omega) rfl
          rw [e13]
          have e14 : ((kI 1) + (kI 4)) = kI (((1 + 4) : Nat) : Int) := by first | (simp only [kI_add, kI_sub, kI_mul]; done) | (simp only [kI_add, kI_sub, kI_mul]; rfl)
          rw [e14]
          refine sq_ok rfl [(.istore_n 0, 0, 0, 0), (.iload_n 0, 0, 0, 0), (.iconst 4, 0, 0, 0), (.if_icmp .le 10, 0, 0, 0)] 61 _ _ _ _ _ (by decide +kernel) ?_
          show (kI (((y / 16) : Nat) : Int) ≤ kI 4 → WM mJ6_numberOfTrailingZeros_0f7a4 0 0 Post 0 74 [(0, vI (((y / 16) : Nat) : Int)), (1, vI (((1 + 4) : Nat) : Int))] [] [] 0 0) ∧ (¬ kI (((y / 16) : Nat) : Int) ≤ kI 4 → WM mJ6_numberOfTrailingZeros_0f7a4 0 0 Post 0 67 [(0, vI (((y / 16) : Nat) : Int)), (1, vI (((1 + 4) : Nat) : Int))] [] [] 0 0)
          refine ⟨fun c64 => ?_, fun c64 => ?_⟩
          · 
            rw [kI_le (by omega)] at c64
            refine sq_ok rfl [(.iload_n 1, 0, 0, 0), (.iload_n 0, 0, 0, 0), (.iconst 1, 0, 0, 0), (.iushr, 0, 0, 0)] 74 _ _ _ _ _ (by decide +kernel) ?_
            show WM mJ6_numberOfTrailingZeros_0f7a4 0 0 Post 0 78 [(0, vI (((y / 16) : Nat) : Int)), (1, vI (((1 + 4) : Nat) : Int))] [.int (((kI (((y / 16) : Nat) : Int)).toUInt32 >>> ((kI 1).toUInt32 &&& Int32.toUInt32 31)).toInt32), vI (((1 + 4) : Nat) : Int)] [] 0 0
            have e16 : ((kI (((y / 16) : Nat) : Int)).toUInt32 >>> ((kI 1).toUInt32 &&& Int32.toUInt32 31)).toInt32 = kI ((((y / 16) / 2) : Nat) : Int) := by exact kI_ushN (by omega) 1 (by omega) rfl
            rw [e16]
            refine sq_ok rfl [(.iadd, 0, 0, 0), (.ireturn, 0, 0, 0)] 78 _ _ _ _ _ (by decide +kernel) ?_
            show ((0 ≤ 0 ∧ 0 ≤ 0) ∧ Post (some (.int ((kI (((1 + 4) : Nat) : Int)) + (kI ((((y / 16) / 2) : Nat) : Int))))) [])
            have e17 : ((kI (((1 + 4) : Nat) : Int)) + (kI ((((y / 16) / 2) : Nat) : Int))) = kI ((((1 + 4) + ((y / 16) / 2)) : Nat) : Int) := by first | (simp only [kI_add, kI_sub, kI_mul]; done) | (simp only [kI_add, kI_sub, kI_mul]; rfl)
            rw [e17]
            refine ⟨⟨Nat.le_refl _, Nat.le_refl _⟩, hPo _ _ ?_⟩
            refine ⟨congrArg (fun q : Nat => some (vI (q : Int))) ?_, rfl⟩
            have ht1 : 1 ≤ t := by (cases t with | zero => (rw [Nat.pow_zero] at hy; omega) | succ t => omega)
            have hn := nt_ok t ht ht1
            rw [← hy] at hn
            rw [← hn]
            unfold nt nu nv nw
            (repeat' split) <;> omega
          · 
            rw [kI_le (by omega)] at c64
            refine sq_ok rfl [(.iinc 1 2, 0, 0, 0), (.iload_n 0, 0, 0, 0), (.iconst 2, 0, 0, 0), (.iushr, 0, 0, 0)] 67 _ _ _ _ _ (by decide +kernel) ?_
            show WM mJ6_numberOfTrailingZeros_0f7a4 0 0 Post 0 73 [(0, vI (((y / 16) : Nat) : Int)), (1, .int ((kI (((1 + 4) : Nat) : Int)) + (kI 2)))] [.int (((kI (((y / 16) : Nat) : Int)).toUInt32 >>> ((kI 2).toUInt32 &&& Int32.toUInt32 31)).toInt32)] [] 0 0
            have e18 : ((kI (((y / 16) : Nat) : Int)).toUInt32 >>> ((kI 2).toUInt32 &&& Int32.toUInt32 31)).toInt32 = kI ((((y / 16) / 4) : Nat) : Int) := by exact kI_ushN (by omega) 2 (by omega) rfl
            rw [e18]
            have e19 : ((kI (((1 + 4) : Nat) : Int)) + (kI 2)) = kI ((((1 + 4) + 2) : Nat) : Int) := by first | (simp only [kI_add, kI_sub, kI_mul]; done) | (simp only [kI_add, kI_sub, kI_mul]; rfl)
            rw [e19]
            refine sq_ok rfl [(.istore_n 0, 0, 0, 0), (.iload_n 1, 0, 0, 0), (.iload_n 0, 0, 0, 0), (.iconst 1, 0, 0, 0), (.iushr, 0, 0, 0)] 73 _ _ _ _ _ (by decide +kernel) ?_
            show WM mJ6_numberOfTrailingZeros_0f7a4 0 0 Post 0 78 [(0, vI ((((y / 16) / 4) : Nat) : Int)), (1, vI ((((1 + 4) + 2) : Nat) : Int))] [.int (((kI ((((y / 16) / 4) : Nat) : Int)).toUInt32 >>> ((kI 1).toUInt32 &&& Int32.toUInt32 31)).toInt32), vI ((((1 + 4) + 2) : Nat) : Int)] [] 0 0
            have e20 : ((kI ((((y / 16) / 4) : Nat) : Int)).toUInt32 >>> ((kI 1).toUInt32 &&& Int32.toUInt32 31)).toInt32 = kI (((((y / 16) / 4) / 2) : Nat) : Int) := by exact kI_ushN (by omega) 1 (by omega) rfl
            rw [e20]
            refine sq_ok rfl [(.iadd, 0, 0, 0), (.ireturn, 0, 0, 0)] 78 _ _ _ _ _ (by decide +kernel) ?_
            show ((0 ≤ 0 ∧ 0 ≤ 0) ∧ Post (some (.int ((kI ((((1 + 4) + 2) : Nat) : Int)) + (kI (((((y / 16) / 4) / 2) : Nat) : Int))))) [])
            have e21 : ((kI ((((1 + 4) + 2) : Nat) : Int)) + (kI (((((y / 16) / 4) / 2) : Nat) : Int))) = kI (((((1 + 4) + 2) + (((y / 16) / 4) / 2)) : Nat) : Int) := by first | (simp only [kI_add, kI_sub, kI_mul]; done) | (simp only [kI_add, kI_sub, kI_mul]; rfl)
            rw [e21]
            refine ⟨⟨Nat.le_refl _, Nat.le_refl _⟩, hPo _ _ ?_⟩
            refine ⟨congrArg (fun q : Nat => some (vI (q : Int))) ?_, rfl⟩
            have ht1 : 1 ≤ t := by (cases t with | zero => (rw [Nat.pow_zero] at hy; omega) | succ t => omega)
            have hn := nt_ok t ht ht1
            rw [← hy] at hn
            rw [← hn]
            unfold nt nu nv nw
            (repeat' split) <;> omega
      · 
        rw [kI_le (by omega)] at c38
        refine sq_ok rfl [(.iinc 1 8, 0, 0, 0), (.iload_n 0, 0, 0, 0), (.bipush 8, 0, 0, 0), (.iushr, 0, 0, 0)] 41 _ _ _ _ _ (by decide +kernel) ?_
        show WM mJ6_numberOfTrailingZeros_0f7a4 0 0 Post 0 48 [(0, vI (y : Int)), (1, .int ((kI 1) + (kI 8)))] [.int (((kI (y : Int)).toUInt32 >>> ((kI 8).toUInt32 &&& Int32.toUInt32 31)).toInt32)] [] 0 0
        have e22 : ((kI (y : Int)).toUInt32 >>> ((kI 8).toUInt32 &&& Int32.toUInt32 31)).toInt32 = kI (((y / 256) : Nat) : Int) := by exact kI_ushN (by omega) 8 (by omega) rfl
        rw [e22]
        have e23 : ((kI 1) + (kI 8)) = kI (((1 + 8) : Nat) : Int) := by first | (simp only [kI_add, kI_sub, kI_mul]; done) | (simp only [kI_add, kI_sub, kI_mul]; rfl)
        rw [e23]
        refine sq_ok rfl [(.istore_n 0, 0, 0, 0), (.iload_n 0, 0, 0, 0), (.bipush 16, 0, 0, 0), (.if_icmp .le 10, 0, 0, 0)] 48 _ _ _ _ _ (by decide +kernel) ?_
        show (kI (((y / 256) : Nat) : Int) ≤ kI 16 → WM mJ6_numberOfTrailingZeros_0f7a4 0 0 Post 0 62 [(0, vI (((y / 256) : Nat) : Int)), (1, vI (((1 + 8) : Nat) : Int))] [] [] 0 0) ∧ (¬ kI (((y / 256) : Nat) : Int) ≤ kI 16 → WM mJ6_numberOfTrailingZeros_0f7a4 0 0 Post 0 55 [(0, vI (((y / 256) : Nat) : Int)), (1, vI (((1 + 8) : Nat) : Int))] [] [] 0 0)
        refine ⟨fun c52 => ?_, fun c52 => ?_⟩
        · 
          rw [kI_le (by omega)] at c52
          refine sq_ok rfl [(.iload_n 0, 0, 0, 0), (.iconst 4, 0, 0, 0), (.if_icmp .le 10, 0, 0, 0)] 62 _ _ _ _ _ (by decide +kernel) ?_
          show (kI (((y / 256) : Nat) : Int) ≤ kI 4 → WM mJ6_numberOfTrailingZeros_0f7a4 0 0 Post 0 74 [(0, vI (((y / 256) : Nat) : Int)), (1, vI (((1 + 8) : Nat) : Int))] [] [] 0 0) ∧ (¬ kI (((y / 256) : Nat) : Int) ≤ kI 4 → WM mJ6_numberOfTrailingZeros_0f7a4 0 0 Post 0 67 [(0, vI (((y / 256) : Nat) : Int)), (1, vI (((1 + 8) : Nat) : Int))] [] [] 0 0)
          refine ⟨fun c64 => ?_, fun c64 => ?_⟩
          · 
            rw [kI_le (by omega)] at c64
            refine sq_ok rfl [(.iload_n 1, 0, 0, 0), (.iload_n 0, 0, 0, 0), (.iconst 1, 0, 0, 0), (.iushr, 0, 0, 0)] 74 _ _ _ _ _ (by decide +kernel) ?_
            show WM mJ6_numberOfTrailingZeros_0f7a4 0 0 Post 0 78 [(0, vI (((y / 256) : Nat) : Int)), (1, vI (((1 + 8) : Nat) : Int))] [.int (((kI (((y / 256) : Nat) : Int)).toUInt32 >>> ((kI 1).toUInt32 &&& Int32.toUInt32 31)).toInt32), vI (((1 + 8) : Nat) : Int)] [] 0 0
            have e26 : ((kI (((y / 256) : Nat) : Int)).toUInt32 >>> ((kI 1).toUInt32 &&& Int32.toUInt32 31)).toInt32 = kI ((((y / 256) / 2) : Nat) : Int) := by exact kI_ushN (by omega) 1 (by omega) rfl
            rw [e26]
            refine sq_ok rfl [(.iadd, 0, 0, 0), (.ireturn, 0, 0, 0)] 78 _ _ _ _ _ (by decide +kernel) ?_
            show ((0 ≤ 0 ∧ 0 ≤ 0) ∧ Post (some (.int ((kI (((1 + 8) : Nat) : Int)) + (kI ((((y / 256) / 2) : Nat) : Int))))) [])
            have e27 : ((kI (((1 + 8) : Nat) : Int)) + (kI ((((y / 256) / 2) : Nat) : Int))) = kI ((((1 + 8) + ((y / 256) / 2)) : Nat) : Int) := by first | (simp only [kI_add, kI_sub, kI_mul]; done) | (simp only [kI_add, kI_sub, kI_mul]; rfl)
            rw [e27]
            refine ⟨⟨Nat.le_refl _, Nat.le_refl _⟩, hPo _ _ ?_⟩
            refine ⟨congrArg (fun q : Nat => some (vI (q : Int))) ?_, rfl⟩
            have ht1 : 1 ≤ t := by (cases t with | zero => (rw [Nat.pow_zero] at hy; omega) | succ t => omega)
            have hn := nt_ok t ht ht1
            rw [← hy] at hn
            rw [← hn]
            unfold nt nu nv nw
            (repeat' split) <;> omega
          · 
            rw [kI_le (by omega)] at c64
            refine sq_ok rfl [(.iinc 1 2, 0, 0, 0), (.iload_n 0, 0, 0, 0), (.iconst 2, 0, 0, 0), (.iushr, 0, 0, 0)] 67 _ _ _ _ _ (by decide +kernel) ?_
            show WM mJ6_numberOfTrailingZeros_0f7a4 0 0 Post 0 73 [(0, vI (((y / 256) : Nat) : Int)), (1, .int ((kI (((1 + 8) : Nat) : Int)) + (kI 2)))] [.int (((kI (((y / 256) : Nat) : Int)).toUInt32 >>> ((kI 2).toUInt32 &&& Int32.toUInt32 31)).toInt32)] [] 0 0
            have e28 : ((kI (((y / 256) : Nat) : Int)).toUInt32 >>> ((kI 2).toUInt32 &&& Int32.toUInt32 31)).toInt32 = kI ((((y / 256) / 4) : Nat) : Int) := by exact kI_ushN (by omega) 2 (by omega) rfl
            rw [e28]
            have e29 : ((kI (((1 + 8) : Nat) : Int)) + (kI 2)) = kI ((((1 + 8) + 2) : Nat) : Int) := by first | (simp only [kI_add, kI_sub, kI_mul]; done) | (simp only [kI_add, kI_sub, kI_mul]; rfl)
            rw [e29]
            refine sq_ok rfl [(.istore_n 0, 0, 0, 0), (.iload_n 1, 0, 0, 0), (.iload_n 0, 0, 0, 0), (.iconst 1, 0, 0, 0), (.iushr, 0, 0, 0)] 73 _ _ _ _ _ (by decide +kernel) ?_
            show WM mJ6_numberOfTrailingZeros_0f7a4 0 0 Post 0 78 [(0, vI ((((y / 256) / 4) : Nat) : Int)), (1, vI ((((1 + 8) + 2) : Nat) : Int))] [.int (((kI ((((y / 256) / 4) : Nat) : Int)).toUInt32 >>> ((kI 1).toUInt32 &&& Int32.toUInt32 31)).toInt32), vI ((((1 + 8) + 2) : Nat) : Int)] [] 0 0
            have e30 : ((kI ((((y / 256) / 4) : Nat) : Int)).toUInt32 >>> ((kI 1).toUInt32 &&& Int32.toUInt32 31)).toInt32 = kI (((((y / 256) / 4) / 2) : Nat) : Int) := by exact kI_ushN (by omega) 1 (by omega) rfl
            rw [e30]
            refine sq_ok rfl [(.iadd, 0, 0, 0), (.ireturn, 0, 0, 0)] 78 _ _ _ _ _ (by decide +kernel) ?_
            show ((0 ≤ 0 ∧ 0 ≤ 0) ∧ Post (some (.int ((kI ((((1 + 8) + 2) : Nat) : Int)) + (kI (((((y / 256) / 4) / 2) : Nat) : Int))))) [])
            have e31 : ((kI ((((1 + 8) + 2) : Nat) : Int)) + (kI (((((y / 256) / 4) / 2) : Nat) : Int))) = kI (((((1 + 8) + 2) + (((y / 256) / 4) / 2)) : Nat) : Int) := by first | (simp only [kI_add, kI_sub, kI_mul]; done) | (simp only [kI_add, kI_sub, kI_mul]; rfl)
            rw [e31]
            refine ⟨⟨Nat.le_refl _, Nat.le_refl _⟩, hPo _ _ ?_⟩
            refine ⟨congrArg (fun q : Nat => some (vI (q : Int))) ?_, rfl⟩
            have ht1 : 1 ≤ t := by (cases t with | zero => (rw [Nat.pow_zero] at hy; omega) | succ t => omega)
            have hn := nt_ok t ht ht1
            rw [← hy] at hn
            rw [← hn]
            unfold nt nu nv nw
            (repeat' split) <;> omega
        · 
          rw [kI_le (by omega)] at c52
          refine sq_ok rfl [(.iinc 1 4, 0, 0, 0), (.iload_n 0, 0, 0, 0), (.iconst 4, 0, 0, 0), (.iushr, 0, 0, 0)] 55 _ _ _ _ _ (by decide +kernel) ?_
          show WM mJ6_numberOfTrailingZeros_0f7a4 0 0 Post 0 61 [(0, vI (((y / 256) : Nat) : Int)), (1, .int ((kI (((1 + 8) : Nat) : Int)) + (kI 4)))] [.int (((kI (((y / 256) : Nat) : Int)).toUInt32 >>> ((kI 4).toUInt32 &&& Int32.toUInt32 31)).toInt32)] [] 0 0
          have e32 : ((kI (((y / 256) : Nat) : Int)).toUInt32 >>> ((kI 4).toUInt32 &&& Int32.toUInt32 31)).toInt32 = kI ((((y / 256) / 16) : Nat) : Int) := by exact kI_ushN (by omega) 4 (by omega) rfl
          rw [e32]
          have e33 : ((kI (((1 + 8) : Nat) : Int)) + (kI 4)) = kI ((((1 + 8) + 4) : Nat) : Int) := by first | (simp only [kI_add, kI_sub, kI_mul]; done) | (simp only [kI_add, kI_sub, kI_mul]; rfl)
          rw [e33]
          refine sq_ok rfl [(.istore_n 0, 0, 0, 0), (.iload_n 0, 0, 0, 0), (.iconst 4, 0, 0, 0), (.if_icmp .le 10, 0, 0, 0)] 61 _ _ _ _ _ (by decide +kernel) ?_
          show (kI ((((y / 256) / 16) : Nat) : Int) ≤ kI 4 → WM mJ6_numberOfTrailingZeros_0f7a4 0 0 Post 0 74 [(0, vI ((((y / 256) / 16) : Nat) : Int)), (1, vI ((((1 + 8) + 4) : Nat) : Int))] [] [] 0 0) ∧ (¬ kI ((((y / 256) / 16) : Nat) : Int) ≤ kI 4 → WM mJ6_numberOfTrailingZeros_0f7a4 0 0 Post 0 67 [(0, vI ((((y / 256) / 16) : Nat) : Int)), (1, vI ((((1 + 8) + 4) : Nat) : Int))] [] [] 0 0)
          refine ⟨fun c64 => ?_, fun c64 => ?_⟩
          · 
            rw [kI_le (by omega)] at c64
            refine sq_ok rfl [(.iload_n 1, 0, 0, 0), (.iload_n 0, 0, 0, 0), (.iconst 1, 0, 0, 0), (.iushr, 0, 0, 0)] 74 _ _ _ _ _ (by decide +kernel) ?_
            show WM mJ6_numberOfTrailingZeros_0f7a4 0 0 Post 0 78 [(0, vI ((((y / 256) / 16) : Nat) : Int)), (1, vI ((((1 + 8) + 4) : Nat) : Int))] [.int (((kI ((((y / 256) / 16) : Nat) : Int)).toUInt32 >>> ((kI 1).toUInt32 &&& Int32.toUInt32 31)).toInt32), vI ((((1 + 8) + 4) : Nat) : Int)] [] 0 0
            have e35 : ((kI ((((y / 256) / 16) : Nat) : Int)).toUInt32 >>> ((kI 1).toUInt32 &&& Int32.toUInt32 31)).toInt32 = kI (((((y / 256) / 16) / 2) : Nat) : Int) := by exact kI_ushN (by omega) 1 (by omega) rfl
            rw [e35]
            refine sq_ok rfl [(.iadd, 0, 0, 0), (.ireturn, 0, 0, 0)] 78 _ _ _ _ _ (by decide +kernel) ?_
            show ((0 ≤ 0 ∧ 0 ≤ 0) ∧ Post (some (.int ((kI ((((1 + 8) + 4) : Nat) : Int)) + (kI (((((y / 256) / 16) / 2) : Nat) : Int))))) [])
            have e36 : ((kI ((((1 + 8) + 4) : Nat) : Int)) + (kI (((((y / 256) / 16) / 2) : Nat) : Int))) = kI (((((1 + 8) + 4) + (((y / 256) / 16) / 2)) : Nat) : Int) := by first | (simp only [kI_add, kI_sub, kI_mul]; done) | (simp only [kI_add, kI_sub, kI_mul]; rfl)
            rw [e36]
            refine ⟨⟨Nat.le_refl _, Nat.le_refl _⟩, hPo _ _ ?_⟩
            refine ⟨congrArg (fun q : Nat => some (vI (q : Int))) ?_, rfl⟩
            have ht1 : 1 ≤ t := by (cases t with | zero => (rw [Nat.pow_zero] at hy; omega) | succ t => omega)
            have hn := nt_ok t ht ht1
            rw [← hy] at hn
            rw [← hn]
            unfold nt nu nv nw
            (repeat' split) <;> omega
          · 
            rw [kI_le (by omega)] at c64
            refine sq_ok rfl [(.iinc 1 2, 0, 0, 0), (.iload_n 0, 0, 0, 0), (.iconst 2, 0, 0, 0), (.iushr, 0, 0, 0)] 67 _ _ _ _ _ (by decide +kernel) ?_
            show WM mJ6_numberOfTrailingZeros_0f7a4 0 0 Post 0 73 [(0, vI ((((y / 256) / 16) : Nat) : Int)), (1, .int ((kI ((((1 + 8) + 4) : Nat) : Int)) + (kI 2)))] [.int (((kI ((((y / 256) / 16) : Nat) : Int)).toUInt32 >>> ((kI 2).toUInt32 &&& Int32.toUInt32 31)).toInt32)] [] 0 0
            have e37 : ((kI ((((y / 256) / 16) : Nat) : Int)).toUInt32 >>> ((kI 2).toUInt32 &&& Int32.toUInt32 31)).toInt32 = kI (((((y / 256) / 16) / 4) : Nat) : Int) := by exact kI_ushN (by omega) 2 (by omega) rfl
            rw [e37]
            have e38 : ((kI ((((1 + 8) + 4) : Nat) : Int)) + (kI 2)) = kI (((((1 + 8) + 4) + 2) : Nat) : Int) := by first | (simp only [kI_add, kI_sub, kI_mul]; done) | (simp only [kI_add, kI_sub, kI_mul]; rfl)
            rw [e38]
            refine sq_ok rfl [(.istore_n 0, 0, 0, 0), (.iload_n 1, 0, 0, 0), (.iload_n 0, 0, 0, 0), (.iconst 1, 0, 0, 0), (.iushr, 0, 0, 0)] 73 _ _ _ _ _ (by decide +kernel) ?_
            show WM mJ6_numberOfTrailingZeros_0f7a4 0 0 Post 0 78 [(0, vI (((((y / 256) / 16) / 4) : Nat) : Int)), (1, vI (((((1 + 8) + 4) + 2) : Nat) : Int))] [.int (((kI (((((y / 256) / 16) / 4) : Nat) : Int)).toUInt32 >>> ((kI 1).toUInt32 &&& Int32.toUInt32 31)).toInt32), vI (((((1 + 8) + 4) + 2) : Nat) : Int)] [] 0 0
            have e39 : ((kI (((((y / 256) / 16) / 4) : Nat) : Int)).toUInt32 >>> ((kI 1).toUInt32 &&& Int32.toUInt32 31)).toInt32 = kI ((((((y / 256) / 16) / 4) / 2) : Nat) : Int) := by exact kI_ushN (by omega) 1 (by omega) rfl
            rw [e39]
            refine sq_ok rfl [(.iadd, 0, 0, 0), (.ireturn, 0, 0, 0)] 78 _ _ _ _ _ (by decide +kernel) ?_
            show ((0 ≤ 0 ∧ 0 ≤ 0) ∧ Post (some (.int ((kI (((((1 + 8) + 4) + 2) : Nat) : Int)) + (kI ((((((y / 256) / 16) / 4) / 2) : Nat) : Int))))) [])
            have e40 : ((kI (((((1 + 8) + 4) + 2) : Nat) : Int)) + (kI ((((((y / 256) / 16) / 4) / 2) : Nat) : Int))) = kI ((((((1 + 8) + 4) + 2) + ((((y / 256) / 16) / 4) / 2)) : Nat) : Int) := by first | (simp only [kI_add, kI_sub, kI_mul]; done) | (simp only [kI_add, kI_sub, kI_mul]; rfl)
            rw [e40]
            refine ⟨⟨Nat.le_refl _, Nat.le_refl _⟩, hPo _ _ ?_⟩
            refine ⟨congrArg (fun q : Nat => some (vI (q : Int))) ?_, rfl⟩
            have ht1 : 1 ≤ t := by (cases t with | zero => (rw [Nat.pow_zero] at hy; omega) | succ t => omega)
            have hn := nt_ok t ht ht1
            rw [← hy] at hn
            rw [← hn]
            unfold nt nu nv nw
            (repeat' split) <;> omega
    · 
      rw [kI_le (by omega)] at c23
      refine sq_ok rfl [(.iinc 1 16, 0, 0, 0), (.iload_n 0, 0, 0, 0), (.bipush 16, 0, 0, 0), (.iushr, 0, 0, 0)] 26 _ _ _ _ _ (by decide +kernel) ?_
      show WM mJ6_numberOfTrailingZeros_0f7a4 0 0 Post 0 33 [(0, vI (y : Int)), (1, .int ((kI 1) + (kI 16)))] [.int (((kI (y : Int)).toUInt32 >>> ((kI 16).toUInt32 &&& Int32.toUInt32 31)).toInt32)] [] 0 0
      have e41 : ((kI (y : Int)).toUInt32 >>> ((kI 16).toUInt32 &&& Int32.toUInt32 31)).toInt32 = kI (((y / 65536) : Nat) : Int) := by exact kI_ushN (by omega) 16 (by omega) rfl
      rw [e41]
      have e42 : ((kI 1) + (kI 16)) = kI (((1 + 16) : Nat) : Int) := by first | (simp only [kI_add, kI_sub, kI_mul]; done) | (simp only [kI_add, kI_sub, kI_mul]; rfl)
      rw [e42]
      refine sq_ok rfl [(.istore_n 0, 0, 0, 0), (.iload_n 0, 0, 0, 0), (.sipush 256, 0, 0, 0), (.if_icmp .le 11, 0, 0, 0)] 33 _ _ _ _ _ (by decide +kernel) ?_
      show (kI (((y / 65536) : Nat) : Int) ≤ kI 256 → WM mJ6_numberOfTrailingZeros_0f7a4 0 0 Post 0 49 [(0, vI (((y / 65536) : Nat) : Int)), (1, vI (((1 + 16) : Nat) : Int))] [] [] 0 0) ∧ (¬ kI (((y / 65536) : Nat) : Int) ≤ kI 256 → WM mJ6_numberOfTrailingZeros_0f7a4 0 0 Post 0 41 [(0, vI (((y / 65536) : Nat) : Int)), (1, vI (((1 + 16) : Nat) : Int))] [] [] 0 0)
      refine ⟨fun c38 => ?_, fun c38 => ?_⟩
      · 
        rw [kI_le (by omega)] at c38
        refine sq_ok rfl [(.iload_n 0, 0, 0, 0), (.bipush 16, 0, 0, 0), (.if_icmp .le 10, 0, 0, 0)] 49 _ _ _ _ _ (by decide +kernel) ?_
        show (kI (((y / 65536) : Nat) : Int) ≤ kI 16 → WM mJ6_numberOfTrailingZeros_0f7a4 0 0 Post 0 62 [(0, vI (((y / 65536) : Nat) : Int)), (1, vI (((1 + 16) : Nat) : Int))] [] [] 0 0) ∧ (¬ kI (((y / 65536) : Nat) : Int) ≤ kI 16 → WM mJ6_numberOfTrailingZeros_0f7a4 0 0 Post 0 55 [(0, vI (((y / 65536) : Nat) : Int)), (1, vI (((1 + 16) : Nat) : Int))] [] [] 0 0)
        refine ⟨fun c52 => ?_, fun c52 => ?_⟩
        · 
          rw [kI_le (by omega)] at c52
          refine sq_ok rfl [(.iload_n 0, 0, 0, 0), (.iconst 4, 0, 0, 0), (.if_icmp .le 10, 0, 0, 0)] 62 _ _ _ _ _ (by decide +kernel) ?_
          show (kI (((y / 65536) : Nat) : Int) ≤ kI 4 → WM mJ6_numberOfTrailingZeros_0f7a4 0 0 Post 0 74 [(0, vI (((y / 65536) : Nat) : Int)), (1, vI (((1 + 16) : Nat) : Int))] [] [] 0 0) ∧ (¬ kI (((y / 65536) : Nat) : Int) ≤ kI 4 → WM mJ6_numberOfTrailingZeros_0f7a4 0 0 Post 0 67 [(0, vI (((y / 65536) : Nat) : Int)), (1, vI (((1 + 16) : Nat) : Int))] [] [] 0 0)
          refine ⟨fun c64 => ?_, fun c64 => ?_⟩
          · 
            rw [kI_le (by omega)] at c64
            refine sq_ok rfl [(.iload_n 1, 0, 0, 0), (.iload_n 0, 0, 0, 0), (.iconst 1, 0, 0, 0), (.iushr, 0, 0, 0)] 74 _ _ _ _ _ (by decide +kernel) ?_
            show WM mJ6_numberOfTrailingZeros_0f7a4 0 0 Post 0 78 [(0, vI (((y / 65536) : Nat) : Int)), (1, vI (((1 + 16) : Nat) : Int))] [.int (((kI (((y / 65536) : Nat) : Int)).toUInt32 >>> ((kI 1).toUInt32 &&& Int32.toUInt32 31)).toInt32), vI (((1 + 16) : Nat) : Int)] [] 0 0
            have e46 : ((kI (((y / 65536) : Nat) : Int)).toUInt32 >>> ((kI 1).toUInt32 &&& Int32.toUInt32 31)).toInt32 = kI ((((y / 65536) / 2) : Nat) : Int) := by exact kI_ushN (by omega) 1 (by omega) rfl
            rw [e46]
            refine sq_ok rfl [(.iadd, 0, 0, 0), (.ireturn, 0, 0, 0)] 78 _ _ _ _ _ (by decide +kernel) ?_
            show ((0 ≤ 0 ∧ 0 ≤ 0) ∧ Post (some (.int ((kI (((1 + 16) : Nat) : Int)) + (kI ((((y / 65536) / 2) : Nat) : Int))))) [])
            have e47 : ((kI (((1 + 16) : Nat) : Int)) + (kI ((((y / 65536) / 2) : Nat) : Int))) = kI ((((1 + 16) + ((y / 65536) / 2)) : Nat) : Int) := by first | (simp only [kI_add, kI_sub, kI_mul]; done) | (simp only [kI_add, kI_sub, kI_mul]; rfl)
            rw [e47]
            refine ⟨⟨Nat.le_refl _, Nat.le_refl _⟩, hPo _ _ ?_⟩
            refine ⟨congrArg (fun q : Nat => some (vI (q : Int))) ?_, rfl⟩
            have ht1 : 1 ≤ t := by (cases t with | zero => (rw [Nat.pow_zero] at hy; omega) | succ t => omega)
            have hn := nt_ok t ht ht1
            rw [← hy] at hn
            rw [← hn]
            unfold nt nu nv nw
            (repeat' split) <;> omega
          · 
            rw [kI_le (by omega)] at c64
            refine sq_ok rfl [(.iinc 1 2, 0, 0, 0), (.iload_n 0, 0, 0, 0), (.iconst 2, 0, 0, 0), (.iushr, 0, 0, 0)] 67 _ _ _ _ _ (by decide +kernel) ?_
            show WM mJ6_numberOfTrailingZeros_0f7a4 0 0 Post 0 73 [(0, vI (((y / 65536) : Nat) : Int)), (1, .int ((kI (((1 + 16) : Nat) : Int)) + (kI 2)))] [.int (((kI (((y / 65536) : Nat) : Int)).toUInt32 >>> ((kI 2).toUInt32 &&& Int32.toUInt32 31)).toInt32)] [] 0 0
            have e48 : ((kI (((y / 65536) : Nat) : Int)).toUInt32 >>> ((kI 2).toUInt32 &&& Int32.toUInt32 31)).toInt32 = kI ((((y / 65536) / 4) : Nat) : Int) := by exact kI_ushN (by omega) 2 (by omega) rfl
            rw [e48]
            have e49 : ((kI (((1 + 16) : Nat) : Int)) + (kI 2)) = kI ((((1 + 16) + 2) : Nat) : Int) := by first | (simp only [kI_add, kI_sub, kI_mul]; done) | (simp only [kI_add, kI_sub, kI_mul]; rfl)
            rw [e49]
            refine sq_ok rfl [(.istore_n 0, 0, 0, 0), (.iload_n 1, 0, 0, 0), (.iload_n 0, 0, 0, 0), (.iconst 1, 0, 0, 0), (.iushr, 0, 0, 0)] 73 _ _ _ _ _ (by decide +kernel) ?_
            show WM mJ6_numberOfTrailingZeros_0f7a4 0 0 Post 0 78 [(0, vI ((((y / 65536) / 4) : Nat) : Int)), (1, vI ((((1 + 16) + 2) : Nat) : Int))] [.int (((kI ((((y / 65536) / 4) : Nat) : Int)).toUInt32 >>> ((kI 1).toUInt32 &&& Int32.toUInt32 31)).toInt32), vI ((((1 + 16) + 2) : Nat) : Int)] [] 0 0
            have e50 : ((kI ((((y / 65536) / 4) : Nat) : Int)).toUInt32 >>> ((kI 1).toUInt32 &&& Int32.toUInt32 31)).toInt32 = kI (((((y / 65536) / 4) / 2) : Nat) : Int) := by exact kI_ushN (by omega) 1 (by omega) rfl
            rw [e50]
            refine sq_ok rfl [(.iadd, 0, 0, 0), (.ireturn, 0, 0, 0)] 78 _ _ _ _ _ (by decide +kernel) ?_
            show ((0 ≤ 0 ∧ 0 ≤ 0) ∧ Post (some (.int ((kI ((((1 + 16) + 2) : Nat) : Int)) + (kI (((((y / 65536) / 4) / 2) : Nat) : Int))))) [])
            have e51 : ((kI ((((1 + 16) + 2) : Nat) : Int)) + (kI (((((y / 65536) / 4) / 2) : Nat) : Int))) = kI (((((1 + 16) + 2) + (((y / 65536) / 4) / 2)) : Nat) : Int) := by first | (simp only [kI_add, kI_sub, kI_mul]; done) | (simp only [kI_add, kI_sub, kI_mul]; rfl)
            rw [e51]
            refine ⟨⟨Nat.le_refl _, Nat.le_refl _⟩, hPo _ _ ?_⟩
            refine ⟨congrArg (fun q : Nat => some (vI (q : Int))) ?_, rfl⟩
            have ht1 : 1 ≤ t := by (cases t with | zero => (rw [Nat.pow_zero] at hy; omega) | succ t => omega)
            have hn := nt_ok t ht ht1
            rw [← hy] at hn
            rw [← hn]
            unfold nt nu nv nw
            (repeat' split) <;> omega
        · 
          rw [kI_le (by omega)] at c52
          refine sq_ok rfl [(.iinc 1 4, 0, 0, 0), (.iload_n 0, 0, 0, 0), (.iconst 4, 0, 0, 0), (.iushr, 0, 0, 0)] 55 _ _ _ _ _ (by decide +kernel) ?_
          show WM mJ6_numberOfTrailingZeros_0f7a4 0 0 Post 0 61 [(0, vI (((y / 65536) : Nat) : Int)), (1, .int ((kI (((1 + 16) : Nat) : Int)) + (kI 4)))] [.int (((kI (((y / 65536) : Nat) : Int)).toUInt32 >>> ((kI 4).toUInt32 &&& Int32.toUInt32 31)).toInt32)] [] 0 0
          have e52 : ((kI (((y / 65536) : Nat) : Int)).toUInt32 >>> ((kI 4).toUInt32 &&& Int32.toUInt32 31)).toInt32 = kI ((((y / 65536) / 16) : Nat) : Int) := by exact kI_ushN (by omega) 4 (by omega) rfl
          rw [e52]
          have e53 : ((kI (((1 + 16) : Nat) : Int)) + (kI 4)) = kI ((((1 + 16) + 4) : Nat) : Int) := by first | (simp only [kI_add, kI_sub, kI_mul]; done) | (simp only [kI_add, kI_sub, kI_mul]; rfl)
          rw [e53]
          refine sq_ok rfl [(.istore_n 0, 0, 0, 0), (.iload_n 0, 0, 0, 0), (.iconst 4, 0, 0, 0), (.if_icmp .le 10, 0, 0, 0)] 61 _ _ _ _ _ (by decide +kernel) ?_
          show (kI ((((y / 65536) / 16) : Nat) : Int) ≤ kI 4 → WM mJ6_numberOfTrailingZeros_0f7a4 0 0 Post 0 74 [(0, vI ((((y / 65536) / 16) : Nat) : Int)), (1, vI ((((1 + 16) + 4) : Nat) : Int))] [] [] 0 0) ∧ (¬ kI ((((y / 65536) / 16) : Nat) : Int) ≤ kI 4 → WM mJ6_numberOfTrailingZeros_0f7a4 0 0 Post 0 67 [(0, vI ((((y / 65536) / 16) : Nat) : Int)), (1, vI ((((1 + 16) + 4) : Nat) : Int))] [] [] 0 0)
          refine ⟨fun c64 => ?_, fun c64 => ?_⟩
          · 
            rw [kI_le (by omega)] at c64
            refine sq_ok rfl [(.iload_n 1, 0, 0, 0), (.iload_n 0, 0, 0, 0), (.iconst 1, 0, 0, 0), (.iushr, 0, 0, 0)] 74 _ _ _ _ _ (by decide +kernel) ?_
            show WM mJ6_numberOfTrailingZeros_0f7a4 0 0 Post 0 78 [(0, vI ((((y / 65536) / 16) : Nat) : Int)), (1, vI ((((1 + 16) + 4) : Nat) : Int))] [.int (((kI ((((y / 65536) / 16) : Nat) : Int)).toUInt32 >>> ((kI 1).toUInt32 &&& Int32.toUInt32 31)).toInt32), vI ((((1 + 16) + 4) : Nat) : Int)] [] 0 0
            have e55 : ((kI ((((y / 65536) / 16) : Nat) : Int)).toUInt32 >>> ((kI 1).toUInt32 &&& Int32.toUInt32 31)).toInt32 = kI (((((y / 65536) / 16) / 2) : Nat) : Int) := by exact kI_ushN (by omega) 1 (by omega) rfl
            rw [e55]
            refine sq_ok rfl [(.iadd, 0, 0, 0), (.ireturn, 0, 0, 0)] 78 _ _ _ _ _ (by decide +kernel) ?_
            show ((0 ≤ 0 ∧ 0 ≤ 0) ∧ Post (some (.int ((kI ((((1 + 16) + 4) : Nat) : Int)) + (kI (((((y / 65536) / 16) / 2) : Nat) : Int))))) [])
            have e56 : ((kI ((((1 + 16) + 4) : Nat) : Int)) + (kI (((((y / 65536) / 16) / 2) : Nat) : Int))) = kI (((((1 + 16) + 4) + (((y / 65536) / 16) / 2)) : Nat) : Int) := by first | (simp only [kI_add, kI_sub, kI_mul]; done) | (simp only [kI_add, kI_sub, kI_mul]; rfl)
            rw [e56]
            refine ⟨⟨Nat.le_refl _, Nat.le_refl _⟩, hPo _ _ ?_⟩
            refine ⟨congrArg (fun q : Nat => some (vI (q : Int))) ?_, rfl⟩
            have ht1 : 1 ≤ t := by (cases t with | zero => (rw [Nat.pow_zero] at hy; omega) | succ t => omega)
            have hn := nt_ok t ht ht1
            rw [← hy] at hn
            rw [← hn]
            unfold nt nu nv nw
            (repeat' split) <;> omega
          · 
            rw [kI_le (by omega)] at c64
            refine sq_ok rfl [(.iinc 1 2, 0, 0, 0), (.iload_n 0, 0, 0, 0), (.iconst 2, 0, 0, 0), (.iushr, 0, 0, 0)] 67 _ _ _ _ _ (by decide +kernel) ?_
            show WM mJ6_numberOfTrailingZeros_0f7a4 0 0 Post 0 73 [(0, vI ((((y / 65536) / 16) : Nat) : Int)), (1, .int ((kI ((((1 + 16) + 4) : Nat) : Int)) + (kI 2)))] [.int (((kI ((((y / 65536) / 16) : Nat) : Int)).toUInt32 >>> ((kI 2).toUInt32 &&& Int32.toUInt32 31)).toInt32)] [] 0 0
            have e57 : ((kI ((((y / 65536) / 16) : Nat) : Int)).toUInt32 >>> ((kI 2).toUInt32 &&& Int32.toUInt32 31)).toInt32 = kI (((((y / 65536) / 16) / 4) : Nat) : Int) := by exact kI_ushN (by omega) 2 (by omega) rfl
            rw [e57]
            have e58 : ((kI ((((1 + 16) + 4) : Nat) : Int)) + (kI 2)) = kI (((((1 + 16) + 4) + 2) : Nat) : Int) := by first | (simp only [kI_add, kI_sub, kI_mul]; done) | (simp only [kI_add, kI_sub, kI_mul]; rfl)
            rw [e58]
            refine sq_ok rfl [(.istore_n 0, 0, 0, 0), (.iload_n 1, 0, 0, 0), (.iload_n 0, 0, 0, 0), (.iconst 1, 0, 0, 0), (.iushr, 0, 0, 0)] 73 _ _ _ _ _ (by decide +kernel) ?_
            show WM mJ6_numberOfTrailingZeros_0f7a4 0 0 Post 0 78 [(0, vI (((((y / 65536) / 16) / 4) : Nat) : Int)), (1, vI (((((1 + 16) + 4) + 2) : Nat) : Int))] [.int (((kI (((((y / 65536) / 16) / 4) : Nat) : Int)).toUInt32 >>> ((kI 1).toUInt32 &&& Int32.toUInt32 31)).toInt32), vI (((((1 + 16) + 4) + 2) : Nat) : Int)] [] 0 0
            have e59 : ((kI (((((y / 65536) / 16) / 4) : Nat) : Int)).toUInt32 >>> ((kI 1).toUInt32 &&& Int32.toUInt32 31)).toInt32 = kI ((((((y / 65536) / 16) / 4) / 2) : Nat) : Int) := by exact kI_ushN (by omega) 1 (by omega) rfl
            rw [e59]
            refine sq_ok rfl [(.iadd, 0, 0, 0), (.ireturn, 0, 0, 0)] 78 _ _ _ _ _ (by decide +kernel) ?_
            show ((0 ≤ 0 ∧ 0 ≤ 0) ∧ Post (some (.int ((kI (((((1 + 16) + 4) + 2) : Nat) : Int)) + (kI ((((((y / 65536) / 16) / 4) / 2) : Nat) : Int))))) [])
            have e60 : ((kI (((((1 + 16) + 4) + 2) : Nat) : Int)) + (kI ((((((y / 65536) / 16) / 4) / 2) : Nat) : Int))) = kI ((((((1 + 16) + 4) + 2) + ((((y / 65536) / 16) / 4) / 2)) : Nat) : Int) := by first | (simp only [kI_add, kI_sub, kI_mul]; done) | (simp only [kI_add, kI_sub, kI_mul]; rfl)
            rw [e60]
            refine ⟨⟨Nat.le_refl _, Nat.le_refl _⟩, hPo _ _ ?_⟩
            refine ⟨congrArg (fun q : Nat => some (vI (q : Int))) ?_, rfl⟩
            have ht1 : 1 ≤ t := by (cases t with | zero => (rw [Nat.pow_zero] at hy; omega) | succ t => omega)
            have hn := nt_ok t ht ht1
            rw [← hy] at hn
            rw [← hn]
            unfold nt nu nv nw
            (repeat' split) <;> omega
      · 
        rw [kI_le (by omega)] at c38
        refine sq_ok rfl [(.iinc 1 8, 0, 0, 0), (.iload_n 0, 0, 0, 0), (.bipush 8, 0, 0, 0), (.iushr, 0, 0, 0)] 41 _ _ _ _ _ (by decide +kernel) ?_
        show WM mJ6_numberOfTrailingZeros_0f7a4 0 0 Post 0 48 [(0, vI (((y / 65536) : Nat) : Int)), (1, .int ((kI (((1 + 16) : Nat) : Int)) + (kI 8)))] [.int (((kI (((y / 65536) : Nat) : Int)).toUInt32 >>> ((kI 8).toUInt32 &&& Int32.toUInt32 31)).toInt32)] [] 0 0
        have e61 : ((kI (((y / 65536) : Nat) : Int)).toUInt32 >>> ((kI 8).toUInt32 &&& Int32.toUInt32 31)).toInt32 = kI ((((y / 65536) / 256) : Nat) : Int) := by exact kI_ushN (by omega) 8 (by omega) rfl
        rw [e61]
        have e62 : ((kI (((1 + 16) : Nat) : Int)) + (kI 8)) = kI ((((1 + 16) + 8) : Nat) : Int) := by first | (simp only [kI_add, kI_sub, kI_mul]; done) | (simp only [kI_add, kI_sub, kI_mul]; rfl)
        rw [e62]
        refine sq_ok rfl [(.istore_n 0, 0, 0, 0), (.iload_n 0, 0, 0, 0), (.bipush 16, 0, 0, 0), (.if_icmp .le 10, 0, 0, 0)] 48 _ _ _ _ _ (by decide +kernel) ?_
        show (kI ((((y / 65536) / 256) : Nat) : Int) ≤ kI 16 → WM mJ6_numberOfTrailingZeros_0f7a4 0 0 Post 0 62 [(0, vI ((((y / 65536) / 256) : Nat) : Int)), (1, vI ((((1 + 16) + 8) : Nat) : Int))] [] [] 0 0) ∧ (¬ kI ((((y / 65536) / 256) : Nat) : Int) ≤ kI 16 → WM mJ6_numberOfTrailingZeros_0f7a4 0 0 Post 0 55 [(0, vI ((((y / 65536) / 256) : Nat) : Int)), (1, vI ((((1 + 16) + 8) : Nat) : Int))] [] [] 0 0)
        refine ⟨fun c52 => ?_, fun c52 => ?_⟩
        · 
          rw [kI_le (by omega)] at c52
          refine sq_ok rfl [(.iload_n 0, 0, 0, 0), (.iconst 4, 0, 0, 0), (.if_icmp .le 10, 0, 0, 0)] 62 _ _ _ _ _ (by decide +kernel) ?_
          show (kI ((((y / 65536) / 256) : Nat) : Int) ≤ kI 4 → WM mJ6_numberOfTrailingZeros_0f7a4 0 0 Post 0 74 [(0, vI ((((y / 65536) / 256) : Nat) : Int)), (1, vI ((((1 + 16) + 8) : Nat) : Int))] [] [] 0 0) ∧ (¬ kI ((((y / 65536) / 256) : Nat) : Int) ≤ kI 4 → WM mJ6_numberOfTrailingZeros_0f7a4 0 0 Post 0 67 [(0, vI ((((y / 65536) / 256) : Nat) : Int)), (1, vI ((((1 + 16) + 8) : Nat) : Int))] [] [] 0 0)
          refine ⟨fun c64 => ?_, fun c64 => ?_⟩
          · 
            rw [kI_le (by omega)] at c64
            refine sq_ok rfl [(.iload_n 1, 0, 0, 0), (.iload_n 0, 0, 0, 0), (.iconst 1, 0, 0, 0), (.iushr, 0, 0, 0)] 74 _ _ _ _ _ (by decide +kernel) ?_
            show WM mJ6_numberOfTrailingZeros_0f7a4 0 0 Post 0 78 [(0, vI ((((y / 65536) / 256) : Nat) : Int)), (1, vI ((((1 + 16) + 8) : Nat) : Int))] [.int (((kI ((((y / 65536) / 256) : Nat) : Int)).toUInt32 >>> ((kI 1).toUInt32 &&& Int32.toUInt32 31)).toInt32), vI ((((1 + 16) + 8) : Nat) : Int)] [] 0 0
            have e65 : ((kI ((((y / 65536) / 256) : Nat) : Int)).toUInt32 >>> ((kI 1).toUInt32 &&& Int32.toUInt32 31)).toInt32 = kI (((((y / 65536) / 256) / 2) : Nat) : Int) := by exact kI_ushN (by omega) 1 (by omega) rfl
            rw [e65]
            refine sq_ok rfl [(.iadd, 0, 0, 0), (.ireturn, 0, 0, 0)] 78 _ _ _ _ _ (by decide +kernel) ?_
            show ((0 ≤ 0 ∧ 0 ≤ 0) ∧ Post (some (.int ((kI ((((1 + 16) + 8) : Nat) : Int)) + (kI (((((y / 65536) / 256) / 2) : Nat) : Int))))) [])
            have e66 : ((kI ((((1 + 16) + 8) : Nat) : Int)) + (kI (((((y / 65536) / 256) / 2) : Nat) : Int))) = kI (((((1 + 16) + 8) + (((y / 65536) / 256) / 2)) : Nat) : Int) := by first | (simp only [kI_add, kI_sub, kI_mul]; done) | (simp only [kI_add, kI_sub, kI_mul]; rfl)
            rw [e66]
            refine ⟨⟨Nat.le_refl _, Nat.le_refl _⟩, hPo _ _ ?_⟩
            refine ⟨congrArg (fun q : Nat => some (vI (q : Int))) ?_, rfl⟩
            have ht1 : 1 ≤ t := by (cases t with | zero => (rw [Nat.pow_zero] at hy; omega) | succ t => omega)
            have hn := nt_ok t ht ht1
            rw [← hy] at hn
            rw [← hn]
            unfold nt nu nv nw
            (repeat' split) <;> omega
          · 
            rw [kI_le (by omega)] at c64
            refine sq_ok rfl [(.iinc 1 2, 0, 0, 0), (.iload_n 0, 0, 0, 0), (.iconst 2, 0, 0, 0), (.iushr, 0, 0, 0)] 67 _ _ _ _ _ (by decide +kernel) ?_
            show WM mJ6_numberOfTrailingZeros_0f7a4 0 0 Post 0 73 [(0, vI ((((y / 65536) / 256) : Nat) : Int)), (1, .int ((kI ((((1 + 16) + 8) : Nat) : Int)) + (kI 2)))] [.int (((kI ((((y / 65536) / 256) : Nat) : Int)).toUInt32 >>> ((kI 2).toUInt32 &&& Int32.toUInt32 31)).toInt32)] [] 0 0
            have e67 : ((kI ((((y / 65536) / 256) : Nat) : Int)).toUInt32 >>> ((kI 2).toUInt32 &&& Int32.toUInt32 31)).toInt32 = kI (((((y / 65536) / 256) / 4) : Nat) : Int) := by exact kI_ushN (by omega) 2 (by omega) rfl
            rw [e67]
            have e68 : ((kI ((((1 + 16) + 8) : Nat) : Int)) + (kI 2)) = kI (((((1 + 16) + 8) + 2) : Nat) : Int) := by first | (simp only [kI_add, kI_sub, kI_mul]; done) | (simp only [kI_add, kI_sub, kI_mul]; rfl)
            rw [e68]
            refine sq_ok rfl [(.istore_n 0, 0, 0, 0), (.iload_n 1, 0, 0, 0), (.iload_n 0, 0, 0, 0), (.iconst 1, 0, 0, 0), (.iushr, 0, 0, 0)] 73 _ _ _ _ _ (by decide +kernel) ?_
            show WM mJ6_numberOfTrailingZeros_0f7a4 0 0 Post 0 78 [(0, vI (((((y / 65536) / 256) / 4) : Nat) : Int)), (1, vI (((((1 + 16) + 8) + 2) : Nat) : Int))] [.int (((kI (((((y / 65536) / 256) / 4) : Nat) : Int)).toUInt32 >>> ((kI 1).toUInt32 &&& Int32.toUInt32 31)).toInt32), vI (((((1 + 16) + 8) + 2) : Nat) : Int)] [] 0 0
            have e69 : ((kI (((((y / 65536) / 256) / 4) : Nat) : Int)).toUInt32 >>> ((kI 1).toUInt32 &&& Int32.toUInt32 31)).toInt32 = kI ((((((y / 65536) / 256) / 4) / 2) : Nat) : Int) := by exact kI_ushN (by omega) 1 (by omega) rfl
            rw [e69]
            refine sq_ok rfl [(.iadd, 0, 0, 0), (.ireturn, 0, 0, 0)] 78 _ _ _ _ _ (by decide +kernel) ?_
            show ((0 ≤ 0 ∧ 0 ≤ 0) ∧ Post (some (.int ((kI (((((1 + 16) + 8) + 2) : Nat) : Int)) + (kI ((((((y / 65536) / 256) / 4) / 2) : Nat) : Int))))) [])
            have e70 : ((kI (((((1 + 16) + 8) + 2) : Nat) : Int)) + (kI ((((((y / 65536) / 256) / 4) / 2) : Nat) : Int))) = kI ((((((1 + 16) + 8) + 2) + ((((y / 65536) / 256) / 4) / 2)) : Nat) : Int) := by first | (simp only [kI_add, kI_sub, kI_mul]; done) | (simp only [kI_add, kI_sub, kI_mul]; rfl)
            rw [e70]
            refine ⟨⟨Nat.le_refl _, Nat.le_refl _⟩, hPo _ _ ?_⟩
            refine ⟨congrArg (fun q : Nat => some (vI (q : Int))) ?_, rfl⟩
            have ht1 : 1 ≤ t := by (cases t with | zero => (rw [Nat.pow_zero] at hy; omega) | succ t => omega)
            have hn := nt_ok t ht ht1
            rw [← hy] at hn
            rw [← hn]
            unfold nt nu nv nw
            (repeat' split) <;> omega
        · 
          rw [kI_le (by omega)] at c52
          refine sq_ok rfl [(.iinc 1 4, 0, 0, 0), (.iload_n 0, 0, 0, 0), (.iconst 4, 0, 0, 0), (.iushr, 0, 0, 0)] 55 _ _ _ _ _ (by decide +kernel) ?_
          show WM mJ6_numberOfTrailingZeros_0f7a4 0 0 Post 0 61 [(0, vI ((((y / 65536) / 256) : Nat) : Int)), (1, .int ((kI ((((1 + 16) + 8) : Nat) : Int)) + (kI 4)))] [.int (((kI ((((y / 65536) / 256) : Nat) : Int)).toUInt32 >>> ((kI 4).toUInt32 &&& Int32.toUInt32 31)).toInt32)] [] 0 0
          have e71 : ((kI ((((y / 65536) / 256) : Nat) : Int)).toUInt32 >>> ((kI 4).toUInt32 &&& Int32.toUInt32 31)).toInt32 = kI (((((y / 65536) / 256) / 16) : Nat) : Int) := by exact kI_ushN (by omega) 4 (by omega) rfl
          rw [e71]
          have e72 : ((kI ((((1 + 16) + 8) : Nat) : Int)) + (kI 4)) = kI (((((1 + 16) + 8) + 4) : Nat) : Int) := by first | (simp only [kI_add, kI_sub, kI_mul]; done) | (simp only [kI_add, kI_sub, kI_mul]; rfl)
          rw [e72]
          refine sq_ok rfl [(.istore_n 0, 0, 0, 0), (.iload_n 0, 0, 0, 0), (.iconst 4, 0, 0, 0), (.if_icmp .le 10, 0, 0, 0)] 61 _ _ _ _ _ (by decide +kernel) ?_
          show (kI (((((y / 65536) / 256) / 16) : Nat) : Int) ≤ kI 4 → WM mJ6_numberOfTrailingZeros_0f7a4 0 0 Post 0 74 [(0, vI (((((y / 65536) / 256) / 16) : Nat) : Int)), (1, vI (((((1 + 16) + 8) + 4) : Nat) : Int))] [] [] 0 0) ∧ (¬ kI (((((y / 65536) / 256) / 16) : Nat) : Int) ≤ kI 4 → WM mJ6_numberOfTrailingZeros_0f7a4 0 0 Post 0 67 [(0, vI (((((y / 65536) / 256) / 16) : Nat) : Int)), (1, vI (((((1 + 16) + 8) + 4) : Nat) : Int))] [] [] 0 0)
          refine ⟨fun c64 => ?_, fun c64 => ?_⟩
          · 
            rw [kI_le (by omega)] at c64
            refine sq_ok rfl [(.iload_n 1, 0, 0, 0), (.iload_n 0, 0, 0, 0), (.iconst 1, 0, 0, 0), (.iushr, 0, 0, 0)] 74 _ _ _ _ _ (by decide +kernel) ?_
            show WM mJ6_numberOfTrailingZeros_0f7a4 0 0 Post 0 78 [(0, vI (((((y / 65536) / 256) / 16) : Nat) : Int)), (1, vI (((((1 + 16) + 8) + 4) : Nat) : Int))] [.int (((kI (((((y / 65536) / 256) / 16) : Nat) : Int)).toUInt32 >>> ((kI 1).toUInt32 &&& Int32.toUInt32 31)).toInt32), vI (((((1 + 16) + 8) + 4) : Nat) : Int)] [] 0 0
            have e74 : ((kI (((((y / 65536) / 256) / 16) : Nat) : Int)).toUInt32 >>> ((kI 1).toUInt32 &&& Int32.toUInt32 31)).toInt32 = kI ((((((y / 65536) / 256) / 16) / 2) : Nat) : Int) := by exact kI_ushN (by omega) 1 (by omega) rfl
            rw [e74]
            refine sq_ok rfl [(.iadd, 0, 0, 0), (.ireturn, 0, 0, 0)] 78 _ _ _ _ _ (by decide +kernel) ?_
            show ((0 ≤ 0 ∧ 0 ≤ 0) ∧ Post (some (.int ((kI (((((1 + 16) + 8) + 4) : Nat) : Int)) + (kI ((((((y / 65536) / 256) / 16) / 2) : Nat) : Int))))) [])
            have e75 : ((kI (((((1 + 16) + 8) + 4) : Nat) : Int)) + (kI ((((((y / 65536) / 256) / 16) / 2) : Nat) : Int))) = kI ((((((1 + 16) + 8) + 4) + ((((y / 65536) / 256) / 16) / 2)) : Nat) : Int) := by first | (simp only [kI_add, kI_sub, kI_mul]; done) | (simp only [kI_add, kI_sub, kI_mul]; rfl)
            rw [e75]
            refine ⟨⟨Nat.le_refl _, Nat.le_refl _⟩, hPo _ _ ?_⟩
            refine ⟨congrArg (fun q : Nat => some (vI (q : Int))) ?_, rfl⟩
            have ht1 : 1 ≤ t := by (cases t with | zero => (rw [Nat.pow_zero] at hy; omega) | succ t => omega)
            have hn := nt_ok t ht ht1
            rw [← hy] at hn
            rw [← hn]
            unfold nt nu nv nw
            (repeat' split) <;> omega
          · 
            rw [kI_le (by omega)] at c64
            refine sq_ok rfl [(.iinc 1 2, 0, 0, 0), (.iload_n 0, 0, 0, 0), (.iconst 2, 0, 0, 0), (.iushr, 0, 0, 0)] 67 _ _ _ _ _ (by decide +kernel) ?_
            show WM mJ6_numberOfTrailingZeros_0f7a4 0 0 Post 0 73 [(0, vI (((((y / 65536) / 256) / 16) : Nat) : Int)), (1, .int ((kI (((((1 + 16) + 8) + 4) : Nat) : Int)) + (kI 2)))] [.int (((kI (((((y / 65536) / 256) / 16) : Nat) : Int)).toUInt32 >>> ((kI 2).toUInt32 &&& Int32.toUInt32 31)).toInt32)] [] 0 0
            have e76 : ((kI (((((y / 65536) / 256) / 16) : Nat) : Int)).toUInt32 >>> ((kI 2).toUInt32 &&& Int32.toUInt32 31)).toInt32 = kI ((((((y / 65536) / 256) / 16) / 4) : Nat) : Int) := by exact kI_ushN (by omega) 2 (by omega) rfl
            rw [e76]
            have e77 : ((kI (((((1 + 16) + 8) + 4) : Nat) : Int)) + (kI 2)) = kI ((((((1 + 16) + 8) + 4) + 2) : Nat) : Int) := by first | (simp only [kI_add, kI_sub, kI_mul]; done) | (simp only [kI_add, kI_sub, kI_mul]; rfl)
            rw [e77]
            refine sq_ok rfl [(.istore_n 0, 0, 0, 0), (.iload_n 1, 0, 0, 0), (.iload_n 0, 0, 0, 0), (.iconst 1, 0, 0, 0), (.iushr, 0, 0, 0)] 73 _ _ _ _ _ (by decide +kernel) ?_
            show WM mJ6_numberOfTrailingZeros_0f7a4 0 0 Post 0 78 [(0, vI ((((((y / 65536) / 256) / 16) / 4) : Nat) : Int)), (1, vI ((((((1 + 16) + 8) + 4) + 2) : Nat) : Int))] [.int (((kI ((((((y / 65536) / 256) / 16) / 4) : Nat) : Int)).toUInt32 >>> ((kI 1).toUInt32 &&& Int32.toUInt32 31)).toInt32), vI ((((((1 + 16) + 8) + 4) + 2) : Nat) : Int)] [] 0 0
            have e78 : ((kI ((((((y / 65536) / 256) / 16) / 4) : Nat) : Int)).toUInt32 >>> ((kI 1).toUInt32 &&& Int32.toUInt32 31)).toInt32 = kI (((((((y / 65536) / 256) / 16) / 4) / 2) : Nat) : Int) := by exact kI_ushN (by omega) 1 (by omega) rfl
            rw [e78]
            refine sq_ok rfl [(.iadd, 0, 0, 0), (.ireturn, 0, 0, 0)] 78 _ _ _ _ _ (by decide +kernel) ?_
            show ((0 ≤ 0 ∧ 0 ≤ 0) ∧ Post (some (.int ((kI ((((((1 + 16) + 8) + 4) + 2) : Nat) : Int)) + (kI (((((((y / 65536) / 256) / 16) / 4) / 2) : Nat) : Int))))) [])
            have e79 : ((kI ((((((1 + 16) + 8) + 4) + 2) : Nat) : Int)) + (kI (((((((y / 65536) / 256) / 16) / 4) / 2) : Nat) : Int))) = kI (((((((1 + 16) + 8) + 4) + 2) + (((((y / 65536) / 256) / 16) / 4) / 2)) : Nat) : Int) := by first | (simp only [kI_add, kI_sub, kI_mul]; done) | (simp only [kI_add, kI_sub, kI_mul]; rfl)
            rw [e79]
            refine ⟨⟨Nat.le_refl _, Nat.le_refl _⟩, hPo _ _ ?_⟩
            refine ⟨congrArg (fun q : Nat => some (vI (q : Int))) ?_, rfl⟩
            have ht1 : 1 ≤ t := by (cases t with | zero => (rw [Nat.pow_zero] at hy; omega) | succ t => omega)
            have hn := nt_ok t ht ht1
            rw [← hy] at hn
            rw [← hn]
            unfold nt nu nv nw
            (repeat' split) <;> omega
  · 
    rw [kI_lt (by omega)] at c9
    refine sq_ok rfl [(.iload_n 0, 0, 0, 0), (.bipush 32, 0, 0, 0), (.iand, 0, 0, 0)] 12 _ _ _ _ _ (by decide +kernel) ?_
    show WM mJ6_numberOfTrailingZeros_0f7a4 0 0 Post 0 16 [(0, vI (y : Int))] [.int ((kI (y : Int)) &&& (kI 32))] [] 0 0
    have e80 : ((kI (y : Int)) &&& (kI 32)) = kI 0 := by rw [show y = 0 by omega]; rfl
    rw [e80]
    refine sq_ok rfl [(.ireturn, 0, 0, 0)] 16 _ _ _ _ _ (by decide +kernel) ?_
    show ((0 ≤ 0 ∧ 0 ≤ 0) ∧ Post (some (vI 0)) [])
    refine ⟨⟨Nat.le_refl _, Nat.le_refl _⟩, hPo _ _ ?_⟩
    exact ⟨by cases t with | zero => rfl | succ t => (have h2 := Nat.two_pow_pos t; rw [Nat.pow_succ] at hy; omega), rfl⟩

set_option maxRecDepth 100000 in
set_option maxHeartbeats 500000 in
theorem c_ntz (v t : Nat) (hv : v < 18446744073709551616) (ht : t < 64) (h : lowB v t) : CT mJ13_numberOfTrailingZeros_95d88 0 0 [vJ (v : Int)] [] (fun r w => r = some (vI (t : Int)) ∧ w = []) := by
  refine CT.intro rfl (Nat.le_of_ble_eq_true rfl) ?_
  generalize hPost : (fun r w => r = some (vI (t : Int)) ∧ w = [] : MP) = Post
  have hPo : ∀ rr ww, (fun r w => r = some (vI (t : Int)) ∧ w = [] : MP) rr ww → Post rr ww := by rw [← hPost]; exact fun _ _ h => h
  clear hPost
  show WM mJ13_numberOfTrailingZeros_95d88 0 0 Post 0 0 [(0, vJ (v : Int))] [] [] 0 0
  refine sq_ok rfl [(.lload_n 0, 0, 0, 0), (.l2i, 0, 0, 0)] 0 _ _ _ _ _ (by decide +kernel) ?_
  show WM mJ13_numberOfTrailingZeros_95d88 0 0 Post 0 2 [(0, vJ (v : Int))] [.int ((kL (v : Int)).toInt32)] [] 0 0
  have e1 : (kL (v : Int)).toInt32 = kI (((v % 4294967296) : Nat) : Int) := by exact kL_l2im hv
  rw [e1]
  refine sq_ok rfl [(.istore_n 2, 0, 0, 0), (.iload_n 2, 0, 0, 0), (.ifCond .ne 17, 0, 0, 0)] 2 _ _ _ _ _ (by decide +kernel) ?_
  show (¬ kI (((v % 4294967296) : Nat) : Int) = kI 0 → WM mJ13_numberOfTrailingZeros_95d88 0 0 Post 0 21 [(0, vJ (v : Int)), (2, vI (((v % 4294967296) : Nat) : Int))] [] [] 0 0) ∧ (kI (((v % 4294967296) : Nat) : Int) = kI 0 → WM mJ13_numberOfTrailingZeros_95d88 0 0 Post 0 7 [(0, vJ (v : Int)), (2, vI (((v % 4294967296) : Nat) : Int))] [] [] 0 0)
  refine ⟨fun c4 => ?_, fun c4 => ?_⟩
  · 
    have d4 : ¬ v % 4294967296 = 0 := fun h => c4 (by rw [h]; rfl)
    have ht2 : t < 32 := by
      rcases Nat.lt_or_ge t 32 with h1 | h1
      · exact h1
      · refine absurd ?_ d4
        apply Nat.eq_of_testBit_eq
        intro j
        rw [show 4294967296 = 2 ^ 32 from rfl, Nat.testBit_mod_two_pow, Nat.zero_testBit]
        by_cases hj : j < 32
        · rw [h.2 j (by omega), Bool.and_false]
        · rw [decide_eq_false hj, Bool.false_and]
    have h32 : lowB (v % 4294967296) t := by
      refine ⟨?_, fun j hj => ?_⟩
      · rw [show 4294967296 = 2 ^ 32 from rfl, Nat.testBit_mod_two_pow, h.1, decide_eq_true ht2]; rfl
      · rw [show 4294967296 = 2 ^ 32 from rfl, Nat.testBit_mod_two_pow, h.2 j hj, Bool.and_false]
    refine sq_ok rfl [(.iload_n 2, 0, 0, 0)] 21 _ _ _ _ _ (by decide +kernel) ?_
    show WM mJ13_numberOfTrailingZeros_95d88 0 0 Post 0 22 [(0, vJ (v : Int)), (2, vI (((v % 4294967296) : Nat) : Int))] [vI (((v % 4294967296) : Nat) : Int)] [] 0 0
    refine wm_callS (y := mJ13_numberOfTrailingZeros_95d88) mJ6_numberOfTrailingZeros_0f7a4 [] (pc := 22) (rest := []) (mc' := 0) (ms' := 0) (by decide +kernel) kJ13_311 (c_ntzI (v % 4294967296) t (by omega) ht2 h32) rfl ⟨Nat.le_of_ble_eq_true rfl, Nat.le_of_ble_eq_true rfl⟩ ⟨Nat.le_of_ble_eq_true rfl, Nat.le_of_ble_eq_true rfl⟩ (Nat.le_of_ble_eq_true rfl) rfl rfl (Nat.le_of_ble_eq_true rfl) rfl ?_
    rintro _ _ ⟨rfl, rfl⟩
    show WM mJ13_numberOfTrailingZeros_95d88 0 0 Post 0 25 [(0, vJ (v : Int)), (2, vI (((v % 4294967296) : Nat) : Int))] [vI (t : Int)] [] 0 0
    refine sq_ok rfl [(.ireturn, 0, 0, 0)] 25 _ _ _ _ _ (by decide +kernel) ?_
    show ((0 ≤ 0 ∧ 0 ≤ 0) ∧ Post (some (vI (t : Int))) [])
    refine ⟨⟨Nat.le_refl _, Nat.le_refl _⟩, hPo _ _ ?_⟩
    first
    | exact ⟨rfl, rfl⟩
    | exact ⟨congrArg (fun q : Nat => some (vI (q : Int))) (by omega), rfl⟩
  · 
    have d4 : v % 4294967296 = 0 := (kI_eqU (a := v % 4294967296) (b := 0) (by omega) (by omega)).mp c4
    have ht2 : 32 ≤ t := by
      rcases Nat.lt_or_ge t 32 with h1 | h1
      · have h2 := Nat.testBit_mod_two_pow v 32 t
        rw [show v % 2 ^ 32 = 0 from d4, h.1, Nat.zero_testBit, decide_eq_true h1] at h2
        cases h2
      · exact h1
    have h32 : lowB (v / 4294967296 % 4294967296) (t - 32) := by
      rw [Nat.mod_eq_of_lt (by omega)]
      refine ⟨?_, fun j hj => ?_⟩
      · rw [show 4294967296 = 2 ^ 32 from rfl, Nat.testBit_div_two_pow, show t - 32 + 32 = t by omega]; exact h.1
      · rw [show 4294967296 = 2 ^ 32 from rfl, Nat.testBit_div_two_pow]; exact h.2 _ (by omega)
    refine sq_ok rfl [(.bipush 32, 0, 0, 0), (.lload_n 0, 0, 0, 0), (.bipush 32, 0, 0, 0), (.lushr, 0, 0, 0)] 7 _ _ _ _ _ (by decide +kernel) ?_
    show WM mJ13_numberOfTrailingZeros_95d88 0 0 Post 0 13 [(0, vJ (v : Int)), (2, vI (((v % 4294967296) : Nat) : Int))] [.long (((kL (v : Int)).toUInt64 >>> ((kI 32).toInt64.toUInt64 &&& Int64.toUInt64 63)).toInt64), vI 32] [] 0 0
    have e3 : ((kL (v : Int)).toUInt64 >>> ((kI 32).toInt64.toUInt64 &&& Int64.toUInt64 63)).toInt64 = kL (((v / 4294967296) : Nat) : Int) := by exact kL_ush (m := 32) hv (by omega)
    rw [e3]
    refine sq_ok rfl [(.l2i, 0, 0, 0)] 13 _ _ _ _ _ (by decide +kernel) ?_
    show WM mJ13_numberOfTrailingZeros_95d88 0 0 Post 0 14 [(0, vJ (v : Int)), (2, vI (((v % 4294967296) : Nat) : Int))] [.int ((kL (((v / 4294967296) : Nat) : Int)).toInt32), vI 32] [] 0 0
    have e4 : (kL (((v / 4294967296) : Nat) : Int)).toInt32 = kI (((v / 4294967296 % 4294967296) : Nat) : Int) := by exact kL_l2im (by omega)
    rw [e4]
    refine wm_callS (y := mJ13_numberOfTrailingZeros_95d88) mJ6_numberOfTrailingZeros_0f7a4 [] (pc := 14) (rest := [vI 32]) (mc' := 0) (ms' := 0) (by decide +kernel) kJ13_311 (c_ntzI (v / 4294967296 % 4294967296) (t - 32) (by omega) (by omega) h32) rfl ⟨Nat.le_of_ble_eq_true rfl, Nat.le_of_ble_eq_true rfl⟩ ⟨Nat.le_of_ble_eq_true rfl, Nat.le_of_ble_eq_true rfl⟩ (Nat.le_of_ble_eq_true rfl) rfl rfl (Nat.le_of_ble_eq_true rfl) rfl ?_
    rintro _ _ ⟨rfl, rfl⟩
    show WM mJ13_numberOfTrailingZeros_95d88 0 0 Post 0 17 [(0, vJ (v : Int)), (2, vI (((v % 4294967296) : Nat) : Int))] [vI (((t - 32) : Nat) : Int), vI 32] [] 0 0
    refine sq_ok rfl [(.iadd, 0, 0, 0), (.goto 7, 0, 0, 0)] 17 _ _ _ _ _ (by decide +kernel) ?_
    show WM mJ13_numberOfTrailingZeros_95d88 0 0 Post 0 25 [(0, vJ (v : Int)), (2, vI (((v % 4294967296) : Nat) : Int))] [.int ((kI 32) + (kI (((t - 32) : Nat) : Int)))] [] 0 0
    have e5 : ((kI 32) + (kI (((t - 32) : Nat) : Int))) = kI (((32 + (t - 32)) : Nat) : Int) := by first | (simp only [kI_add, kI_sub, kI_mul]; done) | (simp only [kI_add, kI_sub, kI_mul]; rfl)
    rw [e5]
    refine sq_ok rfl [(.ireturn, 0, 0, 0)] 25 _ _ _ _ _ (by decide +kernel) ?_
    show ((0 ≤ 0 ∧ 0 ≤ 0) ∧ Post (some (vI (((32 + (t - 32)) : Nat) : Int))) [])
    refine ⟨⟨Nat.le_refl _, Nat.le_refl _⟩, hPo _ _ ?_⟩
    first
    | exact ⟨rfl, rfl⟩
    | exact ⟨congrArg (fun q : Nat => some (vI (q : Int))) (by omega), rfl⟩
