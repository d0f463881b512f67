/-! Rules: phrases as numbers -/
def plen (p : Nat) : Nat := if p = 0 then 0 else if p / 256 = 0 then 1 else if p / 65536 = 0 then 2 else if p / 16777216 = 0 then 3 else 4
def pk : List Nat → Nat
  | [] => 0
  | w :: ws => (w + 1) + 256 * pk ws
theorem kI_eqU {a b : Nat} (ha : a < 4294967296) (hb : b < 4294967296) : kI (a : Int) = kI (b : Int) ↔ a = b := by
  constructor
  · intro h
    have := congrArg (fun x => x.toBitVec.toNat) h
    simp only [kI_nat, pk_tn ha, pk_tn hb] at this
    exact this
  · intro h
    rw [h]
theorem kI_ush {p : Nat} (hp : p < 4294967296) {i : Nat} (hi : i ≤ 3) : ((kI (p : Int)).toUInt32 >>> ((kI (8 * (i : Int))).toUInt32 &&& Int32.toUInt32 31)).toInt32 = kI ((p / 256 ^ i : Nat) : Int) := by
  rw [kI_nat, kI_nat]
  rcases (show i = 0 ∨ i = 1 ∨ i = 2 ∨ i = 3 by omega) with rfl | rfl | rfl | rfl
  · rw [pk_ushrN hp _ 0 (by decide)]
  · rw [pk_ushrN hp _ 8 (by decide)]
  · rw [pk_ushrN hp _ 16 (by decide)]
  · rw [pk_ushrN hp _ 24 (by decide)]
theorem kI_and255 {p : Nat} (hp : p < 4294967296) : kI (p : Int) &&& kI 255 = kI ((p % 256 : Nat) : Int) := by
  rw [kI_nat, kI_nat]
  exact pk_andN hp (m := kI 255) 8 (by decide)
theorem nI_or {a b k : Nat} (ha : a < 2 ^ k) (h : a + b * 2 ^ k < 4294967296) : nI a ||| nI (b * 2 ^ k) = nI (a + b * 2 ^ k) := by
  apply Int32.toBitVec_inj.mp
  rw [Int32.toBitVec_or]
  apply BitVec.eq_of_toNat_eq
  rw [BitVec.toNat_or, pk_tn (by omega), pk_tn (by omega), pk_tn h, Nat.or_comm, ← Nat.shiftLeft_eq, ← Nat.shiftLeft_add_eq_or_of_lt ha, Nat.add_comm]
theorem kI_with {p n i : Nat} (hi : i ≤ 3) (hp : p < 256 ^ i) (hn : n < 255) : kI (p : Int) ||| (kI ((n : Int) + 1) <<< (kI (8 * (i : Int)) &&& 31)) = kI ((p + (n + 1) * 256 ^ i : Nat) : Int) := by
  rw [show ((n : Int) + 1) = ((n + 1 : Nat) : Int) from rfl, kI_nat, kI_nat, kI_nat]
  rcases (show i = 0 ∨ i = 1 ∨ i = 2 ∨ i = 3 by omega) with rfl | rfl | rfl | rfl
  · rw [pk_shlN _ 0 (by decide) (by omega)]
    exact nI_or (k := 0) (by omega) (by omega)
  · rw [pk_shlN _ 8 (by decide) (by omega)]
    exact nI_or (k := 8) (by omega) (by omega)
  · rw [pk_shlN _ 16 (by decide) (by omega)]
    exact nI_or (k := 16) (by omega) (by omega)
  · rw [pk_shlN _ 24 (by decide) (by omega)]
    exact nI_or (k := 24) (by omega) (by omega)
theorem plen_le (p : Nat) : plen p ≤ 4 := by unfold plen; split; omega; split; omega; split; omega; split <;> omega
theorem plen_lt {p : Nat} (hp : p < 4294967296) : p < 256 ^ plen p := by
  unfold plen
  split
  · omega
  · split
    · omega
    · split
      · omega
      · split <;> omega
theorem kI_andm {p n : Nat} (hp : p < 4294967296) (h1 : n ≤ 3) : kI (p : Int) &&& (kI 1 <<< (kI (8 * (n : Int)) &&& 31) - kI 1) = kI ((p % 256 ^ n : Nat) : Int) := by
  rw [kI_nat, kI_nat]
  rcases (show n = 0 ∨ n = 1 ∨ n = 2 ∨ n = 3 by omega) with rfl | rfl | rfl | rfl
  · exact pk_andN hp 0 (by decide)
  · exact pk_andN hp 8 (by decide)
  · exact pk_andN hp 16 (by decide)
  · exact pk_andN hp 24 (by decide)
theorem kI_andm1 {p : Nat} : kI (p : Int) &&& kI (-1) = kI (p : Int) := by
  apply Int32.toBitVec_inj.mp
  rw [Int32.toBitVec_and, show (kI (-1)).toBitVec = BitVec.allOnes 32 by decide, BitVec.and_allOnes]
/-- a phrase has another one's words, one behind the other, somewhere in it -/
def hld (p r : Nat) : Bool := (List.range (plen p + 1 - plen r)).any (fun i => p / 256 ^ i % 256 ^ plen r == r)
theorem hld_true {p r i : Nat} (h : i + plen r ≤ plen p) (e : p / 256 ^ i % 256 ^ plen r = r) : hld p r = true := by
  unfold hld
  rw [List.any_eq_true]
  exact ⟨i, List.mem_range.mpr (by omega), by simp [e]⟩
theorem hld_false {p r : Nat} (h : ∀ i, i + plen r ≤ plen p → ¬ p / 256 ^ i % 256 ^ plen r = r) : hld p r = false := by
  unfold hld
  rw [List.any_eq_false]
  intro i hi
  have := List.mem_range.mp hi
  simp [h i (by omega)]

set_option maxRecDepth 100000 in
set_option maxHeartbeats 4000000 in
theorem c_X4_lengthOf (p : Nat) (hp : p < 4294967296) : CT mX4_lengthOf 0 0 [vI (p : Int)] [] (fun r w => r = some (vI (plen p : Nat)) ∧ w = []) := by
  refine CT.intro rfl (Nat.le_of_ble_eq_true rfl) ?_
  generalize hPost : (fun r w => r = some (vI (plen p : Nat)) ∧ w = [] : MP) = Post
  have hPo : ∀ rr ww, (fun r w => r = some (vI (plen p : Nat)) ∧ w = [] : MP) rr ww → Post rr ww := by rw [← hPost]; exact fun _ _ h => h
  clear hPost
  show WM mX4_lengthOf 0 0 Post 0 0 [(0, vI (p : Int))] [] [] 0 0
  refine sq_ok rfl [(.iload_n 0, 0, 0, 0), (.ifCond .ne 5, 0, 0, 0)] 0 _ _ _ _ _ (by decide +kernel) ?_
  show (¬ kI (p : Int) = kI 0 → WM mX4_lengthOf 0 0 Post 0 6 [(0, vI (p : Int))] [] [] 0 0) ∧ (kI (p : Int) = kI 0 → WM mX4_lengthOf 0 0 Post 0 4 [(0, vI (p : Int))] [] [] 0 0)
  refine ⟨fun c1 => ?_, fun c1 => ?_⟩
  · 
    rw [show kI 0 = kI ((0 : Nat) : Int) from rfl, kI_eqU (by omega) (by omega)] at c1
    refine sq_ok rfl [(.iload_n 0, 0, 0, 0), (.bipush 8, 0, 0, 0), (.iushr, 0, 0, 0)] 6 _ _ _ _ _ (by decide +kernel) ?_
    show WM mX4_lengthOf 0 0 Post 0 10 [(0, vI (p : Int))] [.int (((kI (p : Int)).toUInt32 >>> ((kI 8).toUInt32 &&& Int32.toUInt32 31)).toInt32)] [] 0 0
    have e2 : ((kI (p : Int)).toUInt32 >>> ((kI 8).toUInt32 &&& Int32.toUInt32 31)).toInt32 = kI (((p / 256 ^ 1) : Nat) : Int) := by exact kI_ush hp (i := 1) (by omega)
    rw [e2]
    refine sq_ok rfl [(.ifCond .ne 5, 0, 0, 0)] 10 _ _ _ _ _ (by decide +kernel) ?_
    show (¬ kI (((p / 256 ^ 1) : Nat) : Int) = kI 0 → WM mX4_lengthOf 0 0 Post 0 15 [(0, vI (p : Int))] [] [] 0 0) ∧ (kI (((p / 256 ^ 1) : Nat) : Int) = kI 0 → WM mX4_lengthOf 0 0 Post 0 13 [(0, vI (p : Int))] [] [] 0 0)
    refine ⟨fun c10 => ?_, fun c10 => ?_⟩
    · 
      rw [show kI 0 = kI ((0 : Nat) : Int) from rfl, kI_eqU (by omega) (by omega)] at c10
      refine sq_ok rfl [(.iload_n 0, 0, 0, 0), (.bipush 16, 0, 0, 0), (.iushr, 0, 0, 0)] 15 _ _ _ _ _ (by decide +kernel) ?_
      show WM mX4_lengthOf 0 0 Post 0 19 [(0, vI (p : Int))] [.int (((kI (p : Int)).toUInt32 >>> ((kI 16).toUInt32 &&& Int32.toUInt32 31)).toInt32)] [] 0 0
      have e4 : ((kI (p : Int)).toUInt32 >>> ((kI 16).toUInt32 &&& Int32.toUInt32 31)).toInt32 = kI (((p / 256 ^ 2) : Nat) : Int) := by exact kI_ush hp (i := 2) (by omega)
      rw [e4]
      refine sq_ok rfl [(.ifCond .ne 5, 0, 0, 0)] 19 _ _ _ _ _ (by decide +kernel) ?_
      show (¬ kI (((p / 256 ^ 2) : Nat) : Int) = kI 0 → WM mX4_lengthOf 0 0 Post 0 24 [(0, vI (p : Int))] [] [] 0 0) ∧ (kI (((p / 256 ^ 2) : Nat) : Int) = kI 0 → WM mX4_lengthOf 0 0 Post 0 22 [(0, vI (p : Int))] [] [] 0 0)
      refine ⟨fun c19 => ?_, fun c19 => ?_⟩
      · 
        rw [show kI 0 = kI ((0 : Nat) : Int) from rfl, kI_eqU (by omega) (by omega)] at c19
        refine sq_ok rfl [(.iload_n 0, 0, 0, 0), (.bipush 24, 0, 0, 0), (.iushr, 0, 0, 0)] 24 _ _ _ _ _ (by decide +kernel) ?_
        show WM mX4_lengthOf 0 0 Post 0 28 [(0, vI (p : Int))] [.int (((kI (p : Int)).toUInt32 >>> ((kI 24).toUInt32 &&& Int32.toUInt32 31)).toInt32)] [] 0 0
        have e6 : ((kI (p : Int)).toUInt32 >>> ((kI 24).toUInt32 &&& Int32.toUInt32 31)).toInt32 = kI (((p / 256 ^ 3) : Nat) : Int) := by exact kI_ush hp (i := 3) (by omega)
        rw [e6]
        refine sq_ok rfl [(.ifCond .ne 7, 0, 0, 0)] 28 _ _ _ _ _ (by decide +kernel) ?_
        show (¬ kI (((p / 256 ^ 3) : Nat) : Int) = kI 0 → WM mX4_lengthOf 0 0 Post 0 35 [(0, vI (p : Int))] [] [] 0 0) ∧ (kI (((p / 256 ^ 3) : Nat) : Int) = kI 0 → WM mX4_lengthOf 0 0 Post 0 31 [(0, vI (p : Int))] [] [] 0 0)
        refine ⟨fun c28 => ?_, fun c28 => ?_⟩
        · 
          rw [show kI 0 = kI ((0 : Nat) : Int) from rfl, kI_eqU (by omega) (by omega)] at c28
          refine sq_ok rfl [(.iconst 4, 0, 0, 0), (.ireturn, 0, 0, 0)] 35 _ _ _ _ _ (by decide +kernel) ?_
          show ((0 ≤ 0 ∧ 0 ≤ 0) ∧ Post (some (vI 4)) [])
          refine ⟨⟨Nat.le_refl _, Nat.le_refl _⟩, hPo _ _ ?_⟩
          exact ⟨by rw [show plen p = 4 by unfold plen; rw [if_neg (by omega), if_neg (by omega), if_neg (by omega), if_neg (by omega)]]; rfl, rfl⟩
        · 
          rw [show kI 0 = kI ((0 : Nat) : Int) from rfl, kI_eqU (by omega) (by omega)] at c28
          refine sq_ok rfl [(.iconst 3, 0, 0, 0), (.goto 4, 0, 0, 0)] 31 _ _ _ _ _ (by decide +kernel) ?_
          show WM mX4_lengthOf 0 0 Post 0 36 [(0, vI (p : Int))] [vI 3] [] 0 0
          refine sq_ok rfl [(.ireturn, 0, 0, 0)] 36 _ _ _ _ _ (by decide +kernel) ?_
          show ((0 ≤ 0 ∧ 0 ≤ 0) ∧ Post (some (vI 3)) [])
          refine ⟨⟨Nat.le_refl _, Nat.le_refl _⟩, hPo _ _ ?_⟩
          exact ⟨by rw [show plen p = 3 by unfold plen; rw [if_neg (by omega), if_neg (by omega), if_neg (by omega), if_pos (by omega)]]; rfl, rfl⟩
      · 
        rw [show kI 0 = kI ((0 : Nat) : Int) from rfl, kI_eqU (by omega) (by omega)] at c19
        refine sq_ok rfl [(.iconst 2, 0, 0, 0), (.ireturn, 0, 0, 0)] 22 _ _ _ _ _ (by decide +kernel) ?_
        show ((0 ≤ 0 ∧ 0 ≤ 0) ∧ Post (some (vI 2)) [])
        refine ⟨⟨Nat.le_refl _, Nat.le_refl _⟩, hPo _ _ ?_⟩
        exact ⟨by rw [show plen p = 2 by unfold plen; rw [if_neg (by omega), if_neg (by omega), if_pos (by omega)]]; rfl, rfl⟩
    · 
      rw [show kI 0 = kI ((0 : Nat) : Int) from rfl, kI_eqU (by omega) (by omega)] at c10
      refine sq_ok rfl [(.iconst 1, 0, 0, 0), (.ireturn, 0, 0, 0)] 13 _ _ _ _ _ (by decide +kernel) ?_
      show ((0 ≤ 0 ∧ 0 ≤ 0) ∧ Post (some (vI 1)) [])
      refine ⟨⟨Nat.le_refl _, Nat.le_refl _⟩, hPo _ _ ?_⟩
      exact ⟨by rw [show plen p = 1 by unfold plen; rw [if_neg (by omega), if_pos (by omega)]]; rfl, rfl⟩
  · 
    rw [show kI 0 = kI ((0 : Nat) : Int) from rfl, kI_eqU (by omega) (by omega)] at c1
    refine sq_ok rfl [(.iconst 0, 0, 0, 0), (.ireturn, 0, 0, 0)] 4 _ _ _ _ _ (by decide +kernel) ?_
    show ((0 ≤ 0 ∧ 0 ≤ 0) ∧ Post (some (vI 0)) [])
    refine ⟨⟨Nat.le_refl _, Nat.le_refl _⟩, hPo _ _ ?_⟩
    exact ⟨by rw [show plen p = 0 by unfold plen; rw [if_pos (by omega)]]; rfl, rfl⟩

set_option maxRecDepth 100000 in
set_option maxHeartbeats 4000000 in
theorem c_X4_wordAt (p i : Nat) (hp : p < 4294967296) (hi : i ≤ 3) : CT mX4_wordAt 0 0 [vI (p : Int), vI (i : Int)] [] (fun r w => r = some (vI (((p / 256 ^ i % 256 : Nat) : Int) - 1)) ∧ w = []) := by
  refine CT.intro rfl (Nat.le_of_ble_eq_true rfl) ?_
  generalize hPost : (fun r w => r = some (vI (((p / 256 ^ i % 256 : Nat) : Int) - 1)) ∧ w = [] : MP) = Post
  have hPo : ∀ rr ww, (fun r w => r = some (vI (((p / 256 ^ i % 256 : Nat) : Int) - 1)) ∧ w = [] : MP) rr ww → Post rr ww := by rw [← hPost]; exact fun _ _ h => h
  clear hPost
  show WM mX4_wordAt 0 0 Post 0 0 [(0, vI (p : Int)), (1, vI (i : Int))] [] [] 0 0
  refine sq_ok rfl [(.iload_n 0, 0, 0, 0), (.bipush 8, 0, 0, 0), (.iload_n 1, 0, 0, 0), (.imul, 0, 0, 0), (.iushr, 0, 0, 0)] 0 _ _ _ _ _ (by decide +kernel) ?_
  show WM mX4_wordAt 0 0 Post 0 6 [(0, vI (p : Int)), (1, vI (i : Int))] [.int (((kI (p : Int)).toUInt32 >>> (((kI 8) * (kI (i : Int))).toUInt32 &&& Int32.toUInt32 31)).toInt32)] [] 0 0
  have e1 : ((kI (p : Int)).toUInt32 >>> (((kI 8) * (kI (i : Int))).toUInt32 &&& Int32.toUInt32 31)).toInt32 = kI (((p / 256 ^ i) : Nat) : Int) := by rw [kI_mul]; exact kI_ush hp hi
  rw [e1]
  refine sq_ok rfl [(.sipush 255, 0, 0, 0), (.iand, 0, 0, 0)] 6 _ _ _ _ _ (by decide +kernel) ?_
  show WM mX4_wordAt 0 0 Post 0 10 [(0, vI (p : Int)), (1, vI (i : Int))] [.int ((kI (((p / 256 ^ i) : Nat) : Int)) &&& (kI 255))] [] 0 0
  have e2 : ((kI (((p / 256 ^ i) : Nat) : Int)) &&& (kI 255)) = kI (((p / 256 ^ i % 256) : Nat) : Int) := by exact kI_and255 (Nat.lt_of_le_of_lt (Nat.div_le_self _ _) hp)
  rw [e2]
  refine sq_ok rfl [(.iconst 1, 0, 0, 0), (.isub, 0, 0, 0), (.ireturn, 0, 0, 0)] 10 _ _ _ _ _ (by decide +kernel) ?_
  show ((0 ≤ 0 ∧ 0 ≤ 0) ∧ Post (some (.int ((kI (((p / 256 ^ i % 256) : Nat) : Int)) - (kI 1)))) [])
  have e3 : ((kI (((p / 256 ^ i % 256) : Nat) : Int)) - (kI 1)) = kI ((((p / 256 ^ i % 256) : Nat) : Int) - 1) := by simp only [kI_add, kI_sub, kI_mul]
  rw [e3]
  refine ⟨⟨Nat.le_refl _, Nat.le_refl _⟩, hPo _ _ ?_⟩
  exact ⟨rfl, rfl⟩

set_option maxRecDepth 100000 in
set_option maxHeartbeats 4000000 in
theorem c_X4_with (p i n : Nat) (hi : i ≤ 3) (hp : p < 256 ^ i) (hn : n < 255) : CT mX4_with 0 0 [vI (p : Int), vI (i : Int), vI (n : Int)] [] (fun r w => r = some (vI ((p + (n + 1) * 256 ^ i : Nat) : Int)) ∧ w = []) := by
  refine CT.intro rfl (Nat.le_of_ble_eq_true rfl) ?_
  generalize hPost : (fun r w => r = some (vI ((p + (n + 1) * 256 ^ i : Nat) : Int)) ∧ w = [] : MP) = Post
  have hPo : ∀ rr ww, (fun r w => r = some (vI ((p + (n + 1) * 256 ^ i : Nat) : Int)) ∧ w = [] : MP) rr ww → Post rr ww := by rw [← hPost]; exact fun _ _ h => h
  clear hPost
  show WM mX4_with 0 0 Post 0 0 [(0, vI (p : Int)), (1, vI (i : Int)), (2, vI (n : Int))] [] [] 0 0
  refine sq_ok rfl [(.iload_n 0, 0, 0, 0), (.iload_n 2, 0, 0, 0), (.iconst 1, 0, 0, 0), (.iadd, 0, 0, 0), (.bipush 8, 0, 0, 0), (.iload_n 1, 0, 0, 0), (.imul, 0, 0, 0), (.ishl, 0, 0, 0), (.ior, 0, 0, 0)] 0 _ _ _ _ _ (by decide +kernel) ?_
  show WM mX4_with 0 0 Post 0 10 [(0, vI (p : Int)), (1, vI (i : Int)), (2, vI (n : Int))] [.int ((kI (p : Int)) ||| (((kI (n : Int)) + (kI 1)) <<< (((kI 8) * (kI (i : Int))) &&& 31)))] [] 0 0
  have e1 : ((kI (p : Int)) ||| (((kI (n : Int)) + (kI 1)) <<< (((kI 8) * (kI (i : Int))) &&& 31))) = kI (((p + (n + 1) * 256 ^ i) : Nat) : Int) := by rw [kI_add, kI_mul]; exact kI_with hi hp hn
  rw [e1]
  refine sq_ok rfl [(.ireturn, 0, 0, 0)] 10 _ _ _ _ _ (by decide +kernel) ?_
  show ((0 ≤ 0 ∧ 0 ≤ 0) ∧ Post (some (vI (((p + (n + 1) * 256 ^ i) : Nat) : Int))) [])
  refine ⟨⟨Nat.le_refl _, Nat.le_refl _⟩, hPo _ _ ?_⟩
  exact ⟨rfl, rfl⟩

set_option maxRecDepth 100000 in
set_option maxHeartbeats 4000000 in
theorem c_X4_holds (p r : Nat) (hp : p < 4294967296) (hr : r < 4294967296) : CT mX4_holds 0 0 [vI (p : Int), vI (r : Int)] [] (fun x w => x = some (vZ (hld p r)) ∧ w = []) := by
  refine CT.intro rfl (Nat.le_of_ble_eq_true rfl) ?_
  generalize hPost : (fun x w => x = some (vZ (hld p r)) ∧ w = [] : MP) = Post
  have hPo : ∀ rr ww, (fun x w => x = some (vZ (hld p r)) ∧ w = [] : MP) rr ww → Post rr ww := by rw [← hPost]; exact fun _ _ h => h
  clear hPost
  have l1 := plen_le p
  have l2 := plen_le r
  have l3 := plen_lt hr
  have l4 := plen_lt hp
  show WM mX4_holds 0 0 Post 0 0 [(0, vI (p : Int)), (1, vI (r : Int))] [] [] 0 0
  refine sq_ok rfl [(.iload_n 1, 0, 0, 0)] 0 _ _ _ _ _ (by decide +kernel) ?_
  show WM mX4_holds 0 0 Post 0 1 [(0, vI (p : Int)), (1, vI (r : Int))] [vI (r : Int)] [] 0 0
  refine wm_callS mX4_lengthOf [] (pc := 1) (rest := []) (mc' := 0) (ms' := 0) (by decide +kernel) kX4_28 (c_X4_lengthOf r hr) rfl ⟨Nat.le_of_ble_eq_true rfl, Nat.le_of_ble_eq_true rfl⟩ ⟨Nat.le_of_ble_eq_true rfl, Nat.le_of_ble_eq_true rfl⟩ (Nat.le_of_ble_eq_true rfl) rfl rfl (Nat.le_of_ble_eq_true rfl) rfl ?_
  rintro _ _ ⟨rfl, rfl⟩
  show WM mX4_holds 0 0 Post 0 4 [(0, vI (p : Int)), (1, vI (r : Int))] [vI (((plen r) : Nat) : Int)] [] 0 0
  refine sq_ok rfl [(.istore_n 2, 0, 0, 0), (.iload_n 0, 0, 0, 0)] 4 _ _ _ _ _ (by decide +kernel) ?_
  show WM mX4_holds 0 0 Post 0 6 [(0, vI (p : Int)), (1, vI (r : Int)), (2, vI (((plen r) : Nat) : Int))] [vI (p : Int)] [] 0 0
  refine wm_callS mX4_lengthOf [] (pc := 6) (rest := []) (mc' := 0) (ms' := 0) (by decide +kernel) kX4_28 (c_X4_lengthOf p hp) rfl ⟨Nat.le_of_ble_eq_true rfl, Nat.le_of_ble_eq_true rfl⟩ ⟨Nat.le_of_ble_eq_true rfl, Nat.le_of_ble_eq_true rfl⟩ (Nat.le_of_ble_eq_true rfl) rfl rfl (Nat.le_of_ble_eq_true rfl) rfl ?_
  rintro _ _ ⟨rfl, rfl⟩
  show WM mX4_holds 0 0 Post 0 9 [(0, vI (p : Int)), (1, vI (r : Int)), (2, vI (((plen r) : Nat) : Int))] [vI (((plen p) : Nat) : Int)] [] 0 0
  refine sq_ok rfl [(.iload_n 2, 0, 0, 0), (.isub, 0, 0, 0), (.istore_n 3, 0, 0, 0), (.iload_n 2, 0, 0, 0), (.iconst 4, 0, 0, 0), (.if_icmp .lt 7, 0, 0, 0)] 9 _ _ _ _ _ (by decide +kernel) ?_
  show (kI (((plen r) : Nat) : Int) < kI 4 → WM mX4_holds 0 0 Post 0 21 [(0, vI (p : Int)), (1, vI (r : Int)), (2, vI (((plen r) : Nat) : Int)), (3, .int ((kI (((plen p) : Nat) : Int)) - (kI (((plen r) : Nat) : Int))))] [] [] 0 0) ∧ (¬ kI (((plen r) : Nat) : Int) < kI 4 → WM mX4_holds 0 0 Post 0 17 [(0, vI (p : Int)), (1, vI (r : Int)), (2, vI (((plen r) : Nat) : Int)), (3, .int ((kI (((plen p) : Nat) : Int)) - (kI (((plen r) : Nat) : Int))))] [] [] 0 0)
  have e1 : ((kI (((plen p) : Nat) : Int)) - (kI (((plen r) : Nat) : Int))) = kI ((((plen p) : Nat) : Int) - (((plen r) : Nat) : Int)) := by simp only [kI_add, kI_sub, kI_mul]
  rw [e1]
  refine ⟨fun c14 => ?_, fun c14 => ?_⟩
  · 
    rw [kI_lt (by omega)] at c14
    refine sq_ok rfl [(.iconst 1, 0, 0, 0), (.bipush 8, 0, 0, 0), (.iload_n 2, 0, 0, 0), (.imul, 0, 0, 0), (.ishl, 0, 0, 0), (.iconst 1, 0, 0, 0), (.isub, 0, 0, 0), (.istore 4, 0, 0, 0), (.iconst 0, 0, 0, 0), (.istore 5, 0, 0, 0)] 21 _ _ _ _ _ (by decide +kernel) ?_
    show WM mX4_holds 0 0 Post 0 34 [(0, vI (p : Int)), (1, vI (r : Int)), (2, vI (((plen r) : Nat) : Int)), (3, vI ((((plen p) : Nat) : Int) - (((plen r) : Nat) : Int))), (4, .int (((kI 1) <<< (((kI 8) * (kI (((plen r) : Nat) : Int))) &&& 31)) - (kI 1))), (5, vI 0)] [] [] 0 0
    have lp34 : ∀ (n34 : Nat) (i : Nat) (m : Int32), (i ≤ 4) → (plen r = 0 → i = 0) → (∀ x : Nat, x < 4294967296 → kI (x : Int) &&& m = kI ((x % 256 ^ plen r : Nat) : Int)) → (∀ j, j < i → j + plen r ≤ plen p → ¬ p / 256 ^ j % 256 ^ plen r = r) → (5 - i) < n34 → WM mX4_holds 0 0 Post 0 34 [(0, vI (p : Int)), (1, vI (r : Int)), (3, vI ((plen p : Int) - (plen r : Int))), (4, .int m), (5, vI (i : Int))] [] [] 0 0 := by
      intro n34
      induction n34 with
      | zero => intro i m hi hz hm hq hm; exact absurd hm (Nat.not_lt_zero _)
      | succ n34 ih34 =>
        intro i m hi hz hm hq hm34
        refine sq_ok rfl [(.iload 5, 0, 0, 0), (.iload_n 3, 0, 0, 0), (.if_icmp .gt 25, 0, 0, 0)] 34 _ _ _ _ _ (by decide +kernel) ?_
        show (kI ((plen p : Int) - (plen r : Int)) < kI (i : Int) → WM mX4_holds 0 0 Post 0 62 [(0, vI (p : Int)), (1, vI (r : Int)), (3, vI ((plen p : Int) - (plen r : Int))), (4, .int m), (5, vI (i : Int))] [] [] 0 0) ∧ (¬ kI ((plen p : Int) - (plen r : Int)) < kI (i : Int) → WM mX4_holds 0 0 Post 0 40 [(0, vI (p : Int)), (1, vI (r : Int)), (3, vI ((plen p : Int) - (plen r : Int))), (4, .int m), (5, vI (i : Int))] [] [] 0 0)
        refine ⟨fun c37 => ?_, fun c37 => ?_⟩
        · 
          rw [kI_lt (by omega)] at c37
          refine sq_ok rfl [(.iconst 0, 0, 0, 0), (.ireturn, 0, 0, 0)] 62 _ _ _ _ _ (by decide +kernel) ?_
          show narrow .boolean (.int (kI 0)) = .int (kI 0) ∧ ((0 ≤ 0 ∧ 0 ≤ 0) ∧ Post (some (vI 0)) [])
          refine ⟨(bI_fits false).1, ?_⟩
          refine ⟨⟨Nat.le_refl _, Nat.le_refl _⟩, hPo _ _ ?_⟩
          exact ⟨by rw [hld_false (p := p) (r := r) (fun j hj => hq j (by omega) hj)] <;> rfl, rfl⟩
        · 
          rw [kI_lt (by omega)] at c37
          have i3 : i ≤ 3 := by omega
          have hdl : p / 256 ^ i < 4294967296 := Nat.lt_of_le_of_lt (Nat.div_le_self _ _) hp
          have hml : p / 256 ^ i % 256 ^ plen r < 4294967296 := Nat.lt_of_le_of_lt (Nat.mod_le _ _) hdl
          refine sq_ok rfl [(.iload_n 0, 0, 0, 0), (.bipush 8, 0, 0, 0), (.iload 5, 0, 0, 0), (.imul, 0, 0, 0), (.iushr, 0, 0, 0)] 40 _ _ _ _ _ (by decide +kernel) ?_
          show WM mX4_holds 0 0 Post 0 47 [(0, vI (p : Int)), (1, vI (r : Int)), (3, vI ((plen p : Int) - (plen r : Int))), (4, .int m), (5, vI (i : Int))] [.int (((kI (p : Int)).toUInt32 >>> (((kI 8) * (kI (i : Int))).toUInt32 &&& Int32.toUInt32 31)).toInt32)] [] 0 0
          have e4 : ((kI (p : Int)).toUInt32 >>> (((kI 8) * (kI (i : Int))).toUInt32 &&& Int32.toUInt32 31)).toInt32 = kI (((p / 256 ^ i) : Nat) : Int) := by rw [kI_mul]; exact kI_ush hp i3
          rw [e4]
          refine sq_ok rfl [(.iload 4, 0, 0, 0), (.iand, 0, 0, 0)] 47 _ _ _ _ _ (by decide +kernel) ?_
          show WM mX4_holds 0 0 Post 0 50 [(0, vI (p : Int)), (1, vI (r : Int)), (3, vI ((plen p : Int) - (plen r : Int))), (4, .int m), (5, vI (i : Int))] [.int ((kI (((p / 256 ^ i) : Nat) : Int)) &&& m)] [] 0 0
          have e5 : ((kI (((p / 256 ^ i) : Nat) : Int)) &&& m) = kI (((p / 256 ^ i % 256 ^ plen r) : Nat) : Int) := by exact hm _ hdl
          rw [e5]
          refine sq_ok rfl [(.iload_n 1, 0, 0, 0), (.if_icmp .ne 5, 0, 0, 0)] 50 _ _ _ _ _ (by decide +kernel) ?_
          show (¬ kI (((p / 256 ^ i % 256 ^ plen r) : Nat) : Int) = kI (r : Int) → WM mX4_holds 0 0 Post 0 56 [(0, vI (p : Int)), (1, vI (r : Int)), (3, vI ((plen p : Int) - (plen r : Int))), (4, .int m), (5, vI (i : Int))] [] [] 0 0) ∧ (kI (((p / 256 ^ i % 256 ^ plen r) : Nat) : Int) = kI (r : Int) → WM mX4_holds 0 0 Post 0 54 [(0, vI (p : Int)), (1, vI (r : Int)), (3, vI ((plen p : Int) - (plen r : Int))), (4, .int m), (5, vI (i : Int))] [] [] 0 0)
          refine ⟨fun c51 => ?_, fun c51 => ?_⟩
          · 
            rw [kI_eqU hml hr] at c51
            refine sq_ok rfl [(.iinc 5 1, 0, 0, 0), (.goto (-25), 0, 0, 0)] 56 _ _ _ _ _ (by decide +kernel) ?_
            show WM mX4_holds 0 0 Post 0 34 [(0, vI (p : Int)), (1, vI (r : Int)), (3, vI ((plen p : Int) - (plen r : Int))), (4, .int m), (5, .int ((kI (i : Int)) + (kI 1)))] [] [] 0 0
            have e7 : ((kI (i : Int)) + (kI 1)) = kI ((i : Int) + 1) := by simp only [kI_add, kI_sub, kI_mul]
            rw [e7]
            exact WM.pick [0, 1, 2, 3, 4] rfl (ih34 (i + 1) m (by omega) (fun h => by exfalso; have h0 := hz h; subst h0; apply c51; rw [h]; have h9 : r = 0 := (by rw [h] at l3; omega); rw [h9]; simp [Nat.mod_one]) (by omega) (fun j hj h => by rcases Nat.lt_succ_iff_lt_or_eq.mp hj with h1 | h1; exact hq j h1 h; subst h1; exact c51) (by omega))
          · 
            rw [kI_eqU hml hr] at c51
            refine sq_ok rfl [(.iconst 1, 0, 0, 0), (.ireturn, 0, 0, 0)] 54 _ _ _ _ _ (by decide +kernel) ?_
            show narrow .boolean (.int (kI 1)) = .int (kI 1) ∧ ((0 ≤ 0 ∧ 0 ≤ 0) ∧ Post (some (vI 1)) [])
            refine ⟨(bI_fits true).1, ?_⟩
            refine ⟨⟨Nat.le_refl _, Nat.le_refl _⟩, hPo _ _ ?_⟩
            exact ⟨by rw [hld_true (p := p) (r := r) (i := i) (by omega) c51] <;> rfl, rfl⟩
    exact WM.pick [0, 1, 3, 4, 5] rfl (lp34 _ 0 (((kI 1) <<< (((kI 8) * (kI (((plen r) : Nat) : Int))) &&& 31)) - (kI 1)) (by omega) (by omega) (by first | (intro x hx; rw [kI_andm1, Nat.mod_eq_of_lt (by rw [show plen r = 4 by omega]; omega)]) | (intro x hx; rw [kI_mul]; exact kI_andm hx (by omega))) (fun j hj => absurd hj (Nat.not_lt_zero _)) (Nat.lt_succ_self _))
  · 
    rw [kI_lt (by omega)] at c14
    refine sq_ok rfl [(.iconst (-1), 0, 0, 0), (.goto 11, 0, 0, 0)] 17 _ _ _ _ _ (by decide +kernel) ?_
    show WM mX4_holds 0 0 Post 0 29 [(0, vI (p : Int)), (1, vI (r : Int)), (2, vI (((plen r) : Nat) : Int)), (3, vI ((((plen p) : Nat) : Int) - (((plen r) : Nat) : Int)))] [vI (-1)] [] 0 0
    refine sq_ok rfl [(.istore 4, 0, 0, 0), (.iconst 0, 0, 0, 0), (.istore 5, 0, 0, 0)] 29 _ _ _ _ _ (by decide +kernel) ?_
    show WM mX4_holds 0 0 Post 0 34 [(0, vI (p : Int)), (1, vI (r : Int)), (2, vI (((plen r) : Nat) : Int)), (3, vI ((((plen p) : Nat) : Int) - (((plen r) : Nat) : Int))), (4, vI (-1)), (5, vI 0)] [] [] 0 0
    have lp34 : ∀ (n34 : Nat) (i : Nat) (m : Int32), (i ≤ 4) → (plen r = 0 → i = 0) → (∀ x : Nat, x < 4294967296 → kI (x : Int) &&& m = kI ((x % 256 ^ plen r : Nat) : Int)) → (∀ j, j < i → j + plen r ≤ plen p → ¬ p / 256 ^ j % 256 ^ plen r = r) → (5 - i) < n34 → WM mX4_holds 0 0 Post 0 34 [(0, vI (p : Int)), (1, vI (r : Int)), (3, vI ((plen p : Int) - (plen r : Int))), (4, .int m), (5, vI (i : Int))] [] [] 0 0 := by
      intro n34
      induction n34 with
      | zero => intro i m hi hz hm hq hm; exact absurd hm (Nat.not_lt_zero _)
      | succ n34 ih34 =>
        intro i m hi hz hm hq hm34
        refine sq_ok rfl [(.iload 5, 0, 0, 0), (.iload_n 3, 0, 0, 0), (.if_icmp .gt 25, 0, 0, 0)] 34 _ _ _ _ _ (by decide +kernel) ?_
        show (kI ((plen p : Int) - (plen r : Int)) < kI (i : Int) → WM mX4_holds 0 0 Post 0 62 [(0, vI (p : Int)), (1, vI (r : Int)), (3, vI ((plen p : Int) - (plen r : Int))), (4, .int m), (5, vI (i : Int))] [] [] 0 0) ∧ (¬ kI ((plen p : Int) - (plen r : Int)) < kI (i : Int) → WM mX4_holds 0 0 Post 0 40 [(0, vI (p : Int)), (1, vI (r : Int)), (3, vI ((plen p : Int) - (plen r : Int))), (4, .int m), (5, vI (i : Int))] [] [] 0 0)
        refine ⟨fun c37 => ?_, fun c37 => ?_⟩
        · 
          rw [kI_lt (by omega)] at c37
          refine sq_ok rfl [(.iconst 0, 0, 0, 0), (.ireturn, 0, 0, 0)] 62 _ _ _ _ _ (by decide +kernel) ?_
          show narrow .boolean (.int (kI 0)) = .int (kI 0) ∧ ((0 ≤ 0 ∧ 0 ≤ 0) ∧ Post (some (vI 0)) [])
          refine ⟨(bI_fits false).1, ?_⟩
          refine ⟨⟨Nat.le_refl _, Nat.le_refl _⟩, hPo _ _ ?_⟩
          exact ⟨by rw [hld_false (p := p) (r := r) (fun j hj => hq j (by omega) hj)] <;> rfl, rfl⟩
        · 
          rw [kI_lt (by omega)] at c37
          have i3 : i ≤ 3 := by omega
          have hdl : p / 256 ^ i < 4294967296 := Nat.lt_of_le_of_lt (Nat.div_le_self _ _) hp
          have hml : p / 256 ^ i % 256 ^ plen r < 4294967296 := Nat.lt_of_le_of_lt (Nat.mod_le _ _) hdl
          refine sq_ok rfl [(.iload_n 0, 0, 0, 0), (.bipush 8, 0, 0, 0), (.iload 5, 0, 0, 0), (.imul, 0, 0, 0), (.iushr, 0, 0, 0)] 40 _ _ _ _ _ (by decide +kernel) ?_
          show WM mX4_holds 0 0 Post 0 47 [(0, vI (p : Int)), (1, vI (r : Int)), (3, vI ((plen p : Int) - (plen r : Int))), (4, .int m), (5, vI (i : Int))] [.int (((kI (p : Int)).toUInt32 >>> (((kI 8) * (kI (i : Int))).toUInt32 &&& Int32.toUInt32 31)).toInt32)] [] 0 0
          have e9 : ((kI (p : Int)).toUInt32 >>> (((kI 8) * (kI (i : Int))).toUInt32 &&& Int32.toUInt32 31)).toInt32 = kI (((p / 256 ^ i) : Nat) : Int) := by rw [kI_mul]; exact kI_ush hp i3
          rw [e9]
          refine sq_ok rfl [(.iload 4, 0, 0, 0), (.iand, 0, 0, 0)] 47 _ _ _ _ _ (by decide +kernel) ?_
          show WM mX4_holds 0 0 Post 0 50 [(0, vI (p : Int)), (1, vI (r : Int)), (3, vI ((plen p : Int) - (plen r : Int))), (4, .int m), (5, vI (i : Int))] [.int ((kI (((p / 256 ^ i) : Nat) : Int)) &&& m)] [] 0 0
          have e10 : ((kI (((p / 256 ^ i) : Nat) : Int)) &&& m) = kI (((p / 256 ^ i % 256 ^ plen r) : Nat) : Int) := by exact hm _ hdl
          rw [e10]
          refine sq_ok rfl [(.iload_n 1, 0, 0, 0), (.if_icmp .ne 5, 0, 0, 0)] 50 _ _ _ _ _ (by decide +kernel) ?_
          show (¬ kI (((p / 256 ^ i % 256 ^ plen r) : Nat) : Int) = kI (r : Int) → WM mX4_holds 0 0 Post 0 56 [(0, vI (p : Int)), (1, vI (r : Int)), (3, vI ((plen p : Int) - (plen r : Int))), (4, .int m), (5, vI (i : Int))] [] [] 0 0) ∧ (kI (((p / 256 ^ i % 256 ^ plen r) : Nat) : Int) = kI (r : Int) → WM mX4_holds 0 0 Post 0 54 [(0, vI (p : Int)), (1, vI (r : Int)), (3, vI ((plen p : Int) - (plen r : Int))), (4, .int m), (5, vI (i : Int))] [] [] 0 0)
          refine ⟨fun c51 => ?_, fun c51 => ?_⟩
          · 
            rw [kI_eqU hml hr] at c51
            refine sq_ok rfl [(.iinc 5 1, 0, 0, 0), (.goto (-25), 0, 0, 0)] 56 _ _ _ _ _ (by decide +kernel) ?_
            show WM mX4_holds 0 0 Post 0 34 [(0, vI (p : Int)), (1, vI (r : Int)), (3, vI ((plen p : Int) - (plen r : Int))), (4, .int m), (5, .int ((kI (i : Int)) + (kI 1)))] [] [] 0 0
            have e12 : ((kI (i : Int)) + (kI 1)) = kI ((i : Int) + 1) := by simp only [kI_add, kI_sub, kI_mul]
            rw [e12]
            exact WM.pick [0, 1, 2, 3, 4] rfl (ih34 (i + 1) m (by omega) (fun h => by exfalso; have h0 := hz h; subst h0; apply c51; rw [h]; have h9 : r = 0 := (by rw [h] at l3; omega); rw [h9]; simp [Nat.mod_one]) (by omega) (fun j hj h => by rcases Nat.lt_succ_iff_lt_or_eq.mp hj with h1 | h1; exact hq j h1 h; subst h1; exact c51) (by omega))
          · 
            rw [kI_eqU hml hr] at c51
            refine sq_ok rfl [(.iconst 1, 0, 0, 0), (.ireturn, 0, 0, 0)] 54 _ _ _ _ _ (by decide +kernel) ?_
            show narrow .boolean (.int (kI 1)) = .int (kI 1) ∧ ((0 ≤ 0 ∧ 0 ≤ 0) ∧ Post (some (vI 1)) [])
            refine ⟨(bI_fits true).1, ?_⟩
            refine ⟨⟨Nat.le_refl _, Nat.le_refl _⟩, hPo _ _ ?_⟩
            exact ⟨by rw [hld_true (p := p) (r := r) (i := i) (by omega) c51] <;> rfl, rfl⟩
    exact WM.pick [0, 1, 3, 4, 5] rfl (lp34 _ 0 (kI (-1)) (by omega) (by omega) (by first | (intro x hx; rw [kI_andm1, Nat.mod_eq_of_lt (by rw [show plen r = 4 by omega]; omega)]) | (intro x hx; rw [kI_mul]; exact kI_andm hx (by omega))) (fun j hj => absurd hj (Nat.not_lt_zero _)) (Nat.lt_succ_self _))
