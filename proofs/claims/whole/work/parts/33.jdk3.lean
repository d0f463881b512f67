/-! the JDK: Long.bitCount -/
def dg : List Nat → Nat
  | [] => 0
  | d :: ds => d + 256 * dg ds
theorem and_sh {a m j : Nat} (A M : Nat) (ha : a < 256) (hj : j < 8) (hm : m < 2 ^ (8 - j)) : ((a + 256 * A) / 2 ^ j) &&& (m + 256 * M) = ((a / 2 ^ j) &&& m) + 256 * ((A / 2 ^ j) &&& M) := by
  have hm8 : m < 2 ^ 8 := Nat.lt_of_lt_of_le hm (Nat.pow_le_pow_right (n := 2) (by omega) (by omega))
  have hx : (a / 2 ^ j) &&& m < 2 ^ 8 := Nat.lt_of_le_of_lt Nat.and_le_right hm8
  rw [Nat.add_comm a, Nat.add_comm m, Nat.add_comm (a / 2 ^ j &&& m)]
  apply Nat.eq_of_testBit_eq
  intro i
  rw [Nat.testBit_and, Nat.testBit_div_two_pow, show 256 = 2 ^ 8 from rfl, Nat.testBit_two_pow_mul_add A ha, Nat.testBit_two_pow_mul_add M hm8, Nat.testBit_two_pow_mul_add _ hx]
  rcases Nat.lt_or_ge i 8 with h1 | h1
  · rw [if_pos h1, if_pos h1, Nat.testBit_and, Nat.testBit_div_two_pow]
    rcases Nat.lt_or_ge i (8 - j) with h2 | h2
    · rw [if_pos (by omega)]
    · have : m.testBit i = false := Nat.testBit_lt_two_pow (Nat.lt_of_lt_of_le hm (Nat.pow_le_pow_right (n := 2) (by omega) h2))
      rw [this, Bool.and_false, Bool.and_false]
  · rw [if_neg (by omega), if_neg (by omega), if_neg (by omega), Nat.testBit_and, Nat.testBit_div_two_pow, show i + j - 8 = i - 8 + j by omega]
theorem dg_and {m j : Nat} (hj : j < 8) (hm : m < 2 ^ (8 - j)) : ∀ ds : List Nat, (∀ a ∈ ds, a < 256) → (dg ds / 2 ^ j) &&& dg (ds.map (fun _ => m)) = dg (ds.map (fun a => (a / 2 ^ j) &&& m))
  | [], _ => by simp [dg]
  | a :: ds, h => by
    simp only [List.map_cons, dg]
    rw [and_sh _ _ (h a List.mem_cons_self) hj hm, dg_and hj hm ds (fun x hx => h x (List.mem_cons_of_mem _ hx))]
theorem dg_sub {f : Nat → Nat} : ∀ ds : List Nat, (∀ a ∈ ds, f a ≤ a) → dg (ds.map f) ≤ dg ds ∧ dg ds - dg (ds.map f) = dg (ds.map (fun a => a - f a))
  | [], _ => by simp [dg]
  | a :: ds, h => by
    have h1 := h a List.mem_cons_self
    obtain ⟨h2, h3⟩ := dg_sub (f := f) ds (fun x hx => h x (List.mem_cons_of_mem _ hx))
    simp only [List.map_cons, dg]
    omega
theorem dg_add {f g : Nat → Nat} : ∀ ds : List Nat, dg (ds.map f) + dg (ds.map g) = dg (ds.map (fun a => f a + g a))
  | [] => by simp [dg]
  | a :: ds => by
    have h2 := dg_add (f := f) (g := g) ds
    simp only [List.map_cons, dg]
    omega
theorem dg_nib : ∀ es : List Nat, (∀ e ∈ es, e ≤ 68 ∧ e % 16 ≤ 4 ∧ e / 16 ≤ 4) → (dg es + dg es / 16) &&& dg (es.map (fun _ => 15)) = dg (es.map (fun e => e % 16 + e / 16)) ∧ dg es % 16 ≤ 4
  | [], _ => by simp [dg]
  | e :: es, h => by
    obtain ⟨h1, h2, h3⟩ := h e List.mem_cons_self
    obtain ⟨i1, i2⟩ := dg_nib es (fun x hx => h x (List.mem_cons_of_mem _ hx))
    simp only [List.map_cons, dg]
    refine ⟨?_, by omega⟩
    have e1 : e + 256 * dg es + (e + 256 * dg es) / 16 = (e + e / 16 + 16 * (dg es % 16)) + 256 * (dg es + dg es / 16) := by omega
    have e2 := and_sh (a := e + e / 16 + 16 * (dg es % 16)) (m := 15) (j := 0) (dg es + dg es / 16) (dg (es.map (fun _ => 15))) (by omega) (by omega) (by decide)
    simp only [Nat.pow_zero, Nat.div_one] at e2
    rw [e1, e2, i1]
    congr 1
    rw [show 15 = 2 ^ 4 - 1 from rfl, Nat.and_two_pow_sub_one_eq_mod]
    omega
def bA (a : Nat) : Nat := a - (a / 2 &&& 85)
def bB (b : Nat) : Nat := (b &&& 51) + (b / 4 &&& 51)
theorem by_ok : ∀ a, a < 256 → (a / 2 &&& 85 ≤ a) ∧ bA a < 256 ∧ bB (bA a) ≤ 68 ∧ bB (bA a) % 16 ≤ 4 ∧ bB (bA a) / 16 ≤ 4 ∧ bB (bA a) % 16 + bB (bA a) / 16 = pop a 8 ∧ pop a 8 ≤ 8 := by decide +kernel
theorem dg_8 {v : Nat} (hv : v < 18446744073709551616) : v = dg [v % 256, v / 256 % 256, v / 65536 % 256, v / 16777216 % 256, v / 4294967296 % 256, v / 1099511627776 % 256, v / 281474976710656 % 256, v / 72057594037927936 % 256] := by
  simp only [dg]
  omega
theorem pop_8 (v : Nat) : pop v 64 = pop (v % 256) 8 + pop (v / 256 % 256) 8 + pop (v / 65536 % 256) 8 + pop (v / 16777216 % 256) 8 + pop (v / 4294967296 % 256) 8 + pop (v / 1099511627776 % 256) 8 + pop (v / 281474976710656 % 256) 8 + pop (v / 72057594037927936 % 256) 8 := by
  have hm : ∀ x, pop (x % 256) 8 = pop x 8 := fun x => pop_mod x 8 8 (Nat.le_refl 8)
  simp only [hm]
  have h7 := pop_add v 56 8
  have h6 := pop_add v 48 8
  have h5 := pop_add v 40 8
  have h4 := pop_add v 32 8
  have h3 := pop_add v 24 8
  have h2 := pop_add v 16 8
  have h1 := pop_add v 8 8
  rw [show (64 : Nat) = 56 + 8 from rfl, h7, show (56 : Nat) = 48 + 8 from rfl, h6, show (48 : Nat) = 40 + 8 from rfl, h5, show (40 : Nat) = 32 + 8 from rfl, h4, show (32 : Nat) = 24 + 8 from rfl, h3, show (24 : Nat) = 16 + 8 from rfl, h2, show (16 : Nat) = 8 + 8 from rfl, h1]
theorem swar_end {a0 a1 a2 a3 a4 a5 a6 a7 x3 x4 x5 x6 : Nat} (h0 : a0 ≤ 8) (h1 : a1 ≤ 8) (h2 : a2 ≤ 8) (h3 : a3 ≤ 8) (h4 : a4 ≤ 8) (h5 : a5 ≤ 8) (h6 : a6 ≤ 8) (h7 : a7 ≤ 8) (e3 : x3 = a0 + 256 * (a1 + 256 * (a2 + 256 * (a3 + 256 * (a4 + 256 * (a5 + 256 * (a6 + 256 * (a7 + 256 * 0)))))))) (e4 : x4 = x3 + x3 / 256) (e5 : x5 = x4 + x4 / 65536) (e6 : x6 = x5 + x5 / 4294967296) : x6 < 18446744073709551616 ∧ x6 % 128 = a0 + a1 + a2 + a3 + a4 + a5 + a6 + a7 := by
  have d3 : x3 / 256 = a1 + 256 * (a2 + 256 * (a3 + 256 * (a4 + 256 * (a5 + 256 * (a6 + 256 * (a7)))))) := by omega
  have f4 : x4 = (a0 + a1) + 256 * ((a1 + a2) + 256 * ((a2 + a3) + 256 * ((a3 + a4) + 256 * ((a4 + a5) + 256 * ((a5 + a6) + 256 * ((a6 + a7) + 256 * ((a7)))))))) := by rw [e4, d3, e3]; clear e4 d3 e3; omega
  clear e4 d3 e3
  have d4 : x4 / 65536 = (a2 + a3) + 256 * ((a3 + a4) + 256 * ((a4 + a5) + 256 * ((a5 + a6) + 256 * ((a6 + a7) + 256 * ((a7)))))) := by clear e5 e6; omega
  have f5 : x5 = (a0 + a1 + a2 + a3) + 256 * ((a1 + a2 + a3 + a4) + 256 * ((a2 + a3 + a4 + a5) + 256 * ((a3 + a4 + a5 + a6) + 256 * ((a4 + a5 + a6 + a7) + 256 * ((a5 + a6 + a7) + 256 * ((a6 + a7) + 256 * ((a7)))))))) := by rw [e5, d4, f4]; clear e5 d4 f4 e6; omega
  clear e5 d4 f4
  have d5 : x5 / 4294967296 = (a4 + a5 + a6 + a7) + 256 * ((a5 + a6 + a7) + 256 * ((a6 + a7) + 256 * ((a7)))) := by clear e6; omega
  have f6 : x6 = (a0 + a1 + a2 + a3 + a4 + a5 + a6 + a7) + 256 * ((a1 + a2 + a3 + a4 + a5 + a6 + a7) + 256 * ((a2 + a3 + a4 + a5 + a6 + a7) + 256 * ((a3 + a4 + a5 + a6 + a7) + 256 * ((a4 + a5 + a6 + a7) + 256 * ((a5 + a6 + a7) + 256 * ((a6 + a7) + 256 * ((a7)))))))) := by rw [e6, d5, f5]; clear e6 d5 f5; omega
  clear e6 d5 f5
  omega
theorem swar {v : Nat} (hv : v < 18446744073709551616) : ∃ x1 x2 x3 x4 x5 x6, x1 = v - (v / 2 &&& 6148914691236517205) ∧ (v / 2 &&& 6148914691236517205) ≤ v ∧ x2 = (x1 &&& 3689348814741910323) + (x1 / 4 &&& 3689348814741910323) ∧ x2 + x2 / 16 < 18446744073709551616 ∧ x3 = (x2 + x2 / 16) &&& 1085102592571150095 ∧ x4 = x3 + x3 / 256 ∧ x5 = x4 + x4 / 65536 ∧ x6 = x5 + x5 / 4294967296 ∧ x6 < 18446744073709551616 ∧ x6 % 128 = pop v 64 := by
  obtain ⟨ds, hds⟩ : ∃ ds, ds = [v % 256, v / 256 % 256, v / 65536 % 256, v / 16777216 % 256, v / 4294967296 % 256, v / 1099511627776 % 256, v / 281474976710656 % 256, v / 72057594037927936 % 256] := ⟨_, rfl⟩
  have hd : v = dg ds := by rw [hds]; exact dg_8 hv
  have hlt : ∀ a ∈ ds, a < 256 := by
    rw [hds]
    intro a ha
    simp only [List.mem_cons, List.not_mem_nil, or_false] at ha
    omega
  have hk : ∀ m, dg (ds.map (fun _ => m)) = m * 72340172838076673 := by
    intro m
    rw [hds]
    simp only [List.map_cons, List.map_nil, dg]
    omega
  have s1 := dg_and (m := 85) (j := 1) (by omega) (by decide) ds hlt
  rw [hk, ← hd] at s1
  have s2 := dg_sub (f := fun a => a / 2 ^ 1 &&& 85) ds (fun a ha => (by_ok a (hlt a ha)).1)
  rw [← s1, ← hd] at s2
  have hl1 : ∀ a ∈ ds.map bA, a < 256 := by
    intro a ha
    obtain ⟨b, h1, rfl⟩ := List.mem_map.mp ha
    exact (by_ok b (hlt b h1)).2.1
  have e1 : v - (v / 2 &&& 6148914691236517205) = dg (ds.map bA) := s2.2
  have hk1 : ∀ m, dg ((ds.map bA).map (fun _ => m)) = m * 72340172838076673 := by
    intro m
    rw [List.map_map]
    exact hk m
  have s3 := dg_and (m := 51) (j := 0) (by omega) (by decide) (ds.map bA) hl1
  have s4 := dg_and (m := 51) (j := 2) (by omega) (by decide) (ds.map bA) hl1
  have s5 := dg_add (f := fun a => a / 2 ^ 0 &&& 51) (g := fun a => a / 2 ^ 2 &&& 51) (ds.map bA)
  rw [← s3, ← s4, hk1] at s5
  simp only [Nat.pow_zero, Nat.div_one] at s5
  have e2 : (dg (ds.map bA) &&& 3689348814741910323) + (dg (ds.map bA) / 4 &&& 3689348814741910323) = dg ((ds.map bA).map bB) := s5
  have hl2 : ∀ e ∈ (ds.map bA).map bB, e ≤ 68 ∧ e % 16 ≤ 4 ∧ e / 16 ≤ 4 := by
    intro e he
    obtain ⟨b, h1, rfl⟩ := List.mem_map.mp he
    obtain ⟨c, h2, rfl⟩ := List.mem_map.mp h1
    have := by_ok c (hlt c h2)
    exact ⟨this.2.2.1, this.2.2.2.1, this.2.2.2.2.1⟩
  have s6 := (dg_nib _ hl2).1
  have hk2 : dg (((ds.map bA).map bB).map (fun _ => 15)) = 1085102592571150095 := by
    rw [List.map_map, List.map_map]
    exact hk 15
  rw [hk2] at s6
  have e3 : dg (((ds.map bA).map bB).map (fun e => e % 16 + e / 16)) = dg (ds.map (fun a => pop a 8)) := by
    rw [List.map_map, List.map_map]
    congr 1
    apply List.map_congr_left
    intro a ha
    exact (by_ok a (hlt a ha)).2.2.2.2.2.1
  rw [e3] at s6
  refine ⟨_, _, _, _, _, _, rfl, s2.1, rfl, ?_, rfl, rfl, rfl, rfl, ?_⟩
  · rw [e1, e2]
    have hb : ∀ e ∈ (ds.map bA).map bB, e ≤ 68 := fun e he => (hl2 e he).1
    rw [hds] at hb ⊢
    simp only [List.map_cons, List.map_nil, List.mem_cons, List.not_mem_nil, or_false, dg] at hb ⊢
    have q0 := hb _ (Or.inl rfl)
    have q1 := hb _ (Or.inr (Or.inl rfl))
    have q2 := hb _ (Or.inr (Or.inr (Or.inl rfl)))
    have q3 := hb _ (Or.inr (Or.inr (Or.inr (Or.inl rfl))))
    have q4 := hb _ (Or.inr (Or.inr (Or.inr (Or.inr (Or.inl rfl)))))
    have q5 := hb _ (Or.inr (Or.inr (Or.inr (Or.inr (Or.inr (Or.inl rfl))))))
    have q6 := hb _ (Or.inr (Or.inr (Or.inr (Or.inr (Or.inr (Or.inr (Or.inl rfl)))))))
    have q7 := hb _ (Or.inr (Or.inr (Or.inr (Or.inr (Or.inr (Or.inr (Or.inr rfl)))))))
    generalize bB (bA (v % 256)) = a0 at *
    generalize bB (bA (v / 256 % 256)) = a1 at *
    generalize bB (bA (v / 65536 % 256)) = a2 at *
    generalize bB (bA (v / 16777216 % 256)) = a3 at *
    generalize bB (bA (v / 4294967296 % 256)) = a4 at *
    generalize bB (bA (v / 1099511627776 % 256)) = a5 at *
    generalize bB (bA (v / 281474976710656 % 256)) = a6 at *
    generalize bB (bA (v / 72057594037927936 % 256)) = a7 at *
    clear s1 s2 s3 s4 s5 s6 e1 e2 e3 hk hk1 hk2 hl1 hl2 hlt hd hds hb
    omega
  · rw [e1, e2, s6, pop_8]
    have hb : ∀ a ∈ ds, pop a 8 ≤ 8 := fun a ha => (by_ok a (hlt a ha)).2.2.2.2.2.2
    rw [hds] at hb ⊢
    simp only [List.map_cons, List.map_nil, List.mem_cons, List.not_mem_nil, or_false, dg] at hb ⊢
    exact swar_end (hb _ (Or.inl rfl)) (hb _ (Or.inr (Or.inl rfl))) (hb _ (Or.inr (Or.inr (Or.inl rfl)))) (hb _ (Or.inr (Or.inr (Or.inr (Or.inl rfl))))) (hb _ (Or.inr (Or.inr (Or.inr (Or.inr (Or.inl rfl)))))) (hb _ (Or.inr (Or.inr (Or.inr (Or.inr (Or.inr (Or.inl rfl))))))) (hb _ (Or.inr (Or.inr (Or.inr (Or.inr (Or.inr (Or.inr (Or.inl rfl)))))))) (hb _ (Or.inr (Or.inr (Or.inr (Or.inr (Or.inr (Or.inr (Or.inr rfl)))))))) rfl rfl rfl rfl

set_option maxRecDepth 100000 in
set_option maxHeartbeats 500000 in
theorem c_bitCount (v : Nat) (hv : v < 18446744073709551616) : CT mJ13_bitCount_95d88 0 0 [vJ (v : Int)] [] (fun r w => r = some (vI ((bl v).length : Nat)) ∧ w = []) := by
  refine CT.intro rfl (Nat.le_of_ble_eq_true rfl) ?_
  generalize hPost : (fun r w => r = some (vI ((bl v).length : Nat)) ∧ w = [] : MP) = Post
  have hPo : ∀ rr ww, (fun r w => r = some (vI ((bl v).length : Nat)) ∧ w = [] : MP) rr ww → Post rr ww := by rw [← hPost]; exact fun _ _ h => h
  clear hPost
  obtain ⟨x1, x2, x3, x4, x5, x6, h1, h1b, h2, h2b, h3, h4, h5, h6, h6b, h7⟩ := swar hv
  have b1 : x1 < 18446744073709551616 := by omega
  have b3 : x3 < 18446744073709551616 := by rw [h3]; exact and_lt h2b
  have hbl : (bl v).length = x6 % 128 := by rw [bl_len, h7]
  show WM mJ13_bitCount_95d88 0 0 Post 0 0 [(0, vJ (v : Int))] [] [] 0 0
  refine sq_ok rfl [(.lload_n 0, 0, 0, 0), (.lload_n 0, 0, 0, 0), (.iconst 1, 0, 0, 0), (.lushr, 0, 0, 0)] 0 _ _ _ _ _ (by decide +kernel) ?_
  show WM mJ13_bitCount_95d88 0 0 Post 0 4 [(0, vJ (v : Int))] [.long (((kL (v : Int)).toUInt64 >>> ((kI 1).toInt64.toUInt64 &&& Int64.toUInt64 63)).toInt64), vJ (v : Int)] [] 0 0
  have e1 : ((kL (v : Int)).toUInt64 >>> ((kI 1).toInt64.toUInt64 &&& Int64.toUInt64 63)).toInt64 = kL (((v / 2) : Nat) : Int) := by exact kL_ush (m := 1) (by omega) (by omega)
  rw [e1]
  refine sq_ok rfl [(.ldc2_w 314, 0, 0, 6148914691236517205), (.land, 0, 0, 0)] 4 _ _ _ _ _ (by decide +kernel) ?_
  show WM mJ13_bitCount_95d88 0 0 Post 0 8 [(0, vJ (v : Int))] [.long ((kL (((v / 2) : Nat) : Int)) &&& (kL 6148914691236517205)), vJ (v : Int)] [] 0 0
  have e2 : ((kL (((v / 2) : Nat) : Int)) &&& (kL 6148914691236517205)) = kL (((v / 2 &&& 6148914691236517205) : Nat) : Int) := by exact kL_and (b := 6148914691236517205) (by omega) (by omega)
  rw [e2]
  refine sq_ok rfl [(.lsub, 0, 0, 0)] 8 _ _ _ _ _ (by decide +kernel) ?_
  show WM mJ13_bitCount_95d88 0 0 Post 0 9 [(0, vJ (v : Int))] [.long ((kL (v : Int)) - (kL (((v / 2 &&& 6148914691236517205) : Nat) : Int)))] [] 0 0
  have e3 : ((kL (v : Int)) - (kL (((v / 2 &&& 6148914691236517205) : Nat) : Int))) = kL (x1 : Int) := by rw [kL_sub]; congr 1; omega
  rw [e3]
  refine sq_ok rfl [(.lstore_n 0, 0, 0, 0), (.lload_n 0, 0, 0, 0), (.ldc2_w 316, 0, 0, 3689348814741910323), (.land, 0, 0, 0)] 9 _ _ _ _ _ (by decide +kernel) ?_
  show WM mJ13_bitCount_95d88 0 0 Post 0 15 [(0, vJ (x1 : Int))] [.long ((kL (x1 : Int)) &&& (kL 3689348814741910323))] [] 0 0
  have e4 : ((kL (x1 : Int)) &&& (kL 3689348814741910323)) = kL (((x1 &&& 3689348814741910323) : Nat) : Int) := by exact kL_and (b := 3689348814741910323) (by omega) (by omega)
  rw [e4]
  refine sq_ok rfl [(.lload_n 0, 0, 0, 0), (.iconst 2, 0, 0, 0), (.lushr, 0, 0, 0)] 15 _ _ _ _ _ (by decide +kernel) ?_
  show WM mJ13_bitCount_95d88 0 0 Post 0 18 [(0, vJ (x1 : Int))] [.long (((kL (x1 : Int)).toUInt64 >>> ((kI 2).toInt64.toUInt64 &&& Int64.toUInt64 63)).toInt64), vJ (((x1 &&& 3689348814741910323) : Nat) : Int)] [] 0 0
  have e5 : ((kL (x1 : Int)).toUInt64 >>> ((kI 2).toInt64.toUInt64 &&& Int64.toUInt64 63)).toInt64 = kL (((x1 / 4) : Nat) : Int) := by exact kL_ush (m := 2) (by omega) (by omega)
  rw [e5]
  refine sq_ok rfl [(.ldc2_w 316, 0, 0, 3689348814741910323), (.land, 0, 0, 0)] 18 _ _ _ _ _ (by decide +kernel) ?_
  show WM mJ13_bitCount_95d88 0 0 Post 0 22 [(0, vJ (x1 : Int))] [.long ((kL (((x1 / 4) : Nat) : Int)) &&& (kL 3689348814741910323)), vJ (((x1 &&& 3689348814741910323) : Nat) : Int)] [] 0 0
  have e6 : ((kL (((x1 / 4) : Nat) : Int)) &&& (kL 3689348814741910323)) = kL (((x1 / 4 &&& 3689348814741910323) : Nat) : Int) := by exact kL_and (b := 3689348814741910323) (by omega) (by omega)
  rw [e6]
  refine sq_ok rfl [(.ladd, 0, 0, 0)] 22 _ _ _ _ _ (by decide +kernel) ?_
  show WM mJ13_bitCount_95d88 0 0 Post 0 23 [(0, vJ (x1 : Int))] [.long ((kL (((x1 &&& 3689348814741910323) : Nat) : Int)) + (kL (((x1 / 4 &&& 3689348814741910323) : Nat) : Int)))] [] 0 0
  have e7 : ((kL (((x1 &&& 3689348814741910323) : Nat) : Int)) + (kL (((x1 / 4 &&& 3689348814741910323) : Nat) : Int))) = kL (x2 : Int) := by rw [kL_add]; congr 1; omega
  rw [e7]
  refine sq_ok rfl [(.lstore_n 0, 0, 0, 0), (.lload_n 0, 0, 0, 0), (.lload_n 0, 0, 0, 0), (.iconst 4, 0, 0, 0), (.lushr, 0, 0, 0)] 23 _ _ _ _ _ (by decide +kernel) ?_
  show WM mJ13_bitCount_95d88 0 0 Post 0 28 [(0, vJ (x2 : Int))] [.long (((kL (x2 : Int)).toUInt64 >>> ((kI 4).toInt64.toUInt64 &&& Int64.toUInt64 63)).toInt64), vJ (x2 : Int)] [] 0 0
  have e8 : ((kL (x2 : Int)).toUInt64 >>> ((kI 4).toInt64.toUInt64 &&& Int64.toUInt64 63)).toInt64 = kL (((x2 / 16) : Nat) : Int) := by exact kL_ush (m := 4) (by omega) (by omega)
  rw [e8]
  refine sq_ok rfl [(.ladd, 0, 0, 0)] 28 _ _ _ _ _ (by decide +kernel) ?_
  show WM mJ13_bitCount_95d88 0 0 Post 0 29 [(0, vJ (x2 : Int))] [.long ((kL (x2 : Int)) + (kL (((x2 / 16) : Nat) : Int)))] [] 0 0
  have e9 : ((kL (x2 : Int)) + (kL (((x2 / 16) : Nat) : Int))) = kL (((x2 + x2 / 16) : Nat) : Int) := by rw [kL_add]; rfl
  rw [e9]
  refine sq_ok rfl [(.ldc2_w 318, 0, 0, 1085102592571150095), (.land, 0, 0, 0)] 29 _ _ _ _ _ (by decide +kernel) ?_
  show WM mJ13_bitCount_95d88 0 0 Post 0 33 [(0, vJ (x2 : Int))] [.long ((kL (((x2 + x2 / 16) : Nat) : Int)) &&& (kL 1085102592571150095))] [] 0 0
  have e10 : ((kL (((x2 + x2 / 16) : Nat) : Int)) &&& (kL 1085102592571150095)) = kL (x3 : Int) := by rw [h3]; exact kL_and (b := 1085102592571150095) h2b (by omega)
  rw [e10]
  refine sq_ok rfl [(.lstore_n 0, 0, 0, 0), (.lload_n 0, 0, 0, 0), (.lload_n 0, 0, 0, 0), (.bipush 8, 0, 0, 0), (.lushr, 0, 0, 0)] 33 _ _ _ _ _ (by decide +kernel) ?_
  show WM mJ13_bitCount_95d88 0 0 Post 0 39 [(0, vJ (x3 : Int))] [.long (((kL (x3 : Int)).toUInt64 >>> ((kI 8).toInt64.toUInt64 &&& Int64.toUInt64 63)).toInt64), vJ (x3 : Int)] [] 0 0
  have e11 : ((kL (x3 : Int)).toUInt64 >>> ((kI 8).toInt64.toUInt64 &&& Int64.toUInt64 63)).toInt64 = kL (((x3 / 256) : Nat) : Int) := by exact kL_ush (m := 8) (by omega) (by omega)
  rw [e11]
  refine sq_ok rfl [(.ladd, 0, 0, 0)] 39 _ _ _ _ _ (by decide +kernel) ?_
  show WM mJ13_bitCount_95d88 0 0 Post 0 40 [(0, vJ (x3 : Int))] [.long ((kL (x3 : Int)) + (kL (((x3 / 256) : Nat) : Int)))] [] 0 0
  have e12 : ((kL (x3 : Int)) + (kL (((x3 / 256) : Nat) : Int))) = kL (x4 : Int) := by rw [kL_add]; congr 1; omega
  rw [e12]
  refine sq_ok rfl [(.lstore_n 0, 0, 0, 0), (.lload_n 0, 0, 0, 0), (.lload_n 0, 0, 0, 0), (.bipush 16, 0, 0, 0), (.lushr, 0, 0, 0)] 40 _ _ _ _ _ (by decide +kernel) ?_
  show WM mJ13_bitCount_95d88 0 0 Post 0 46 [(0, vJ (x4 : Int))] [.long (((kL (x4 : Int)).toUInt64 >>> ((kI 16).toInt64.toUInt64 &&& Int64.toUInt64 63)).toInt64), vJ (x4 : Int)] [] 0 0
  have e13 : ((kL (x4 : Int)).toUInt64 >>> ((kI 16).toInt64.toUInt64 &&& Int64.toUInt64 63)).toInt64 = kL (((x4 / 65536) : Nat) : Int) := by exact kL_ush (m := 16) (by omega) (by omega)
  rw [e13]
  refine sq_ok rfl [(.ladd, 0, 0, 0)] 46 _ _ _ _ _ (by decide +kernel) ?_
  show WM mJ13_bitCount_95d88 0 0 Post 0 47 [(0, vJ (x4 : Int))] [.long ((kL (x4 : Int)) + (kL (((x4 / 65536) : Nat) : Int)))] [] 0 0
  have e14 : ((kL (x4 : Int)) + (kL (((x4 / 65536) : Nat) : Int))) = kL (x5 : Int) := by rw [kL_add]; congr 1; omega
  rw [e14]
  refine sq_ok rfl [(.lstore_n 0, 0, 0, 0), (.lload_n 0, 0, 0, 0), (.lload_n 0, 0, 0, 0), (.bipush 32, 0, 0, 0), (.lushr, 0, 0, 0)] 47 _ _ _ _ _ (by decide +kernel) ?_
  show WM mJ13_bitCount_95d88 0 0 Post 0 53 [(0, vJ (x5 : Int))] [.long (((kL (x5 : Int)).toUInt64 >>> ((kI 32).toInt64.toUInt64 &&& Int64.toUInt64 63)).toInt64), vJ (x5 : Int)] [] 0 0
  have e15 : ((kL (x5 : Int)).toUInt64 >>> ((kI 32).toInt64.toUInt64 &&& Int64.toUInt64 63)).toInt64 = kL (((x5 / 4294967296) : Nat) : Int) := by exact kL_ush (m := 32) (by omega) (by omega)
  rw [e15]
  refine sq_ok rfl [(.ladd, 0, 0, 0)] 53 _ _ _ _ _ (by decide +kernel) ?_
  show WM mJ13_bitCount_95d88 0 0 Post 0 54 [(0, vJ (x5 : Int))] [.long ((kL (x5 : Int)) + (kL (((x5 / 4294967296) : Nat) : Int)))] [] 0 0
  have e16 : ((kL (x5 : Int)) + (kL (((x5 / 4294967296) : Nat) : Int))) = kL (x6 : Int) := by rw [kL_add]; congr 1; omega
  rw [e16]
  refine sq_ok rfl [(.lstore_n 0, 0, 0, 0), (.lload_n 0, 0, 0, 0), (.l2i, 0, 0, 0)] 54 _ _ _ _ _ (by decide +kernel) ?_
  show WM mJ13_bitCount_95d88 0 0 Post 0 57 [(0, vJ (x6 : Int))] [.int ((kL (x6 : Int)).toInt32)] [] 0 0
  have e17 : (kL (x6 : Int)).toInt32 = kI (((x6 % 4294967296) : Nat) : Int) := by exact kL_l2im h6b
  rw [e17]
  refine sq_ok rfl [(.bipush 127, 0, 0, 0), (.iand, 0, 0, 0)] 57 _ _ _ _ _ (by decide +kernel) ?_
  show WM mJ13_bitCount_95d88 0 0 Post 0 60 [(0, vJ (x6 : Int))] [.int ((kI (((x6 % 4294967296) : Nat) : Int)) &&& (kI 127))] [] 0 0
  have e18 : ((kI (((x6 % 4294967296) : Nat) : Int)) &&& (kI 127)) = kI (((x6 % 4294967296 % 128) : Nat) : Int) := by rw [kI_nat, kI_nat]; exact pk_andN (by omega) (m := kI 127) 7 (by decide)
  rw [e18]
  refine sq_ok rfl [(.ireturn, 0, 0, 0)] 60 _ _ _ _ _ (by decide +kernel) ?_
  show ((0 ≤ 0 ∧ 0 ≤ 0) ∧ Post (some (vI (((x6 % 4294967296 % 128) : Nat) : Int))) [])
  refine ⟨⟨Nat.le_refl _, Nat.le_refl _⟩, hPo _ _ ?_⟩
  exact ⟨congrArg (fun q : Nat => some (vI (q : Int))) (by rw [hbl]; omega), rfl⟩
