/-! the JDK's own -/

set_option maxRecDepth 100000 in
set_option maxHeartbeats 4000000 in
theorem c_rangeCheck (n a b : Nat) (hn : n < 2147483648) (hab : a ≤ b) (hb : b ≤ n) : CT mJ7_rangeCheck_23922 0 0 [vI (n : Int), vI (a : Int), vI (b : Int)] [] (fun r w => r = none ∧ w = []) := by
  refine CT.intro rfl (Nat.le_of_ble_eq_true rfl) ?_
  generalize hPost : (fun r w => r = none ∧ w = [] : MP) = Post
  have hp : ∀ r w', (fun r w => r = none ∧ w = [] : MP) r w' → Post r w' := by rw [← hPost]; exact fun _ _ h => h
  clear hPost
  show WM mJ7_rangeCheck_23922 0 0 Post 0 0 [(0, vI (n : Int)), (1, vI (a : Int)), (2, vI (b : Int))] [] [] 0 0
  refine sq_ok rfl [(.iload_n 1, 0, 0, 0), (.iload_n 2, 0, 0, 0), (.if_icmp .le 44, 0, 0, 0)] 0 _ _ _ _ _ (by decide +kernel) ?_
  show (kI (a : Int) ≤ kI (b : Int) → WM mJ7_rangeCheck_23922 0 0 Post 0 46 [(0, vI (n : Int)), (1, vI (a : Int)), (2, vI (b : Int))] [] [] 0 0) ∧ (¬ kI (a : Int) ≤ kI (b : Int) → WM mJ7_rangeCheck_23922 0 0 Post 0 5 [(0, vI (n : Int)), (1, vI (a : Int)), (2, vI (b : Int))] [] [] 0 0)
  refine ⟨fun c2 => ?_, fun c2 => ?_⟩
  · 
    rw [kI_le (by omega)] at c2
    refine sq_ok rfl [(.iload_n 1, 0, 0, 0), (.ifCond .ge 12, 0, 0, 0)] 46 _ _ _ _ _ (by decide +kernel) ?_
    show (kI 0 ≤ kI (a : Int) → WM mJ7_rangeCheck_23922 0 0 Post 0 59 [(0, vI (n : Int)), (1, vI (a : Int)), (2, vI (b : Int))] [] [] 0 0) ∧ (¬ kI 0 ≤ kI (a : Int) → WM mJ7_rangeCheck_23922 0 0 Post 0 50 [(0, vI (n : Int)), (1, vI (a : Int)), (2, vI (b : Int))] [] [] 0 0)
    refine ⟨fun c47 => ?_, fun c47 => ?_⟩
    · 
      rw [kI_le (by omega)] at c47
      refine sq_ok rfl [(.iload_n 2, 0, 0, 0), (.iload_n 0, 0, 0, 0), (.if_icmp .le 12, 0, 0, 0)] 59 _ _ _ _ _ (by decide +kernel) ?_
      show (kI (b : Int) ≤ kI (n : Int) → WM mJ7_rangeCheck_23922 0 0 Post 0 73 [(0, vI (n : Int)), (1, vI (a : Int)), (2, vI (b : Int))] [] [] 0 0) ∧ (¬ kI (b : Int) ≤ kI (n : Int) → WM mJ7_rangeCheck_23922 0 0 Post 0 64 [(0, vI (n : Int)), (1, vI (a : Int)), (2, vI (b : Int))] [] [] 0 0)
      refine ⟨fun c61 => ?_, fun c61 => ?_⟩
      · 
        rw [kI_le (by omega)] at c61
        refine sq_ok rfl [(.return_, 0, 0, 0)] 73 _ _ _ _ _ (by decide +kernel) ?_
        show ((0 ≤ 0 ∧ 0 ≤ 0) ∧ Post none [])
        refine ⟨⟨Nat.le_refl _, Nat.le_refl _⟩, hp _ _ ?_⟩
        exact ⟨rfl, rfl⟩
      · 
        exact absurd (by rw [kI_le (by omega)]; omega) c61
    · 
      exact absurd (by rw [kI_le (by omega)]; omega) c47
  · 
    exact absurd (by rw [kI_le (by omega)]; omega) c2

set_option maxRecDepth 100000 in
set_option maxHeartbeats 4000000 in
theorem c_fillI (n : Nat) (hn : n < 2147483648) (f : Nat → Int) (v : Int) : CT mJ7_fill_53178 0 0 [.ref 0, vI v] [cI n f] (fun r w => r = none ∧ w = [cI n (fun q => if q < n then v else f q)]) := by
  refine CT.intro rfl (Nat.le_of_ble_eq_true rfl) ?_
  generalize hPost : (fun r w => r = none ∧ w = [cI n (fun q => if q < n then v else f q)] : MP) = Post
  have hp : ∀ r w', (fun r w => r = none ∧ w = [cI n (fun q => if q < n then v else f q)] : MP) r w' → Post r w' := by rw [← hPost]; exact fun _ _ h => h
  clear hPost
  show WM mJ7_fill_53178 0 0 Post 1 0 [(0, .ref 0), (1, vI v)] [] [cI n f] 0 0
  refine sq_ok rfl [(.iconst 0, 0, 0, 0), (.istore_n 2, 0, 0, 0), (.aload_n 0, 0, 0, 0), (.arraylength, 0, 0, 0), (.istore_n 3, 0, 0, 0)] 0 _ _ _ _ _ (by decide +kernel) ?_
  show WM mJ7_fill_53178 0 0 Post 1 5 [(0, .ref 0), (1, vI v), (2, vI 0), (3, vI (n : Int))] [] [cI n f] 0 0
  have lp5 : ∀ (n5 : Nat) (k : Nat) (g : Nat → Int), (k ≤ n) → (g = fun q => if q < k then v else f q) → (n - k) < n5 → WM mJ7_fill_53178 0 0 Post 1 5 [(0, .ref 0), (1, vI v), (2, vI (k : Int)), (3, vI (n : Int))] [] [cI n g] 0 0 := by
    intro n5
    induction n5 with
    | zero => intro k g hk hg hm; exact absurd hm (Nat.not_lt_zero _)
    | succ n5 ih5 =>
      intro k g hk hg hm5
      refine sq_ok rfl [(.iload_n 2, 0, 0, 0), (.iload_n 3, 0, 0, 0), (.if_icmp .ge 13, 0, 0, 0)] 5 _ _ _ _ _ (by decide +kernel) ?_
      show (kI (n : Int) ≤ kI (k : Int) → WM mJ7_fill_53178 0 0 Post 1 20 [(0, .ref 0), (1, vI v), (2, vI (k : Int)), (3, vI (n : Int))] [] [cI n g] 0 0) ∧ (¬ kI (n : Int) ≤ kI (k : Int) → WM mJ7_fill_53178 0 0 Post 1 10 [(0, .ref 0), (1, vI v), (2, vI (k : Int)), (3, vI (n : Int))] [] [cI n g] 0 0)
      refine ⟨fun c7 => ?_, fun c7 => ?_⟩
      · 
        rw [kI_le (by omega)] at c7
        refine sq_ok rfl [(.return_, 0, 0, 0)] 20 _ _ _ _ _ (by decide +kernel) ?_
        show ((0 ≤ 0 ∧ 0 ≤ 0) ∧ Post none [cI n g])
        refine ⟨⟨Nat.le_refl _, Nat.le_refl _⟩, hp _ _ ?_⟩
        have e : k = n := by omega
        subst e
        subst hg
        exact ⟨rfl, rfl⟩
      · 
        rw [kI_le (by omega)] at c7
        refine sq_ok rfl [(.aload_n 0, 0, 0, 0), (.iload_n 2, 0, 0, 0), (.iload_n 1, 0, 0, 0), (.iastore, 0, 0, 0)] 10 _ _ _ _ _ (by decide +kernel) ?_
        show ∃ (j13 : Nat) (g13 : Nat → Int32), (mj n (kI (k : Int)) j13 ∧ g13 = upd (fun q => kI (g q)) j13 (kI v)) ∧ WM mJ7_fill_53178 0 0 Post 1 14 [(0, .ref 0), (1, vI v), (2, vI (k : Int)), (3, vI (n : Int))] [] [.inl (0, n, .inl g13)] 0 0
        refine ⟨k, fun q => kI ((va_up g k v) q), ⟨⟨by omega, by omega, rfl⟩, st_I (rfl)⟩, ?_⟩
        refine sq_ok rfl [(.iinc 2 1, 0, 0, 0), (.goto (-12), 0, 0, 0)] 14 _ _ _ _ _ (by decide +kernel) ?_
        show WM mJ7_fill_53178 0 0 Post 1 5 [(0, .ref 0), (1, vI v), (2, .int ((kI (k : Int)) + (kI 1))), (3, vI (n : Int))] [] [cI n (va_up g k v)] 0 0
        have e2 : ((kI (k : Int)) + (kI 1)) = kI ((k : Int) + 1) := by simp only [kI_add, kI_sub, kI_mul]
        rw [e2]
        exact WM.pick [0, 1, 2, 3] rfl (ih5 (k + 1) (va_up g k v) (by omega) (by subst hg; funext q; simp only [va_up]; by_cases h1 : q = k <;> by_cases h2 : q < k <;> simp [h1, h2] <;> omega) (by omega))
  exact WM.pick [0, 1, 2, 3] rfl (lp5 _ 0 f (by omega) (by funext q; simp) (Nat.lt_succ_self _))

set_option maxRecDepth 100000 in
set_option maxHeartbeats 4000000 in
theorem c_fillJ (n : Nat) (hn : n < 2147483648) (f : Nat → Int) (v : Int) : CT mJ7_fill_d0a16 0 0 [.ref 0, vJ v] [cJ n f] (fun r w => r = none ∧ w = [cJ n (fun q => if q < n then v else f q)]) := by
  refine CT.intro rfl (Nat.le_of_ble_eq_true rfl) ?_
  generalize hPost : (fun r w => r = none ∧ w = [cJ n (fun q => if q < n then v else f q)] : MP) = Post
  have hp : ∀ r w', (fun r w => r = none ∧ w = [cJ n (fun q => if q < n then v else f q)] : MP) r w' → Post r w' := by rw [← hPost]; exact fun _ _ h => h
  clear hPost
  show WM mJ7_fill_d0a16 0 0 Post 1 0 [(0, .ref 0), (1, vJ v)] [] [cJ n f] 0 0
  refine sq_ok rfl [(.iconst 0, 0, 0, 0), (.istore_n 3, 0, 0, 0), (.aload_n 0, 0, 0, 0), (.arraylength, 0, 0, 0), (.istore 4, 0, 0, 0)] 0 _ _ _ _ _ (by decide +kernel) ?_
  show WM mJ7_fill_d0a16 0 0 Post 1 6 [(0, .ref 0), (1, vJ v), (3, vI 0), (4, vI (n : Int))] [] [cJ n f] 0 0
  have lp6 : ∀ (n6 : Nat) (k : Nat) (g : Nat → Int), (k ≤ n) → (g = fun q => if q < k then v else f q) → (n - k) < n6 → WM mJ7_fill_d0a16 0 0 Post 1 6 [(0, .ref 0), (1, vJ v), (3, vI (k : Int)), (4, vI (n : Int))] [] [cJ n g] 0 0 := by
    intro n6
    induction n6 with
    | zero => intro k g hk hg hm; exact absurd hm (Nat.not_lt_zero _)
    | succ n6 ih6 =>
      intro k g hk hg hm6
      refine sq_ok rfl [(.iload_n 3, 0, 0, 0), (.iload 4, 0, 0, 0), (.if_icmp .ge 13, 0, 0, 0)] 6 _ _ _ _ _ (by decide +kernel) ?_
      show (kI (n : Int) ≤ kI (k : Int) → WM mJ7_fill_d0a16 0 0 Post 1 22 [(0, .ref 0), (1, vJ v), (3, vI (k : Int)), (4, vI (n : Int))] [] [cJ n g] 0 0) ∧ (¬ kI (n : Int) ≤ kI (k : Int) → WM mJ7_fill_d0a16 0 0 Post 1 12 [(0, .ref 0), (1, vJ v), (3, vI (k : Int)), (4, vI (n : Int))] [] [cJ n g] 0 0)
      refine ⟨fun c9 => ?_, fun c9 => ?_⟩
      · 
        rw [kI_le (by omega)] at c9
        refine sq_ok rfl [(.return_, 0, 0, 0)] 22 _ _ _ _ _ (by decide +kernel) ?_
        show ((0 ≤ 0 ∧ 0 ≤ 0) ∧ Post none [cJ n g])
        refine ⟨⟨Nat.le_refl _, Nat.le_refl _⟩, hp _ _ ?_⟩
        have e : k = n := by omega
        subst e
        subst hg
        exact ⟨rfl, rfl⟩
      · 
        rw [kI_le (by omega)] at c9
        refine sq_ok rfl [(.aload_n 0, 0, 0, 0), (.iload_n 3, 0, 0, 0), (.lload_n 1, 0, 0, 0), (.lastore, 0, 0, 0)] 12 _ _ _ _ _ (by decide +kernel) ?_
        show ∃ (j15 : Nat) (g15 : Nat → Int64), (mj n (kI (k : Int)) j15 ∧ g15 = vp_updL (fun q => kL (g q)) j15 (kL v)) ∧ WM mJ7_fill_d0a16 0 0 Post 1 16 [(0, .ref 0), (1, vJ v), (3, vI (k : Int)), (4, vI (n : Int))] [] [.inl (1, n, .inr (.inl g15))] 0 0
        refine ⟨k, fun q => kL ((va_up g k v) q), ⟨⟨by omega, by omega, rfl⟩, st_J (rfl)⟩, ?_⟩
        refine sq_ok rfl [(.iinc 3 1, 0, 0, 0), (.goto (-13), 0, 0, 0)] 16 _ _ _ _ _ (by decide +kernel) ?_
        show WM mJ7_fill_d0a16 0 0 Post 1 6 [(0, .ref 0), (1, vJ v), (3, .int ((kI (k : Int)) + (kI 1))), (4, vI (n : Int))] [] [cJ n (va_up g k v)] 0 0
        have e2 : ((kI (k : Int)) + (kI 1)) = kI ((k : Int) + 1) := by simp only [kI_add, kI_sub, kI_mul]
        rw [e2]
        exact WM.pick [0, 1, 2, 3] rfl (ih6 (k + 1) (va_up g k v) (by omega) (by subst hg; funext q; simp only [va_up]; by_cases h1 : q = k <;> by_cases h2 : q < k <;> simp [h1, h2] <;> omega) (by omega))
  exact WM.pick [0, 1, 2, 3] rfl (lp6 _ 0 f (by omega) (by funext q; simp) (Nat.lt_succ_self _))

set_option maxRecDepth 100000 in
set_option maxHeartbeats 4000000 in
theorem c_fillJr (n a b : Nat) (hn : n < 2147483648) (hab : a ≤ b) (hb : b ≤ n) (f : Nat → Int) (v : Int) : CT mJ7_fill_bad5a 0 0 [.ref 0, vI (a : Int), vI (b : Int), vJ v] [cJ n f] (fun r w => r = none ∧ w = [cJ n (fun q => if a ≤ q ∧ q < b then v else f q)]) := by
  refine CT.intro rfl (Nat.le_of_ble_eq_true rfl) ?_
  generalize hPost : (fun r w => r = none ∧ w = [cJ n (fun q => if a ≤ q ∧ q < b then v else f q)] : MP) = Post
  have hp : ∀ r w', (fun r w => r = none ∧ w = [cJ n (fun q => if a ≤ q ∧ q < b then v else f q)] : MP) r w' → Post r w' := by rw [← hPost]; exact fun _ _ h => h
  clear hPost
  show WM mJ7_fill_bad5a 0 0 Post 1 0 [(0, .ref 0), (1, vI (a : Int)), (2, vI (b : Int)), (3, vJ v)] [] [cJ n f] 0 0
  refine sq_ok rfl [(.aload_n 0, 0, 0, 0), (.arraylength, 0, 0, 0), (.iload_n 1, 0, 0, 0), (.iload_n 2, 0, 0, 0)] 0 _ _ _ _ _ (by decide +kernel) ?_
  show WM mJ7_fill_bad5a 0 0 Post 1 4 [(0, .ref 0), (1, vI (a : Int)), (2, vI (b : Int)), (3, vJ v)] [vI (b : Int), vI (a : Int), vI (n : Int)] [cJ n f] 0 0
  refine wm_callS mJ7_rangeCheck_23922 [] (pc := 4) (rest := []) (mc' := 0) (ms' := 0) (by decide +kernel) kJ7_13 (c_rangeCheck n a b hn hab hb) rfl ⟨Nat.le_of_ble_eq_true rfl, Nat.le_of_ble_eq_true rfl⟩ ⟨Nat.le_of_ble_eq_true rfl, Nat.le_of_ble_eq_true rfl⟩ (Nat.le_of_ble_eq_true rfl) rfl rfl (Nat.le_of_ble_eq_true rfl) rfl ?_
  rintro _ _ ⟨rfl, rfl⟩
  show WM mJ7_fill_bad5a 0 0 Post 1 7 [(0, .ref 0), (1, vI (a : Int)), (2, vI (b : Int)), (3, vJ v)] [] [cJ n f] 0 0
  refine sq_ok rfl [(.iload_n 1, 0, 0, 0), (.istore 5, 0, 0, 0)] 7 _ _ _ _ _ (by decide +kernel) ?_
  show WM mJ7_fill_bad5a 0 0 Post 1 10 [(0, .ref 0), (1, vI (a : Int)), (2, vI (b : Int)), (3, vJ v), (5, vI (a : Int))] [] [cJ n f] 0 0
  have lp10 : ∀ (n10 : Nat) (k : Nat) (g : Nat → Int), (a ≤ k ∧ k ≤ b) → (g = fun q => if a ≤ q ∧ q < k then v else f q) → (b - k) < n10 → WM mJ7_fill_bad5a 0 0 Post 1 10 [(0, .ref 0), (2, vI (b : Int)), (3, vJ v), (5, vI (k : Int))] [] [cJ n g] 0 0 := by
    intro n10
    induction n10 with
    | zero => intro k g hk hg hm; exact absurd hm (Nat.not_lt_zero _)
    | succ n10 ih10 =>
      intro k g hk hg hm10
      refine sq_ok rfl [(.iload 5, 0, 0, 0), (.iload_n 2, 0, 0, 0), (.if_icmp .ge 14, 0, 0, 0)] 10 _ _ _ _ _ (by decide +kernel) ?_
      show (kI (b : Int) ≤ kI (k : Int) → WM mJ7_fill_bad5a 0 0 Post 1 27 [(0, .ref 0), (2, vI (b : Int)), (3, vJ v), (5, vI (k : Int))] [] [cJ n g] 0 0) ∧ (¬ kI (b : Int) ≤ kI (k : Int) → WM mJ7_fill_bad5a 0 0 Post 1 16 [(0, .ref 0), (2, vI (b : Int)), (3, vJ v), (5, vI (k : Int))] [] [cJ n g] 0 0)
      refine ⟨fun c13 => ?_, fun c13 => ?_⟩
      · 
        rw [kI_le (by omega)] at c13
        refine sq_ok rfl [(.return_, 0, 0, 0)] 27 _ _ _ _ _ (by decide +kernel) ?_
        show ((0 ≤ 0 ∧ 0 ≤ 0) ∧ Post none [cJ n g])
        refine ⟨⟨Nat.le_refl _, Nat.le_refl _⟩, hp _ _ ?_⟩
        have e : k = b := by omega
        subst e
        subst hg
        exact ⟨rfl, rfl⟩
      · 
        rw [kI_le (by omega)] at c13
        refine sq_ok rfl [(.aload_n 0, 0, 0, 0), (.iload 5, 0, 0, 0), (.lload_n 3, 0, 0, 0), (.lastore, 0, 0, 0)] 16 _ _ _ _ _ (by decide +kernel) ?_
        show ∃ (j20 : Nat) (g20 : Nat → Int64), (mj n (kI (k : Int)) j20 ∧ g20 = vp_updL (fun q => kL (g q)) j20 (kL v)) ∧ WM mJ7_fill_bad5a 0 0 Post 1 21 [(0, .ref 0), (2, vI (b : Int)), (3, vJ v), (5, vI (k : Int))] [] [.inl (1, n, .inr (.inl g20))] 0 0
        refine ⟨k, fun q => kL ((va_up g k v) q), ⟨⟨by omega, by omega, rfl⟩, st_J (rfl)⟩, ?_⟩
        refine sq_ok rfl [(.iinc 5 1, 0, 0, 0), (.goto (-14), 0, 0, 0)] 21 _ _ _ _ _ (by decide +kernel) ?_
        show WM mJ7_fill_bad5a 0 0 Post 1 10 [(0, .ref 0), (2, vI (b : Int)), (3, vJ v), (5, .int ((kI (k : Int)) + (kI 1)))] [] [cJ n (va_up g k v)] 0 0
        have e2 : ((kI (k : Int)) + (kI 1)) = kI ((k : Int) + 1) := by simp only [kI_add, kI_sub, kI_mul]
        rw [e2]
        exact WM.pick [0, 1, 2, 3] rfl (ih10 (k + 1) (va_up g k v) (by omega) (by subst hg; funext q; simp only [va_up]; by_cases h1 : q = k <;> by_cases h2 : a ≤ q ∧ q < k <;> by_cases h3 : a ≤ q ∧ q < k + 1 <;> simp [h1, h2, h3] <;> omega) (by omega))
  exact WM.pick [0, 2, 3, 4] rfl (lp10 _ a f (by omega) (by funext q; rw [if_neg (by omega)]) (Nat.lt_succ_self _))
