/-! Words.numberAll -/

set_option maxRecDepth 100000 in
set_option maxHeartbeats 4000000 in
theorem c_X10_numberAll (codes : Nat → Nat) (c : Nat) (hc : c ≤ 200) (hW : ∀ j, j < c → codes j < 9223372036854775808) (mo rc : Nat) (hmo : mo < 2147483648) (hrc : rc ≤ mo) (nums : Nat → Int) (rcodes : Nat → Nat) (hR : ∀ j, j < rc → rcodes j < 9223372036854775808) : CT mX10_numberAll 0 0 [.ref 0, .ref 2] [ob 10 [.ref 1, vI (c : Int)], cK 200 codes, ob 9 [vI (mo : Int), .ref 3, .ref 4, vI (rc : Int)], cI mo nums, cK mo rcodes] (fun r w => ∃ (g : Nat → Nat) (d : Nat) (h : Nat → Int) (b : Bool), r = some (vZ b) ∧ w = [ob 10 [.ref 1, vI (d : Int)], cK 200 g, ob 9 [vI (mo : Int), .ref 3, .ref 4, vI (rc : Int)], cI mo h, cK mo rcodes] ∧ (c ≤ d ∧ d ≤ 200) ∧ (∀ j, j < c → g j = codes j) ∧ (∀ j, j < d → g j < 9223372036854775808) ∧ numb (lst codes c) (lst rcodes rc) = if b then some (lst g d, lst h rc) else none) := by
  refine CT.intro rfl (Nat.le_of_ble_eq_true rfl) ?_
  generalize hPost : (fun r w => ∃ (g : Nat → Nat) (d : Nat) (h : Nat → Int) (b : Bool), r = some (vZ b) ∧ w = [ob 10 [.ref 1, vI (d : Int)], cK 200 g, ob 9 [vI (mo : Int), .ref 3, .ref 4, vI (rc : Int)], cI mo h, cK mo rcodes] ∧ (c ≤ d ∧ d ≤ 200) ∧ (∀ j, j < c → g j = codes j) ∧ (∀ j, j < d → g j < 9223372036854775808) ∧ numb (lst codes c) (lst rcodes rc) = if b then some (lst g d, lst h rc) else none : MP) = Post
  have hp : ∀ r w', (fun r w => ∃ (g : Nat → Nat) (d : Nat) (h : Nat → Int) (b : Bool), r = some (vZ b) ∧ w = [ob 10 [.ref 1, vI (d : Int)], cK 200 g, ob 9 [vI (mo : Int), .ref 3, .ref 4, vI (rc : Int)], cI mo h, cK mo rcodes] ∧ (c ≤ d ∧ d ≤ 200) ∧ (∀ j, j < c → g j = codes j) ∧ (∀ j, j < d → g j < 9223372036854775808) ∧ numb (lst codes c) (lst rcodes rc) = if b then some (lst g d, lst h rc) else none : MP) r w' → Post r w' := by rw [← hPost]; exact fun _ _ h => h
  clear hPost
  show WM mX10_numberAll 0 0 Post 5 0 [(0, .ref 0), (1, .ref 2)] [] [ob 10 [.ref 1, vI (c : Int)], cK 200 codes, ob 9 [vI (mo : Int), .ref 3, .ref 4, vI (rc : Int)], cI mo nums, cK mo rcodes] 0 0
  refine sq_ok rfl [(.iconst 0, 0, 0, 0), (.istore_n 2, 0, 0, 0)] 0 _ _ _ _ _ (by decide +kernel) ?_
  show WM mX10_numberAll 0 0 Post 5 2 [(0, .ref 0), (1, .ref 2), (2, vI 0)] [] [ob 10 [.ref 1, vI (c : Int)], cK 200 codes, ob 9 [vI (mo : Int), .ref 3, .ref 4, vI (rc : Int)], cI mo nums, cK mo rcodes] 0 0
  have lp2 : ∀ (n2 : Nat) (i : Nat) (g : Nat → Nat) (d : Nat) (h : Nat → Int), (i ≤ rc) → (c ≤ d ∧ d ≤ 200) → (∀ j, j < c → g j = codes j) → (∀ j, j < d → g j < 9223372036854775808) → (numb (lst codes c) (lst rcodes rc) = (numb (lst g d) ((lst rcodes rc).drop i)).map (fun q => (q.1, lst h i ++ q.2))) → (rc - i) < n2 → WM mX10_numberAll 0 0 Post 5 2 [(0, .ref 0), (1, .ref 2), (2, vI (i : Int))] [] [ob 10 [.ref 1, vI (d : Int)], cK 200 g, ob 9 [vI (mo : Int), .ref 3, .ref 4, vI (rc : Int)], cI mo h, cK mo rcodes] 0 0 := by
    intro n2
    induction n2 with
    | zero => intro i g d h hi hd hg hb hq hm; exact absurd hm (Nat.not_lt_zero _)
    | succ n2 ih2 =>
      intro i g d h hi hd hg hb hq hm2
      refine sq_ok rfl [(.iload_n 2, 0, 0, 0), (.aload_n 1, 0, 0, 0), (.getfield 19, 9, 3, 0), (.if_icmp .ge 70, 0, 0, 0)] 2 _ _ _ _ _ (by decide +kernel) ?_
      show (kI (rc : Int) ≤ kI (i : Int) → WM mX10_numberAll 0 0 Post 5 77 [(0, .ref 0), (1, .ref 2), (2, vI (i : Int))] [] [ob 10 [.ref 1, vI (d : Int)], cK 200 g, ob 9 [vI (mo : Int), .ref 3, .ref 4, vI (rc : Int)], cI mo h, cK mo rcodes] 0 0) ∧ (¬ kI (rc : Int) ≤ kI (i : Int) → WM mX10_numberAll 0 0 Post 5 10 [(0, .ref 0), (1, .ref 2), (2, vI (i : Int))] [] [ob 10 [.ref 1, vI (d : Int)], cK 200 g, ob 9 [vI (mo : Int), .ref 3, .ref 4, vI (rc : Int)], cI mo h, cK mo rcodes] 0 0)
      refine ⟨fun c7 => ?_, fun c7 => ?_⟩
      · 
        rw [kI_le (by omega)] at c7
        refine sq_ok rfl [(.iconst 1, 0, 0, 0), (.ireturn, 0, 0, 0)] 77 _ _ _ _ _ (by decide +kernel) ?_
        show narrow .boolean (.int (kI 1)) = .int (kI 1) ∧ ((0 ≤ 0 ∧ 0 ≤ 0) ∧ Post (some (vI 1)) [ob 10 [.ref 1, vI (d : Int)], cK 200 g, ob 9 [vI (mo : Int), .ref 3, .ref 4, vI (rc : Int)], cI mo h, cK mo rcodes])
        refine ⟨(bI_fits true).1, ?_⟩
        refine ⟨⟨Nat.le_refl _, Nat.le_refl _⟩, hp _ _ ?_⟩
        have e : i = rc := by omega
        subst e
        rw [drop_lst_all] at hq
        exact ⟨g, d, h, true, rfl, rfl, hd, hg, hb, by simpa [numb] using hq⟩
      · 
        rw [kI_le (by omega)] at c7
        refine sq_ok rfl [(.aload_n 0, 0, 0, 0), (.aload_n 1, 0, 0, 0), (.getfield 26, 9, 2, 0), (.iload_n 2, 0, 0, 0), (.laload, 0, 0, 0)] 10 _ _ _ _ _ (by decide +kernel) ?_
        show ∃ j16 : Nat, mj mo (kI (i : Int)) j16 ∧ WM mX10_numberAll 0 0 Post 5 17 [(0, .ref 0), (1, .ref 2), (2, vI (i : Int))] [vJ ((rcodes j16 : Nat) : Int), .ref 0] [ob 10 [.ref 1, vI (d : Int)], cK 200 g, ob 9 [vI (mo : Int), .ref 3, .ref 4, vI (rc : Int)], cI mo h, cK mo rcodes] 0 0
        refine ⟨i, ⟨by omega, by omega, rfl⟩, ?_⟩
        refine wm_callV mX10_find [0, 1] (pc := 17) (rest := []) (mc' := 0) (ms' := 0) (by decide +kernel) kX10_27 (c_X10_find g d hd.2 hb (rcodes i) (hR i (by omega))) rfl rfl ⟨_, rfl, rfl⟩ ⟨Nat.le_of_ble_eq_true rfl, Nat.le_of_ble_eq_true rfl⟩ ⟨Nat.le_of_ble_eq_true rfl, Nat.le_of_ble_eq_true rfl⟩ (Nat.le_of_ble_eq_true rfl) rfl rfl (Nat.le_of_ble_eq_true rfl) rfl ?_
        rintro _ _ ⟨rfl, rfl⟩
        show WM mX10_numberAll 0 0 Post 5 20 [(0, .ref 0), (1, .ref 2), (2, vI (i : Int))] [vI (oI (fnd (fun k => g k == rcodes i) d))] [ob 10 [.ref 1, vI (d : Int)], cK 200 g, ob 9 [vI (mo : Int), .ref 3, .ref 4, vI (rc : Int)], cI mo h, cK mo rcodes] 0 0
        have hRf := oI_Rf (p := fun k => g k == rcodes i) (n := d) (by omega)
        refine sq_ok rfl [(.istore_n 3, 0, 0, 0), (.iload_n 3, 0, 0, 0), (.ifCond .ge 42, 0, 0, 0)] 20 _ _ _ _ _ (by decide +kernel) ?_
        show (kI 0 ≤ kI (oI (fnd (fun k => g k == rcodes i) d)) → WM mX10_numberAll 0 0 Post 5 64 [(0, .ref 0), (1, .ref 2), (2, vI (i : Int)), (3, vI (oI (fnd (fun k => g k == rcodes i) d)))] [] [ob 10 [.ref 1, vI (d : Int)], cK 200 g, ob 9 [vI (mo : Int), .ref 3, .ref 4, vI (rc : Int)], cI mo h, cK mo rcodes] 0 0) ∧ (¬ kI 0 ≤ kI (oI (fnd (fun k => g k == rcodes i) d)) → WM mX10_numberAll 0 0 Post 5 25 [(0, .ref 0), (1, .ref 2), (2, vI (i : Int)), (3, vI (oI (fnd (fun k => g k == rcodes i) d)))] [] [ob 10 [.ref 1, vI (d : Int)], cK 200 g, ob 9 [vI (mo : Int), .ref 3, .ref 4, vI (rc : Int)], cI mo h, cK mo rcodes] 0 0)
        refine ⟨fun c22 => ?_, fun c22 => ?_⟩
        · 
          rw [kI_le (by omega)] at c22
          obtain ⟨kk, hk1, hk2⟩ := oI_pos c22
          rw [drop_lst rcodes (by omega)] at hq
          have hq2 := numb_step hq (numb_hit hk1)
          rw [← hk2] at hq2
          refine sq_ok rfl [(.aload_n 1, 0, 0, 0), (.getfield 22, 9, 1, 0), (.iload_n 2, 0, 0, 0), (.iload_n 3, 0, 0, 0), (.iastore, 0, 0, 0)] 64 _ _ _ _ _ (by decide +kernel) ?_
          show ∃ (j70 : Nat) (g70 : Nat → Int32), (mj mo (kI (i : Int)) j70 ∧ g70 = upd (fun q => kI (h q)) j70 (kI (oI (fnd (fun k => g k == rcodes i) d)))) ∧ WM mX10_numberAll 0 0 Post 5 71 [(0, .ref 0), (1, .ref 2), (2, vI (i : Int)), (3, vI (oI (fnd (fun k => g k == rcodes i) d)))] [] [ob 10 [.ref 1, vI (d : Int)], cK 200 g, ob 9 [vI (mo : Int), .ref 3, .ref 4, vI (rc : Int)], .inl (0, mo, .inl g70), cK mo rcodes] 0 0
          refine ⟨i, fun q => kI ((va_up h i (oI (fnd (fun k => g k == rcodes i) d))) q), ⟨⟨by omega, by omega, rfl⟩, st_I (rfl)⟩, ?_⟩
          refine sq_ok rfl [(.iinc 2 1, 0, 0, 0), (.goto (-72), 0, 0, 0)] 71 _ _ _ _ _ (by decide +kernel) ?_
          show WM mX10_numberAll 0 0 Post 5 2 [(0, .ref 0), (1, .ref 2), (2, .int ((kI (i : Int)) + (kI 1))), (3, vI (oI (fnd (fun k => g k == rcodes i) d)))] [] [ob 10 [.ref 1, vI (d : Int)], cK 200 g, ob 9 [vI (mo : Int), .ref 3, .ref 4, vI (rc : Int)], cI mo (va_up h i (oI (fnd (fun k => g k == rcodes i) d))), cK mo rcodes] 0 0
          have e3 : ((kI (i : Int)) + (kI 1)) = kI ((i : Int) + 1) := by simp only [kI_add, kI_sub, kI_mul]
          rw [e3]
          exact WM.pick [0, 1, 2] rfl (ih2 (i + 1) g d (va_up h i (oI (fnd (fun k => g k == rcodes i) d))) (by omega) (by omega) (by first | exact hg | (intro j hj; rw [va_up, if_neg (by omega)]; exact hg j hj)) (by first | exact hb | (intro j hj; have := hR i (by omega); have := hb j; simp only [va_up]; split <;> omega)) hq2 (by omega))
        · 
          rw [kI_le (by omega)] at c22
          have hk1 := oI_neg c22
          rw [drop_lst rcodes (by omega)] at hq
          refine sq_ok rfl [(.aload_n 0, 0, 0, 0), (.getfield 15, 10, 1, 0), (.sipush 200, 0, 0, 0), (.if_icmp .lt 5, 0, 0, 0)] 25 _ _ _ _ _ (by decide +kernel) ?_
          show (kI (d : Int) < kI 200 → WM mX10_numberAll 0 0 Post 5 37 [(0, .ref 0), (1, .ref 2), (2, vI (i : Int)), (3, vI (oI (fnd (fun k => g k == rcodes i) d)))] [] [ob 10 [.ref 1, vI (d : Int)], cK 200 g, ob 9 [vI (mo : Int), .ref 3, .ref 4, vI (rc : Int)], cI mo h, cK mo rcodes] 0 0) ∧ (¬ kI (d : Int) < kI 200 → WM mX10_numberAll 0 0 Post 5 35 [(0, .ref 0), (1, .ref 2), (2, vI (i : Int)), (3, vI (oI (fnd (fun k => g k == rcodes i) d)))] [] [ob 10 [.ref 1, vI (d : Int)], cK 200 g, ob 9 [vI (mo : Int), .ref 3, .ref 4, vI (rc : Int)], cI mo h, cK mo rcodes] 0 0)
          refine ⟨fun c32 => ?_, fun c32 => ?_⟩
          · 
            rw [kI_lt (by omega)] at c32
            have hq2 := numb_step hq (numb_new hk1 (by omega))
            refine sq_ok rfl [(.aload_n 0, 0, 0, 0), (.getfield 15, 10, 1, 0), (.istore_n 3, 0, 0, 0), (.aload_n 0, 0, 0, 0), (.getfield 11, 10, 0, 0), (.iload_n 3, 0, 0, 0), (.aload_n 1, 0, 0, 0), (.getfield 26, 9, 2, 0), (.iload_n 2, 0, 0, 0), (.laload, 0, 0, 0), (.lastore, 0, 0, 0)] 37 _ _ _ _ _ (by decide +kernel) ?_
            show ∃ j52 : Nat, mj mo (kI (i : Int)) j52 ∧ ∃ (j53 : Nat) (g53 : Nat → Int64), (mj 200 (kI (d : Int)) j53 ∧ g53 = vp_updL (fun q => kL ((g q : Nat) : Int)) j53 (kL ((rcodes j52 : Nat) : Int))) ∧ WM mX10_numberAll 0 0 Post 5 54 [(0, .ref 0), (1, .ref 2), (2, vI (i : Int)), (3, vI (d : Int))] [] [ob 10 [.ref 1, vI (d : Int)], .inl (1, 200, .inr (.inl g53)), ob 9 [vI (mo : Int), .ref 3, .ref 4, vI (rc : Int)], cI mo h, cK mo rcodes] 0 0
            refine ⟨i, ⟨by omega, by omega, rfl⟩, ?_⟩
            refine ⟨d, fun q => kL (((va_up g d (rcodes i)) q : Nat) : Int), ⟨⟨by omega, by omega, rfl⟩, st_K (rfl)⟩, ?_⟩
            refine sq_ok rfl [(.aload_n 0, 0, 0, 0), (.dup, 0, 0, 0), (.getfield 15, 10, 1, 0), (.iconst 1, 0, 0, 0), (.iadd, 0, 0, 0), (.putfield 15, 10, 1, 0), (.aload_n 1, 0, 0, 0), (.getfield 22, 9, 1, 0), (.iload_n 2, 0, 0, 0), (.iload_n 3, 0, 0, 0), (.iastore, 0, 0, 0)] 54 _ _ _ _ _ (by decide +kernel) ?_
            show ∃ (j70 : Nat) (g70 : Nat → Int32), (mj mo (kI (i : Int)) j70 ∧ g70 = upd (fun q => kI (h q)) j70 (kI (d : Int))) ∧ WM mX10_numberAll 0 0 Post 5 71 [(0, .ref 0), (1, .ref 2), (2, vI (i : Int)), (3, vI (d : Int))] [] [ob 10 [.ref 1, .int ((kI (d : Int)) + (kI 1))], cK 200 (va_up g d (rcodes i)), ob 9 [vI (mo : Int), .ref 3, .ref 4, vI (rc : Int)], .inl (0, mo, .inl g70), cK mo rcodes] 0 0
            refine ⟨i, fun q => kI ((va_up h i (d : Int)) q), ⟨⟨by omega, by omega, rfl⟩, st_I (rfl)⟩, ?_⟩
            have e5 : ((kI (d : Int)) + (kI 1)) = kI ((d : Int) + 1) := by simp only [kI_add, kI_sub, kI_mul]
            rw [e5]
            refine sq_ok rfl [(.iinc 2 1, 0, 0, 0), (.goto (-72), 0, 0, 0)] 71 _ _ _ _ _ (by decide +kernel) ?_
            show WM mX10_numberAll 0 0 Post 5 2 [(0, .ref 0), (1, .ref 2), (2, .int ((kI (i : Int)) + (kI 1))), (3, vI (d : Int))] [] [ob 10 [.ref 1, vI ((d : Int) + 1)], cK 200 (va_up g d (rcodes i)), ob 9 [vI (mo : Int), .ref 3, .ref 4, vI (rc : Int)], cI mo (va_up h i (d : Int)), cK mo rcodes] 0 0
            have e6 : ((kI (i : Int)) + (kI 1)) = kI ((i : Int) + 1) := by simp only [kI_add, kI_sub, kI_mul]
            rw [e6]
            exact WM.pick [0, 1, 2] rfl (ih2 (i + 1) (va_up g d (rcodes i)) (d + 1) (va_up h i (d : Int)) (by omega) (by omega) (by first | exact hg | (intro j hj; rw [va_up, if_neg (by omega)]; exact hg j hj)) (by first | exact hb | (intro j hj; have := hR i (by omega); have := hb j; simp only [va_up]; split <;> omega)) hq2 (by omega))
          · 
            rw [kI_lt (by omega)] at c32
            rw [numb_full hk1 (by omega)] at hq
            refine sq_ok rfl [(.iconst 0, 0, 0, 0), (.ireturn, 0, 0, 0)] 35 _ _ _ _ _ (by decide +kernel) ?_
            show narrow .boolean (.int (kI 0)) = .int (kI 0) ∧ ((0 ≤ 0 ∧ 0 ≤ 0) ∧ Post (some (vI 0)) [ob 10 [.ref 1, vI (d : Int)], cK 200 g, ob 9 [vI (mo : Int), .ref 3, .ref 4, vI (rc : Int)], cI mo h, cK mo rcodes])
            refine ⟨(bI_fits false).1, ?_⟩
            refine ⟨⟨Nat.le_refl _, Nat.le_refl _⟩, hp _ _ ?_⟩
            exact ⟨g, d, h, false, rfl, rfl, hd, hg, hb, hq⟩
  exact WM.pick [0, 1, 2] rfl (lp2 _ 0 codes c nums (by omega) (by omega) (fun _ _ => rfl) hW (by simp [lst]) (Nat.lt_succ_self _))
