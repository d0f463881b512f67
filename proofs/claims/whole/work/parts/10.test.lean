set_option maxRecDepth 100000 in
set_option maxHeartbeats 4000000 in
theorem c_X10_find (codes : Nat → Int) (c : Nat) (hc : c ≤ 200) (code : Int) (hcode : lR code) (hcodes : ∀ j, j < c → lR (codes j)) : CT mX10_find 0 0 [.ref 0, vJ code] [ob 10 [.ref 1, vI (c : Int)], cJ 200 codes] (fun r w => (∃ z : Int, r = some (vI z) ∧ ((z = -2 ∧ ∀ j, j < c → codes j ≠ code) ∨ ∃ k : Nat, z = k ∧ k < c ∧ codes k = code ∧ ∀ j, j < k → codes j ≠ code)) ∧ w = [ob 10 [.ref 1, vI (c : Int)], cJ 200 codes]) := by
  refine CT.intro rfl (Nat.le_of_ble_eq_true rfl) ?_
  generalize hPost : (fun r w => (∃ z : Int, r = some (vI z) ∧ ((z = -2 ∧ ∀ j, j < c → codes j ≠ code) ∨ ∃ k : Nat, z = k ∧ k < c ∧ codes k = code ∧ ∀ j, j < k → codes j ≠ code)) ∧ w = [ob 10 [.ref 1, vI (c : Int)], cJ 200 codes] : MP) = Post
  have hp : ∀ r w', (fun r w => (∃ z : Int, r = some (vI z) ∧ ((z = -2 ∧ ∀ j, j < c → codes j ≠ code) ∨ ∃ k : Nat, z = k ∧ k < c ∧ codes k = code ∧ ∀ j, j < k → codes j ≠ code)) ∧ w = [ob 10 [.ref 1, vI (c : Int)], cJ 200 codes] : MP) r w' → Post r w' := by rw [← hPost]; exact fun _ _ h => h
  clear hPost
  show WM mX10_find 0 0 Post 2 0 [(0, .ref 0), (1, vJ code)] [] [ob 10 [.ref 1, vI (c : Int)], cJ 200 codes] 0 0
  refine sq_ok rfl [(.iconst 0, 0, 0, 0), (.istore_n 3, 0, 0, 0)] 0 _ _ _ _ _ (by decide +kernel) ?_
  show WM mX10_find 0 0 Post 2 2 [(0, .ref 0), (1, vJ code), (3, vI 0)] [] [ob 10 [.ref 1, vI (c : Int)], cJ 200 codes] 0 0
  have lp2 : ∀ (n2 : Nat) (k : Nat), (k ≤ c) → (∀ j, j < k → codes j ≠ code) → (c - k) < n2 → WM mX10_find 0 0 Post 2 2 [(0, .ref 0), (1, vJ code), (3, vI (k : Int))] [] [ob 10 [.ref 1, vI (c : Int)], cJ 200 codes] 0 0 := by
    intro n2
    induction n2 with
    | zero => intro k hk hq hm; exact absurd hm (Nat.not_lt_zero _)
    | succ n2 ih2 =>
      intro k hk hq hm2
      refine sq_ok rfl [(.iload_n 3, 0, 0, 0), (.aload_n 0, 0, 0, 0), (.getfield 15, 10, 1, 0), (.if_icmp .ge 22, 0, 0, 0)] 2 _ _ _ _ _ (by decide +kernel) ?_
      show (kI (c : Int) ≤ kI (k : Int) → WM mX10_find 0 0 Post 2 29 [(0, .ref 0), (1, vJ code), (3, vI (k : Int))] [] [ob 10 [.ref 1, vI (c : Int)], cJ 200 codes] 0 0) ∧ (¬ kI (c : Int) ≤ kI (k : Int) → WM mX10_find 0 0 Post 2 10 [(0, .ref 0), (1, vJ code), (3, vI (k : Int))] [] [ob 10 [.ref 1, vI (c : Int)], cJ 200 codes] 0 0)
      refine ⟨fun c7 => ?_, fun c7 => ?_⟩
      · 
        rw [kI_le (by omega)] at c7
        refine sq_ok rfl [(.bipush (-2), 0, 0, 0), (.ireturn, 0, 0, 0)] 29 _ _ _ _ _ (by decide +kernel) ?_
        show ((0 ≤ 0 ∧ 0 ≤ 0) ∧ Post (some (vI (-2))) [ob 10 [.ref 1, vI (c : Int)], cJ 200 codes])
        refine ⟨⟨Nat.le_refl _, Nat.le_refl _⟩, hp _ _ ?_⟩
        exact ⟨rfl, rfl⟩
      · 
        rw [kI_le (by omega)] at c7
        have hck := hcodes k (by omega)
        unfold lR at hck hcode
        refine sq_ok rfl [(.aload_n 0, 0, 0, 0), (.getfield 11, 10, 0, 0), (.iload_n 3, 0, 0, 0), (.laload, 0, 0, 0), (.lload_n 1, 0, 0, 0), (.lcmp, 0, 0, 0), (.ifCond .ne 5, 0, 0, 0)] 10 _ _ _ _ _ (by decide +kernel) ?_
        show ∃ j15 : Nat, mj 200 (kI (k : Int)) j15 ∧ (¬ (lg_cmp (kL (codes j15)) (kL code)) = kI 0 → WM mX10_find 0 0 Post 2 23 [(0, .ref 0), (1, vJ code), (3, vI (k : Int))] [] [ob 10 [.ref 1, vI (c : Int)], cJ 200 codes] 0 0) ∧ ((lg_cmp (kL (codes j15)) (kL code)) = kI 0 → WM mX10_find 0 0 Post 2 21 [(0, .ref 0), (1, vJ code), (3, vI (k : Int))] [] [ob 10 [.ref 1, vI (c : Int)], cJ 200 codes] 0 0)
        refine ⟨k, ⟨by omega, by omega, rfl⟩, ?_⟩
        refine ⟨fun c18 => ?_, fun c18 => ?_⟩
        · 
          rw [lc_eq, kL_eq (by omega)] at c18
          refine sq_ok rfl [(.iinc 3 1, 0, 0, 0), (.goto (-24), 0, 0, 0)] 23 _ _ _ _ _ (by decide +kernel) ?_
          show WM mX10_find 0 0 Post 2 2 [(0, .ref 0), (1, vJ code), (3, .int ((kI (k : Int)) + (kI 1)))] [] [ob 10 [.ref 1, vI (c : Int)], cJ 200 codes] 0 0
          have e3 : ((kI (k : Int)) + (kI 1)) = kI ((k : Int) + 1) := by simp only [kI_add, kI_sub, kI_mul]
          rw [e3]
          exact WM.pick [0, 1, 2] rfl (ih2 (k + 1) (by omega) (by omega) (by omega))
        · 
          rw [lc_eq, kL_eq (by omega)] at c18
          refine sq_ok rfl [(.iload_n 3, 0, 0, 0), (.ireturn, 0, 0, 0)] 21 _ _ _ _ _ (by decide +kernel) ?_
          show ((0 ≤ 0 ∧ 0 ≤ 0) ∧ Post (some (vI (k : Int))) [ob 10 [.ref 1, vI (c : Int)], cJ 200 codes])
          refine ⟨⟨Nat.le_refl _, Nat.le_refl _⟩, hp _ _ ?_⟩
          exact ⟨rfl, rfl⟩
  exact WM.pick [0, 1, 2] rfl (lp2 _ 0 (by omega) (fun j hj => absurd hj (Nat.not_lt_zero _)) (Nat.lt_succ_self _))
