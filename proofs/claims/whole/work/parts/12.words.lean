/-! Words, WordRow -/
def dig (b : Int) : Nat := if 48 ≤ b ∧ b ≤ 57 then (b - 47).toNat else if 97 ≤ b ∧ b ≤ 122 then (b - 86).toNat else 0
def chr37 (d : Nat) : Int := if d ≤ 10 then 47 + d else 86 + d
def dlen : Nat → Nat → Nat
  | 0, _ => 0
  | f + 1, x => if 0 < x then dlen f (x / 37) + 1 else 0
def tenW (x : Nat) : Nat := if x = 75 then 10 else if 2 ≤ x ∧ x ≤ 10 then x - 1 else 0
theorem kL_div {a b : Nat} (ha : a < 9223372036854775808) (h0 : 0 < b) (hb : b < 9223372036854775808) : kL (a : Int) / kL (b : Int) = kL ((a / b : Nat) : Int) := by
  rw [kL_nat, kL_nat, kL_nat]
  exact pk_lDiv ha h0 hb
theorem kL_rem {a b : Nat} (ha : a < 9223372036854775808) (h0 : 0 < b) (hb : b < 9223372036854775808) : kL (a : Int) - kL (a : Int) / kL (b : Int) * kL (b : Int) = kL ((a % b : Nat) : Int) := by
  rw [kL_nat, kL_nat, kL_nat]
  exact pk_lRem ha h0 hb
theorem kL_l2i (a : Nat) : (kL (a : Int)).toInt32 = kI (a : Int) := by
  rw [kL_nat, kI_nat]
  exact lN_i a
theorem cpy_I {f g : Nat → Int} {n : Nat} : va_cpy (fun q => kI (f q)) (fun q => kI (g q)) (kI 0).toNatClampNeg (kI 0).toNatClampNeg n = fun q => kI (va_cpy f g 0 0 n q) := by
  have e : (kI 0).toNatClampNeg = 0 := by decide
  rw [e]
  funext q
  unfold va_cpy
  by_cases h : 0 ≤ q ∧ q < 0 + n
  · rw [if_pos h, if_pos h]
  · rw [if_neg h, if_neg h]
theorem dlen_le : ∀ (f x : Nat), dlen f x ≤ f
  | 0, x => Nat.le_refl 0
  | f + 1, x => by
    unfold dlen
    have := dlen_le f (x / 37)
    split <;> omega

set_option maxRecDepth 100000 in
set_option maxHeartbeats 4000000 in
theorem c_X10_init  : CT mX10_init 1 200 [.ref 0] [ob 10 [.null, vI 0]] (fun r w => r = none ∧ w = [ob 10 [.ref 1, vI 0], cK 200 (fun _ => 0)]) := by
  refine CT.intro rfl (Nat.le_of_ble_eq_true rfl) ?_
  generalize hPost : (fun r w => r = none ∧ w = [ob 10 [.ref 1, vI 0], cK 200 (fun _ => 0)] : MP) = Post
  have hp : ∀ r w', (fun r w => r = none ∧ w = [ob 10 [.ref 1, vI 0], cK 200 (fun _ => 0)] : MP) r w' → Post r w' := by rw [← hPost]; exact fun _ _ h => h
  clear hPost
  show WM mX10_init 1 200 Post 1 0 [(0, .ref 0)] [] [ob 10 [.null, vI 0]] 0 0
  refine sq_ok rfl [(.aload_n 0, 0, 0, 0)] 0 _ _ _ _ _ (by decide +kernel) ?_
  show WM mX10_init 1 200 Post 1 1 [(0, .ref 0)] [.ref 0] [ob 10 [.null, vI 0]] 0 0
  refine wm_obj (by decide +kernel) kX10_5 ⟨Nat.le_of_ble_eq_true rfl, Nat.le_of_ble_eq_true rfl⟩ ?_
  show WM mX10_init 1 200 Post 1 4 [(0, .ref 0)] [] [ob 10 [.null, vI 0]] 0 0
  refine sq_ok rfl [(.aload_n 0, 0, 0, 0), (.sipush 200, 0, 0, 0), (.newarray .long, 0, 0, 0), (.putfield 11, 10, 0, 0), (.return_, 0, 0, 0)] 4 _ _ _ _ _ (by decide +kernel) ?_
  show ∃ N8 : Nat, (kI 200 = kI (N8 : Int) ∧ N8 ≤ 1000000 ∧ 0 + 1 ≤ 1 ∧ 0 + N8 ≤ 200) ∧ ((1 ≤ 1 ∧ 0 + N8 ≤ 200) ∧ Post none [ob 10 [.ref 1, vI 0], cJ N8 (fun _ => 0)])
  refine ⟨200, ⟨rfl, Nat.le_of_ble_eq_true rfl, Nat.le_of_ble_eq_true rfl, Nat.le_of_ble_eq_true rfl⟩, ?_⟩
  refine ⟨⟨Nat.le_refl _, Nat.le_of_ble_eq_true rfl⟩, hp _ _ ?_⟩
  exact ⟨rfl, rfl⟩

set_option maxRecDepth 100000 in
set_option maxHeartbeats 4000000 in
theorem c_X10_find (codes : Nat → Nat) (c : Nat) (hc : c ≤ 200) (hW : ∀ j, j < c → codes j < 9223372036854775808) (x : Nat) (hx : x < 9223372036854775808) : CT mX10_find 0 0 [.ref 0, vJ (x : Int)] [ob 10 [.ref 1, vI (c : Int)], cK 200 codes] (fun r w => r = some (vI (oI (fnd (fun k => codes k == x) c))) ∧ w = [ob 10 [.ref 1, vI (c : Int)], cK 200 codes]) := by
  refine CT.intro rfl (Nat.le_of_ble_eq_true rfl) ?_
  generalize hPost : (fun r w => r = some (vI (oI (fnd (fun k => codes k == x) c))) ∧ w = [ob 10 [.ref 1, vI (c : Int)], cK 200 codes] : MP) = Post
  have hp : ∀ r w', (fun r w => r = some (vI (oI (fnd (fun k => codes k == x) c))) ∧ w = [ob 10 [.ref 1, vI (c : Int)], cK 200 codes] : MP) r w' → Post r w' := by rw [← hPost]; exact fun _ _ h => h
  clear hPost
  show WM mX10_find 0 0 Post 2 0 [(0, .ref 0), (1, vJ (x : Int))] [] [ob 10 [.ref 1, vI (c : Int)], cK 200 codes] 0 0
  refine sq_ok rfl [(.iconst 0, 0, 0, 0), (.istore_n 3, 0, 0, 0)] 0 _ _ _ _ _ (by decide +kernel) ?_
  show WM mX10_find 0 0 Post 2 2 [(0, .ref 0), (1, vJ (x : Int)), (3, vI 0)] [] [ob 10 [.ref 1, vI (c : Int)], cK 200 codes] 0 0
  have lp2 : ∀ (n2 : Nat) (k : Nat), (k ≤ c) → (∀ j, j < k → (codes j == x) = false) → (c - k) < n2 → WM mX10_find 0 0 Post 2 2 [(0, .ref 0), (1, vJ (x : Int)), (3, vI (k : Int))] [] [ob 10 [.ref 1, vI (c : Int)], cK 200 codes] 0 0 := by
    intro n2
    induction n2 with
    | zero => intro k hk hq hm; exact absurd hm (Nat.not_lt_zero _)
    | succ n2 ih2 =>
      intro k hk hq hm2
      refine sq_ok rfl [(.iload_n 3, 0, 0, 0), (.aload_n 0, 0, 0, 0), (.getfield 15, 10, 1, 0), (.if_icmp .ge 22, 0, 0, 0)] 2 _ _ _ _ _ (by decide +kernel) ?_
      show (kI (c : Int) ≤ kI (k : Int) → WM mX10_find 0 0 Post 2 29 [(0, .ref 0), (1, vJ (x : Int)), (3, vI (k : Int))] [] [ob 10 [.ref 1, vI (c : Int)], cK 200 codes] 0 0) ∧ (¬ kI (c : Int) ≤ kI (k : Int) → WM mX10_find 0 0 Post 2 10 [(0, .ref 0), (1, vJ (x : Int)), (3, vI (k : Int))] [] [ob 10 [.ref 1, vI (c : Int)], cK 200 codes] 0 0)
      refine ⟨fun c7 => ?_, fun c7 => ?_⟩
      · 
        rw [kI_le (by omega)] at c7
        refine sq_ok rfl [(.bipush (-2), 0, 0, 0), (.ireturn, 0, 0, 0)] 29 _ _ _ _ _ (by decide +kernel) ?_
        show ((0 ≤ 0 ∧ 0 ≤ 0) ∧ Post (some (vI (-2))) [ob 10 [.ref 1, vI (c : Int)], cK 200 codes])
        refine ⟨⟨Nat.le_refl _, Nat.le_refl _⟩, hp _ _ ?_⟩
        exact ⟨by rw [fnd_none (p := fun k => codes k == x) (fun j hj => hq j (by omega))]; rfl, rfl⟩
      · 
        rw [kI_le (by omega)] at c7
        have hck := hW k (by omega)
        refine sq_ok rfl [(.aload_n 0, 0, 0, 0), (.getfield 11, 10, 0, 0), (.iload_n 3, 0, 0, 0), (.laload, 0, 0, 0), (.lload_n 1, 0, 0, 0), (.lcmp, 0, 0, 0), (.ifCond .ne 5, 0, 0, 0)] 10 _ _ _ _ _ (by decide +kernel) ?_
        show ∃ j15 : Nat, mj 200 (kI (k : Int)) j15 ∧ (¬ (lg_cmp (kL ((codes j15 : Nat) : Int)) (kL (x : Int))) = kI 0 → WM mX10_find 0 0 Post 2 23 [(0, .ref 0), (1, vJ (x : Int)), (3, vI (k : Int))] [] [ob 10 [.ref 1, vI (c : Int)], cK 200 codes] 0 0) ∧ ((lg_cmp (kL ((codes j15 : Nat) : Int)) (kL (x : Int))) = kI 0 → WM mX10_find 0 0 Post 2 21 [(0, .ref 0), (1, vJ (x : Int)), (3, vI (k : Int))] [] [ob 10 [.ref 1, vI (c : Int)], cK 200 codes] 0 0)
        refine ⟨k, ⟨by omega, by omega, rfl⟩, ?_⟩
        refine ⟨fun c18 => ?_, fun c18 => ?_⟩
        · 
          rw [lc_eq, kL_eq (by omega)] at c18
          refine sq_ok rfl [(.iinc 3 1, 0, 0, 0), (.goto (-24), 0, 0, 0)] 23 _ _ _ _ _ (by decide +kernel) ?_
          show WM mX10_find 0 0 Post 2 2 [(0, .ref 0), (1, vJ (x : Int)), (3, .int ((kI (k : Int)) + (kI 1)))] [] [ob 10 [.ref 1, vI (c : Int)], cK 200 codes] 0 0
          have e3 : ((kI (k : Int)) + (kI 1)) = kI ((k : Int) + 1) := by simp only [kI_add, kI_sub, kI_mul]
          rw [e3]
          exact WM.pick [0, 1, 2] rfl (ih2 (k + 1) (by omega) (fun j hj => by rcases Nat.lt_succ_iff_lt_or_eq.mp hj with h | h; exact hq j h; subst h; simp; omega) (by omega))
        · 
          rw [lc_eq, kL_eq (by omega)] at c18
          refine sq_ok rfl [(.iload_n 3, 0, 0, 0), (.ireturn, 0, 0, 0)] 21 _ _ _ _ _ (by decide +kernel) ?_
          show ((0 ≤ 0 ∧ 0 ≤ 0) ∧ Post (some (vI (k : Int))) [ob 10 [.ref 1, vI (c : Int)], cK 200 codes])
          refine ⟨⟨Nat.le_refl _, Nat.le_refl _⟩, hp _ _ ?_⟩
          have e : codes k = x := by omega
          exact ⟨by rw [fnd_some (p := fun k => codes k == x) (k := k) (by omega) (by simp [e]) hq]; rfl, rfl⟩
  exact WM.pick [0, 1, 2] rfl (lp2 _ 0 (by omega) (fun j hj => absurd hj (Nat.not_lt_zero _)) (Nat.lt_succ_self _))

set_option maxRecDepth 100000 in
set_option maxHeartbeats 4000000 in
theorem c_X10_findAll (codes : Nat → Nat) (c : Nat) (hc : c ≤ 200) (hW : ∀ j, j < c → codes j < 9223372036854775808) (mo rc : Nat) (hmo : mo < 2147483648) (hrc : rc ≤ mo) (nums : Nat → Int) (rcodes : Nat → Nat) (hR : ∀ j, j < rc → rcodes j < 9223372036854775808) : CT mX10_findAll 0 0 [.ref 0, .ref 2] [ob 10 [.ref 1, vI (c : Int)], cK 200 codes, ob 9 [vI (mo : Int), .ref 3, .ref 4, vI (rc : Int)], cI mo nums, cK mo rcodes] (fun r w => r = none ∧ w = [ob 10 [.ref 1, vI (c : Int)], cK 200 codes, ob 9 [vI (mo : Int), .ref 3, .ref 4, vI (rc : Int)], cI mo (fun q => if q < rc then oI (fnd (fun k => codes k == rcodes q) c) else nums q), cK mo rcodes]) := by
  refine CT.intro rfl (Nat.le_of_ble_eq_true rfl) ?_
  generalize hPost : (fun r w => r = none ∧ w = [ob 10 [.ref 1, vI (c : Int)], cK 200 codes, ob 9 [vI (mo : Int), .ref 3, .ref 4, vI (rc : Int)], cI mo (fun q => if q < rc then oI (fnd (fun k => codes k == rcodes q) c) else nums q), cK mo rcodes] : MP) = Post
  have hp : ∀ r w', (fun r w => r = none ∧ w = [ob 10 [.ref 1, vI (c : Int)], cK 200 codes, ob 9 [vI (mo : Int), .ref 3, .ref 4, vI (rc : Int)], cI mo (fun q => if q < rc then oI (fnd (fun k => codes k == rcodes q) c) else nums q), cK mo rcodes] : MP) r w' → Post r w' := by rw [← hPost]; exact fun _ _ h => h
  clear hPost
  show WM mX10_findAll 0 0 Post 5 0 [(0, .ref 0), (1, .ref 2)] [] [ob 10 [.ref 1, vI (c : Int)], cK 200 codes, ob 9 [vI (mo : Int), .ref 3, .ref 4, vI (rc : Int)], cI mo nums, cK mo rcodes] 0 0
  refine sq_ok rfl [(.iconst 0, 0, 0, 0), (.istore_n 2, 0, 0, 0)] 0 _ _ _ _ _ (by decide +kernel) ?_
  show WM mX10_findAll 0 0 Post 5 2 [(0, .ref 0), (1, .ref 2), (2, vI 0)] [] [ob 10 [.ref 1, vI (c : Int)], cK 200 codes, ob 9 [vI (mo : Int), .ref 3, .ref 4, vI (rc : Int)], cI mo nums, cK mo rcodes] 0 0
  have lp2 : ∀ (n2 : Nat) (i : Nat) (g : Nat → Int), (i ≤ rc) → (g = fun q => if q < i then oI (fnd (fun k => codes k == rcodes q) c) else nums q) → (rc - i) < n2 → WM mX10_findAll 0 0 Post 5 2 [(0, .ref 0), (1, .ref 2), (2, vI (i : Int))] [] [ob 10 [.ref 1, vI (c : Int)], cK 200 codes, ob 9 [vI (mo : Int), .ref 3, .ref 4, vI (rc : Int)], cI mo g, cK mo rcodes] 0 0 := by
    intro n2
    induction n2 with
    | zero => intro i g hi hg hm; exact absurd hm (Nat.not_lt_zero _)
    | succ n2 ih2 =>
      intro i g hi hg hm2
      refine sq_ok rfl [(.iload_n 2, 0, 0, 0), (.aload_n 1, 0, 0, 0), (.getfield 19, 9, 3, 0), (.if_icmp .ge 25, 0, 0, 0)] 2 _ _ _ _ _ (by decide +kernel) ?_
      show (kI (rc : Int) ≤ kI (i : Int) → WM mX10_findAll 0 0 Post 5 32 [(0, .ref 0), (1, .ref 2), (2, vI (i : Int))] [] [ob 10 [.ref 1, vI (c : Int)], cK 200 codes, ob 9 [vI (mo : Int), .ref 3, .ref 4, vI (rc : Int)], cI mo g, cK mo rcodes] 0 0) ∧ (¬ kI (rc : Int) ≤ kI (i : Int) → WM mX10_findAll 0 0 Post 5 10 [(0, .ref 0), (1, .ref 2), (2, vI (i : Int))] [] [ob 10 [.ref 1, vI (c : Int)], cK 200 codes, ob 9 [vI (mo : Int), .ref 3, .ref 4, vI (rc : Int)], cI mo g, cK mo rcodes] 0 0)
      refine ⟨fun c7 => ?_, fun c7 => ?_⟩
      · 
        rw [kI_le (by omega)] at c7
        refine sq_ok rfl [(.return_, 0, 0, 0)] 32 _ _ _ _ _ (by decide +kernel) ?_
        show ((0 ≤ 0 ∧ 0 ≤ 0) ∧ Post none [ob 10 [.ref 1, vI (c : Int)], cK 200 codes, ob 9 [vI (mo : Int), .ref 3, .ref 4, vI (rc : Int)], cI mo g, cK mo rcodes])
        refine ⟨⟨Nat.le_refl _, Nat.le_refl _⟩, hp _ _ ?_⟩
        have e : i = rc := by omega
        subst e
        subst hg
        exact ⟨rfl, rfl⟩
      · 
        rw [kI_le (by omega)] at c7
        refine sq_ok rfl [(.aload_n 1, 0, 0, 0), (.getfield 22, 9, 1, 0), (.iload_n 2, 0, 0, 0), (.aload_n 0, 0, 0, 0), (.aload_n 1, 0, 0, 0), (.getfield 26, 9, 2, 0), (.iload_n 2, 0, 0, 0), (.laload, 0, 0, 0)] 10 _ _ _ _ _ (by decide +kernel) ?_
        show ∃ j21 : Nat, mj mo (kI (i : Int)) j21 ∧ WM mX10_findAll 0 0 Post 5 22 [(0, .ref 0), (1, .ref 2), (2, vI (i : Int))] [vJ ((rcodes j21 : Nat) : Int), .ref 0, vI (i : Int), .ref 3] [ob 10 [.ref 1, vI (c : Int)], cK 200 codes, ob 9 [vI (mo : Int), .ref 3, .ref 4, vI (rc : Int)], cI mo g, cK mo rcodes] 0 0
        refine ⟨i, ⟨by omega, by omega, rfl⟩, ?_⟩
        refine wm_callV mX10_find [0, 1] (pc := 22) (rest := [vI (i : Int), .ref 3]) (mc' := 0) (ms' := 0) (by decide +kernel) kX10_27 (c_X10_find codes c hc hW (rcodes i) (hR i (by omega))) rfl rfl ⟨_, rfl, rfl⟩ ⟨Nat.le_of_ble_eq_true rfl, Nat.le_of_ble_eq_true rfl⟩ ⟨Nat.le_of_ble_eq_true rfl, Nat.le_of_ble_eq_true rfl⟩ (Nat.le_of_ble_eq_true rfl) rfl rfl (Nat.le_of_ble_eq_true rfl) rfl ?_
        rintro _ _ ⟨rfl, rfl⟩
        show WM mX10_findAll 0 0 Post 5 25 [(0, .ref 0), (1, .ref 2), (2, vI (i : Int))] [vI (oI (fnd (fun k => codes k == rcodes i) c)), vI (i : Int), .ref 3] [ob 10 [.ref 1, vI (c : Int)], cK 200 codes, ob 9 [vI (mo : Int), .ref 3, .ref 4, vI (rc : Int)], cI mo g, cK mo rcodes] 0 0
        refine sq_ok rfl [(.iastore, 0, 0, 0)] 25 _ _ _ _ _ (by decide +kernel) ?_
        show ∃ (j25 : Nat) (g25 : Nat → Int32), (mj mo (kI (i : Int)) j25 ∧ g25 = upd (fun q => kI (g q)) j25 (kI (oI (fnd (fun k => codes k == rcodes i) c)))) ∧ WM mX10_findAll 0 0 Post 5 26 [(0, .ref 0), (1, .ref 2), (2, vI (i : Int))] [] [ob 10 [.ref 1, vI (c : Int)], cK 200 codes, ob 9 [vI (mo : Int), .ref 3, .ref 4, vI (rc : Int)], .inl (0, mo, .inl g25), cK mo rcodes] 0 0
        refine ⟨i, fun q => kI ((va_up g i (oI (fnd (fun k => codes k == rcodes i) c))) q), ⟨⟨by omega, by omega, rfl⟩, st_I (rfl)⟩, ?_⟩
        refine sq_ok rfl [(.iinc 2 1, 0, 0, 0), (.goto (-27), 0, 0, 0)] 26 _ _ _ _ _ (by decide +kernel) ?_
        show WM mX10_findAll 0 0 Post 5 2 [(0, .ref 0), (1, .ref 2), (2, .int ((kI (i : Int)) + (kI 1)))] [] [ob 10 [.ref 1, vI (c : Int)], cK 200 codes, ob 9 [vI (mo : Int), .ref 3, .ref 4, vI (rc : Int)], cI mo (va_up g i (oI (fnd (fun k => codes k == rcodes i) c))), cK mo rcodes] 0 0
        have e2 : ((kI (i : Int)) + (kI 1)) = kI ((i : Int) + 1) := by simp only [kI_add, kI_sub, kI_mul]
        rw [e2]
        exact WM.pick [0, 1, 2] rfl (ih2 (i + 1) (va_up g i (oI (fnd (fun k => codes k == rcodes i) c))) (by omega) (by subst hg; funext q; simp only [va_up]; by_cases h1 : q = i <;> by_cases h2 : q < i <;> simp [h1, h2] <;> omega) (by omega))
  exact WM.pick [0, 1, 2] rfl (lp2 _ 0 nums (by omega) (by funext q; simp) (Nat.lt_succ_self _))

set_option maxRecDepth 100000 in
set_option maxHeartbeats 4000000 in
theorem c_X10_forgetFrom (codes : Nat → Nat) (c k : Nat) : CT mX10_forgetFrom 0 0 [.ref 0, vI (k : Int)] [ob 10 [.ref 1, vI (c : Int)], cK 200 codes] (fun r w => r = none ∧ w = [ob 10 [.ref 1, vI (k : Int)], cK 200 codes]) := by
  refine CT.intro rfl (Nat.le_of_ble_eq_true rfl) ?_
  generalize hPost : (fun r w => r = none ∧ w = [ob 10 [.ref 1, vI (k : Int)], cK 200 codes] : MP) = Post
  have hp : ∀ r w', (fun r w => r = none ∧ w = [ob 10 [.ref 1, vI (k : Int)], cK 200 codes] : MP) r w' → Post r w' := by rw [← hPost]; exact fun _ _ h => h
  clear hPost
  show WM mX10_forgetFrom 0 0 Post 2 0 [(0, .ref 0), (1, vI (k : Int))] [] [ob 10 [.ref 1, vI (c : Int)], cK 200 codes] 0 0
  refine sq_ok rfl [(.aload_n 0, 0, 0, 0), (.iload_n 1, 0, 0, 0), (.putfield 15, 10, 1, 0), (.return_, 0, 0, 0)] 0 _ _ _ _ _ (by decide +kernel) ?_
  show ((0 ≤ 0 ∧ 0 ≤ 0) ∧ Post none [ob 10 [.ref 1, vI (k : Int)], cK 200 codes])
  refine ⟨⟨Nat.le_refl _, Nat.le_refl _⟩, hp _ _ ?_⟩
  exact ⟨rfl, rfl⟩

set_option maxRecDepth 100000 in
set_option maxHeartbeats 4000000 in
theorem c_X10_digitOf (b : Int) (hb : iR b) : CT mX10_digitOf 0 0 [vI b] [] (fun r w => r = some (vI (dig b : Int)) ∧ w = []) := by
  refine CT.intro rfl (Nat.le_of_ble_eq_true rfl) ?_
  generalize hPost : (fun r w => r = some (vI (dig b : Int)) ∧ w = [] : MP) = Post
  have hp : ∀ r w', (fun r w => r = some (vI (dig b : Int)) ∧ w = [] : MP) r w' → Post r w' := by rw [← hPost]; exact fun _ _ h => h
  clear hPost
  unfold iR at hb
  show WM mX10_digitOf 0 0 Post 0 0 [(0, vI b)] [] [] 0 0
  refine sq_ok rfl [(.iload_n 0, 0, 0, 0), (.bipush 48, 0, 0, 0), (.if_icmp .lt 16, 0, 0, 0)] 0 _ _ _ _ _ (by decide +kernel) ?_
  show (kI b < kI 48 → WM mX10_digitOf 0 0 Post 0 19 [(0, vI b)] [] [] 0 0) ∧ (¬ kI b < kI 48 → WM mX10_digitOf 0 0 Post 0 6 [(0, vI b)] [] [] 0 0)
  refine ⟨fun c3 => ?_, fun c3 => ?_⟩
  · 
    rw [kI_lt (by omega)] at c3
    refine sq_ok rfl [(.iload_n 0, 0, 0, 0), (.bipush 97, 0, 0, 0), (.if_icmp .lt 17, 0, 0, 0)] 19 _ _ _ _ _ (by decide +kernel) ?_
    show (kI b < kI 97 → WM mX10_digitOf 0 0 Post 0 39 [(0, vI b)] [] [] 0 0) ∧ (¬ kI b < kI 97 → WM mX10_digitOf 0 0 Post 0 25 [(0, vI b)] [] [] 0 0)
    refine ⟨fun c22 => ?_, fun c22 => ?_⟩
    · 
      rw [kI_lt (by omega)] at c22
      refine sq_ok rfl [(.iconst 0, 0, 0, 0), (.ireturn, 0, 0, 0)] 39 _ _ _ _ _ (by decide +kernel) ?_
      show ((0 ≤ 0 ∧ 0 ≤ 0) ∧ Post (some (vI 0)) [])
      refine ⟨⟨Nat.le_refl _, Nat.le_refl _⟩, hp _ _ ?_⟩
      exact ⟨by rw [show (dig b : Int) = 0 by unfold dig; split; omega; split <;> omega], rfl⟩
    · 
      rw [kI_lt (by omega)] at c22
      refine sq_ok rfl [(.iload_n 0, 0, 0, 0), (.bipush 122, 0, 0, 0), (.if_icmp .gt 11, 0, 0, 0)] 25 _ _ _ _ _ (by decide +kernel) ?_
      show (kI 122 < kI b → WM mX10_digitOf 0 0 Post 0 39 [(0, vI b)] [] [] 0 0) ∧ (¬ kI 122 < kI b → WM mX10_digitOf 0 0 Post 0 31 [(0, vI b)] [] [] 0 0)
      refine ⟨fun c28 => ?_, fun c28 => ?_⟩
      · 
        rw [kI_lt (by omega)] at c28
        refine sq_ok rfl [(.iconst 0, 0, 0, 0), (.ireturn, 0, 0, 0)] 39 _ _ _ _ _ (by decide +kernel) ?_
        show ((0 ≤ 0 ∧ 0 ≤ 0) ∧ Post (some (vI 0)) [])
        refine ⟨⟨Nat.le_refl _, Nat.le_refl _⟩, hp _ _ ?_⟩
        exact ⟨by rw [show (dig b : Int) = 0 by unfold dig; split; omega; split <;> omega], rfl⟩
      · 
        rw [kI_lt (by omega)] at c28
        refine sq_ok rfl [(.iload_n 0, 0, 0, 0), (.bipush 97, 0, 0, 0), (.isub, 0, 0, 0), (.bipush 11, 0, 0, 0), (.iadd, 0, 0, 0), (.ireturn, 0, 0, 0)] 31 _ _ _ _ _ (by decide +kernel) ?_
        show ((0 ≤ 0 ∧ 0 ≤ 0) ∧ Post (some (.int (((kI b) - (kI 97)) + (kI 11)))) [])
        have e4 : (((kI b) - (kI 97)) + (kI 11)) = kI ((b - 97) + 11) := by simp only [kI_add, kI_sub, kI_mul]
        rw [e4]
        refine ⟨⟨Nat.le_refl _, Nat.le_refl _⟩, hp _ _ ?_⟩
        exact ⟨by rw [show (dig b : Int) = b - 97 + 11 by unfold dig; split; omega; split <;> omega], rfl⟩
  · 
    rw [kI_lt (by omega)] at c3
    refine sq_ok rfl [(.iload_n 0, 0, 0, 0), (.bipush 57, 0, 0, 0), (.if_icmp .gt 10, 0, 0, 0)] 6 _ _ _ _ _ (by decide +kernel) ?_
    show (kI 57 < kI b → WM mX10_digitOf 0 0 Post 0 19 [(0, vI b)] [] [] 0 0) ∧ (¬ kI 57 < kI b → WM mX10_digitOf 0 0 Post 0 12 [(0, vI b)] [] [] 0 0)
    refine ⟨fun c9 => ?_, fun c9 => ?_⟩
    · 
      rw [kI_lt (by omega)] at c9
      refine sq_ok rfl [(.iload_n 0, 0, 0, 0), (.bipush 97, 0, 0, 0), (.if_icmp .lt 17, 0, 0, 0)] 19 _ _ _ _ _ (by decide +kernel) ?_
      show (kI b < kI 97 → WM mX10_digitOf 0 0 Post 0 39 [(0, vI b)] [] [] 0 0) ∧ (¬ kI b < kI 97 → WM mX10_digitOf 0 0 Post 0 25 [(0, vI b)] [] [] 0 0)
      refine ⟨fun c22 => ?_, fun c22 => ?_⟩
      · 
        rw [kI_lt (by omega)] at c22
        refine sq_ok rfl [(.iconst 0, 0, 0, 0), (.ireturn, 0, 0, 0)] 39 _ _ _ _ _ (by decide +kernel) ?_
        show ((0 ≤ 0 ∧ 0 ≤ 0) ∧ Post (some (vI 0)) [])
        refine ⟨⟨Nat.le_refl _, Nat.le_refl _⟩, hp _ _ ?_⟩
        exact ⟨by rw [show (dig b : Int) = 0 by unfold dig; split; omega; split <;> omega], rfl⟩
      · 
        rw [kI_lt (by omega)] at c22
        refine sq_ok rfl [(.iload_n 0, 0, 0, 0), (.bipush 122, 0, 0, 0), (.if_icmp .gt 11, 0, 0, 0)] 25 _ _ _ _ _ (by decide +kernel) ?_
        show (kI 122 < kI b → WM mX10_digitOf 0 0 Post 0 39 [(0, vI b)] [] [] 0 0) ∧ (¬ kI 122 < kI b → WM mX10_digitOf 0 0 Post 0 31 [(0, vI b)] [] [] 0 0)
        refine ⟨fun c28 => ?_, fun c28 => ?_⟩
        · 
          rw [kI_lt (by omega)] at c28
          refine sq_ok rfl [(.iconst 0, 0, 0, 0), (.ireturn, 0, 0, 0)] 39 _ _ _ _ _ (by decide +kernel) ?_
          show ((0 ≤ 0 ∧ 0 ≤ 0) ∧ Post (some (vI 0)) [])
          refine ⟨⟨Nat.le_refl _, Nat.le_refl _⟩, hp _ _ ?_⟩
          exact ⟨by rw [show (dig b : Int) = 0 by unfold dig; split; omega; split <;> omega], rfl⟩
        · 
          rw [kI_lt (by omega)] at c28
          refine sq_ok rfl [(.iload_n 0, 0, 0, 0), (.bipush 97, 0, 0, 0), (.isub, 0, 0, 0), (.bipush 11, 0, 0, 0), (.iadd, 0, 0, 0), (.ireturn, 0, 0, 0)] 31 _ _ _ _ _ (by decide +kernel) ?_
          show ((0 ≤ 0 ∧ 0 ≤ 0) ∧ Post (some (.int (((kI b) - (kI 97)) + (kI 11)))) [])
          have e8 : (((kI b) - (kI 97)) + (kI 11)) = kI ((b - 97) + 11) := by simp only [kI_add, kI_sub, kI_mul]
          rw [e8]
          refine ⟨⟨Nat.le_refl _, Nat.le_refl _⟩, hp _ _ ?_⟩
          exact ⟨by rw [show (dig b : Int) = b - 97 + 11 by unfold dig; split; omega; split <;> omega], rfl⟩
    · 
      rw [kI_lt (by omega)] at c9
      refine sq_ok rfl [(.iload_n 0, 0, 0, 0), (.bipush 48, 0, 0, 0), (.isub, 0, 0, 0), (.iconst 1, 0, 0, 0), (.iadd, 0, 0, 0), (.ireturn, 0, 0, 0)] 12 _ _ _ _ _ (by decide +kernel) ?_
      show ((0 ≤ 0 ∧ 0 ≤ 0) ∧ Post (some (.int (((kI b) - (kI 48)) + (kI 1)))) [])
      have e9 : (((kI b) - (kI 48)) + (kI 1)) = kI ((b - 48) + 1) := by simp only [kI_add, kI_sub, kI_mul]
      rw [e9]
      refine ⟨⟨Nat.le_refl _, Nat.le_refl _⟩, hp _ _ ?_⟩
      exact ⟨by rw [show (dig b : Int) = b - 48 + 1 by unfold dig; split <;> omega], rfl⟩

set_option maxRecDepth 100000 in
set_option maxHeartbeats 4000000 in
theorem c_X10_lengthOf (x : Nat) (hx : x < 9223372036854775808) : CT mX10_lengthOf 0 0 [vJ (x : Int)] [] (fun r w => r = some (vI (dlen 12 x : Nat)) ∧ w = []) := by
  refine CT.intro rfl (Nat.le_of_ble_eq_true rfl) ?_
  generalize hPost : (fun r w => r = some (vI (dlen 12 x : Nat)) ∧ w = [] : MP) = Post
  have hp : ∀ r w', (fun r w => r = some (vI (dlen 12 x : Nat)) ∧ w = [] : MP) r w' → Post r w' := by rw [← hPost]; exact fun _ _ h => h
  clear hPost
  show WM mX10_lengthOf 0 0 Post 0 0 [(0, vJ (x : Int))] [] [] 0 0
  refine sq_ok rfl [(.iconst 0, 0, 0, 0), (.istore_n 2, 0, 0, 0), (.lload_n 0, 0, 0, 0), (.lstore_n 3, 0, 0, 0)] 0 _ _ _ _ _ (by decide +kernel) ?_
  show WM mX10_lengthOf 0 0 Post 0 4 [(0, vJ (x : Int)), (2, vI 0), (3, vJ (x : Int))] [] [] 0 0
  have lp4 : ∀ (n4 : Nat) (k : Nat) (z : Nat), (k ≤ 12) → (z < 9223372036854775808) → (k + dlen (12 - k) z = dlen 12 x) → (12 - k) < n4 → WM mX10_lengthOf 0 0 Post 0 4 [(2, vI (k : Int)), (3, vJ (z : Int))] [] [] 0 0 := by
    intro n4
    induction n4 with
    | zero => intro k z hk hz hq hm; exact absurd hm (Nat.not_lt_zero _)
    | succ n4 ih4 =>
      intro k z hk hz hq hm4
      refine sq_ok rfl [(.lload_n 3, 0, 0, 0), (.lconst 0, 0, 0, 0), (.lcmp, 0, 0, 0), (.ifCond .le 21, 0, 0, 0)] 4 _ _ _ _ _ (by decide +kernel) ?_
      show ((lg_cmp (kL (z : Int)) (kL 0)) ≤ kI 0 → WM mX10_lengthOf 0 0 Post 0 28 [(2, vI (k : Int)), (3, vJ (z : Int))] [] [] 0 0) ∧ (¬ (lg_cmp (kL (z : Int)) (kL 0)) ≤ kI 0 → WM mX10_lengthOf 0 0 Post 0 10 [(2, vI (k : Int)), (3, vJ (z : Int))] [] [] 0 0)
      refine ⟨fun c7 => ?_, fun c7 => ?_⟩
      · 
        rw [lc_le, kL_le (by omega)] at c7
        refine sq_ok rfl [(.iload_n 2, 0, 0, 0), (.ireturn, 0, 0, 0)] 28 _ _ _ _ _ (by decide +kernel) ?_
        show ((0 ≤ 0 ∧ 0 ≤ 0) ∧ Post (some (vI (k : Int))) [])
        refine ⟨⟨Nat.le_refl _, Nat.le_refl _⟩, hp _ _ ?_⟩
        refine ⟨?_, rfl⟩
        rw [← hq]
        first | (rw [show z = 0 by omega, show dlen (12 - k) 0 = 0 by cases (12 - k) <;> rfl]; rfl) | (rw [show 12 - k = 0 by omega]; rfl)
      · 
        rw [lc_le, kL_le (by omega)] at c7
        refine sq_ok rfl [(.iload_n 2, 0, 0, 0), (.bipush 12, 0, 0, 0), (.if_icmp .ge 15, 0, 0, 0)] 10 _ _ _ _ _ (by decide +kernel) ?_
        show (kI 12 ≤ kI (k : Int) → WM mX10_lengthOf 0 0 Post 0 28 [(2, vI (k : Int)), (3, vJ (z : Int))] [] [] 0 0) ∧ (¬ kI 12 ≤ kI (k : Int) → WM mX10_lengthOf 0 0 Post 0 16 [(2, vI (k : Int)), (3, vJ (z : Int))] [] [] 0 0)
        refine ⟨fun c13 => ?_, fun c13 => ?_⟩
        · 
          rw [kI_le (by omega)] at c13
          refine sq_ok rfl [(.iload_n 2, 0, 0, 0), (.ireturn, 0, 0, 0)] 28 _ _ _ _ _ (by decide +kernel) ?_
          show ((0 ≤ 0 ∧ 0 ≤ 0) ∧ Post (some (vI (k : Int))) [])
          refine ⟨⟨Nat.le_refl _, Nat.le_refl _⟩, hp _ _ ?_⟩
          refine ⟨?_, rfl⟩
          rw [← hq]
          first | (rw [show z = 0 by omega, show dlen (12 - k) 0 = 0 by cases (12 - k) <;> rfl]; rfl) | (rw [show 12 - k = 0 by omega]; rfl)
        · 
          rw [kI_le (by omega)] at c13
          refine sq_ok rfl [(.iinc 2 1, 0, 0, 0), (.lload_n 3, 0, 0, 0), (.ldc2_w 31, 0, 0, 37), (.ldiv, 0, 0, 0)] 16 _ _ _ _ _ (by decide +kernel) ?_
          show ¬ (kL 37) = 0 ∧ WM mX10_lengthOf 0 0 Post 0 24 [(2, .int ((kI (k : Int)) + (kI 1))), (3, vJ (z : Int))] [.long ((kL (z : Int)) / (kL 37))] [] 0 0
          refine ⟨by decide, ?_⟩
          have e3 : ((kI (k : Int)) + (kI 1)) = kI ((k : Int) + 1) := by simp only [kI_add, kI_sub, kI_mul]
          rw [e3]
          have e4 : ((kL (z : Int)) / (kL 37)) = kL (((z / 37) : Nat) : Int) := by exact kL_div (b := 37) (by omega) (by omega) (by omega)
          rw [e4]
          refine sq_ok rfl [(.lstore_n 3, 0, 0, 0), (.goto (-21), 0, 0, 0)] 24 _ _ _ _ _ (by decide +kernel) ?_
          show WM mX10_lengthOf 0 0 Post 0 4 [(2, vI ((k : Int) + 1)), (3, vJ (((z / 37) : Nat) : Int))] [] [] 0 0
          exact WM.pick [0, 1] rfl (ih4 (k + 1) (z / 37) (by omega) (by omega) (by rw [← hq, show 12 - k = (12 - (k + 1)) + 1 by omega]; simp only [dlen]; rw [if_pos (by omega)]; omega) (by omega))
  exact WM.pick [1, 2] rfl (lp4 _ 0 x (by omega) (by omega) (by simp) (Nat.lt_succ_self _))

set_option maxRecDepth 100000 in
set_option maxHeartbeats 4000000 in
theorem c_X10_byteAt (x k : Nat) (hx : x < 9223372036854775808) (hk : k < 100) : CT mX10_byteAt 0 0 [vJ (x : Int), vI (k : Int)] [] (fun r w => r = some (vI (chr37 (x / 37 ^ k % 37))) ∧ w = []) := by
  refine CT.intro rfl (Nat.le_of_ble_eq_true rfl) ?_
  generalize hPost : (fun r w => r = some (vI (chr37 (x / 37 ^ k % 37))) ∧ w = [] : MP) = Post
  have hp : ∀ r w', (fun r w => r = some (vI (chr37 (x / 37 ^ k % 37))) ∧ w = [] : MP) r w' → Post r w' := by rw [← hPost]; exact fun _ _ h => h
  clear hPost
  show WM mX10_byteAt 0 0 Post 0 0 [(0, vJ (x : Int)), (2, vI (k : Int))] [] [] 0 0
  refine sq_ok rfl [(.lload_n 0, 0, 0, 0), (.lstore_n 3, 0, 0, 0), (.iconst 0, 0, 0, 0), (.istore 5, 0, 0, 0)] 0 _ _ _ _ _ (by decide +kernel) ?_
  show WM mX10_byteAt 0 0 Post 0 5 [(0, vJ (x : Int)), (2, vI (k : Int)), (3, vJ (x : Int)), (5, vI 0)] [] [] 0 0
  have lp5 : ∀ (n5 : Nat) (i : Nat) (z : Nat), (i ≤ k) → (z < 9223372036854775808) → (z = x / 37 ^ i) → (k - i) < n5 → WM mX10_byteAt 0 0 Post 0 5 [(2, vI (k : Int)), (3, vJ (z : Int)), (5, vI (i : Int))] [] [] 0 0 := by
    intro n5
    induction n5 with
    | zero => intro i z hi hz hq hm; exact absurd hm (Nat.not_lt_zero _)
    | succ n5 ih5 =>
      intro i z hi hz hq hm5
      refine sq_ok rfl [(.iload 5, 0, 0, 0), (.iload_n 2, 0, 0, 0), (.if_icmp .ge 15, 0, 0, 0)] 5 _ _ _ _ _ (by decide +kernel) ?_
      show (kI (k : Int) ≤ kI (i : Int) → WM mX10_byteAt 0 0 Post 0 23 [(2, vI (k : Int)), (3, vJ (z : Int)), (5, vI (i : Int))] [] [] 0 0) ∧ (¬ kI (k : Int) ≤ kI (i : Int) → WM mX10_byteAt 0 0 Post 0 11 [(2, vI (k : Int)), (3, vJ (z : Int)), (5, vI (i : Int))] [] [] 0 0)
      refine ⟨fun c8 => ?_, fun c8 => ?_⟩
      · 
        rw [kI_le (by omega)] at c8
        have e : i = k := by omega
        have hm := Nat.mod_lt z (show 0 < 37 by omega)
        rw [e] at hq
        refine sq_ok rfl [(.lload_n 3, 0, 0, 0), (.ldc2_w 31, 0, 0, 37), (.lrem, 0, 0, 0)] 23 _ _ _ _ _ (by decide +kernel) ?_
        show ¬ (kL 37) = 0 ∧ WM mX10_byteAt 0 0 Post 0 28 [(2, vI (k : Int)), (3, vJ (z : Int)), (5, vI (i : Int))] [.long ((kL (z : Int)) - (kL (z : Int)) / (kL 37) * (kL 37))] [] 0 0
        refine ⟨by decide, ?_⟩
        have e2 : ((kL (z : Int)) - (kL (z : Int)) / (kL 37) * (kL 37)) = kL (((z % 37) : Nat) : Int) := by exact kL_rem (b := 37) (by omega) (by omega) (by omega)
        rw [e2]
        refine sq_ok rfl [(.l2i, 0, 0, 0)] 28 _ _ _ _ _ (by decide +kernel) ?_
        show WM mX10_byteAt 0 0 Post 0 29 [(2, vI (k : Int)), (3, vJ (z : Int)), (5, vI (i : Int))] [.int ((kL (((z % 37) : Nat) : Int)).toInt32)] [] 0 0
        have e3 : (kL (((z % 37) : Nat) : Int)).toInt32 = kI (((z % 37) : Nat) : Int) := by exact kL_l2i _
        rw [e3]
        refine sq_ok rfl [(.istore 5, 0, 0, 0), (.iload 5, 0, 0, 0), (.bipush 10, 0, 0, 0), (.if_icmp .gt 13, 0, 0, 0)] 29 _ _ _ _ _ (by decide +kernel) ?_
        show (kI 10 < kI (((z % 37) : Nat) : Int) → WM mX10_byteAt 0 0 Post 0 48 [(2, vI (k : Int)), (3, vJ (z : Int)), (5, vI (((z % 37) : Nat) : Int))] [] [] 0 0) ∧ (¬ kI 10 < kI (((z % 37) : Nat) : Int) → WM mX10_byteAt 0 0 Post 0 38 [(2, vI (k : Int)), (3, vJ (z : Int)), (5, vI (((z % 37) : Nat) : Int))] [] [] 0 0)
        refine ⟨fun c35 => ?_, fun c35 => ?_⟩
        · 
          rw [kI_lt (by omega)] at c35
          refine sq_ok rfl [(.bipush 97, 0, 0, 0), (.iload 5, 0, 0, 0), (.iadd, 0, 0, 0), (.bipush 11, 0, 0, 0), (.isub, 0, 0, 0), (.ireturn, 0, 0, 0)] 48 _ _ _ _ _ (by decide +kernel) ?_
          show ((0 ≤ 0 ∧ 0 ≤ 0) ∧ Post (some (.int (((kI 97) + (kI (((z % 37) : Nat) : Int))) - (kI 11)))) [])
          have e5 : (((kI 97) + (kI (((z % 37) : Nat) : Int))) - (kI 11)) = kI ((97 + (((z % 37) : Nat) : Int)) - 11) := by simp only [kI_add, kI_sub, kI_mul]
          rw [e5]
          refine ⟨⟨Nat.le_refl _, Nat.le_refl _⟩, hp _ _ ?_⟩
          exact ⟨by rw [← hq]; unfold chr37; rw [if_neg (by omega)]; congr 3; omega, rfl⟩
        · 
          rw [kI_lt (by omega)] at c35
          refine sq_ok rfl [(.bipush 48, 0, 0, 0), (.iload 5, 0, 0, 0), (.iadd, 0, 0, 0), (.iconst 1, 0, 0, 0), (.isub, 0, 0, 0), (.goto 11, 0, 0, 0)] 38 _ _ _ _ _ (by decide +kernel) ?_
          show WM mX10_byteAt 0 0 Post 0 56 [(2, vI (k : Int)), (3, vJ (z : Int)), (5, vI (((z % 37) : Nat) : Int))] [.int (((kI 48) + (kI (((z % 37) : Nat) : Int))) - (kI 1))] [] 0 0
          have e6 : (((kI 48) + (kI (((z % 37) : Nat) : Int))) - (kI 1)) = kI ((48 + (((z % 37) : Nat) : Int)) - 1) := by simp only [kI_add, kI_sub, kI_mul]
          rw [e6]
          refine sq_ok rfl [(.ireturn, 0, 0, 0)] 56 _ _ _ _ _ (by decide +kernel) ?_
          show ((0 ≤ 0 ∧ 0 ≤ 0) ∧ Post (some (vI ((48 + (((z % 37) : Nat) : Int)) - 1))) [])
          refine ⟨⟨Nat.le_refl _, Nat.le_refl _⟩, hp _ _ ?_⟩
          exact ⟨by rw [← hq]; unfold chr37; rw [if_pos (by omega)]; congr 3; omega, rfl⟩
      · 
        rw [kI_le (by omega)] at c8
        refine sq_ok rfl [(.lload_n 3, 0, 0, 0), (.ldc2_w 31, 0, 0, 37), (.ldiv, 0, 0, 0)] 11 _ _ _ _ _ (by decide +kernel) ?_
        show ¬ (kL 37) = 0 ∧ WM mX10_byteAt 0 0 Post 0 16 [(2, vI (k : Int)), (3, vJ (z : Int)), (5, vI (i : Int))] [.long ((kL (z : Int)) / (kL 37))] [] 0 0
        refine ⟨by decide, ?_⟩
        have e7 : ((kL (z : Int)) / (kL 37)) = kL (((z / 37) : Nat) : Int) := by exact kL_div (b := 37) (by omega) (by omega) (by omega)
        rw [e7]
        refine sq_ok rfl [(.lstore_n 3, 0, 0, 0), (.iinc 5 1, 0, 0, 0), (.goto (-15), 0, 0, 0)] 16 _ _ _ _ _ (by decide +kernel) ?_
        show WM mX10_byteAt 0 0 Post 0 5 [(2, vI (k : Int)), (3, vJ (((z / 37) : Nat) : Int)), (5, .int ((kI (i : Int)) + (kI 1)))] [] [] 0 0
        have e8 : ((kI (i : Int)) + (kI 1)) = kI ((i : Int) + 1) := by simp only [kI_add, kI_sub, kI_mul]
        rw [e8]
        exact WM.pick [0, 1, 2] rfl (ih5 (i + 1) (z / 37) (by omega) (by omega) (by rw [hq, Nat.div_div_eq_div_mul, Nat.pow_succ]) (by omega))
  exact WM.pick [1, 2, 3] rfl (lp5 _ 0 x (by omega) (by omega) (by simp) (Nat.lt_succ_self _))

set_option maxRecDepth 100000 in
set_option maxHeartbeats 4000000 in
theorem c_X10_tenthsOf (x : Nat) (hx : x < 9223372036854775808) : CT mX10_tenthsOf 0 0 [vJ (x : Int)] [] (fun r w => r = some (vI (tenW x : Nat)) ∧ w = []) := by
  refine CT.intro rfl (Nat.le_of_ble_eq_true rfl) ?_
  generalize hPost : (fun r w => r = some (vI (tenW x : Nat)) ∧ w = [] : MP) = Post
  have hp : ∀ r w', (fun r w => r = some (vI (tenW x : Nat)) ∧ w = [] : MP) r w' → Post r w' := by rw [← hPost]; exact fun _ _ h => h
  clear hPost
  show WM mX10_tenthsOf 0 0 Post 0 0 [(0, vJ (x : Int))] [] [] 0 0
  refine sq_ok rfl [(.lload_n 0, 0, 0, 0), (.ldc2_w 33, 0, 0, 75), (.lcmp, 0, 0, 0), (.ifCond .ne 6, 0, 0, 0)] 0 _ _ _ _ _ (by decide +kernel) ?_
  show (¬ (lg_cmp (kL (x : Int)) (kL 75)) = kI 0 → WM mX10_tenthsOf 0 0 Post 0 11 [(0, vJ (x : Int))] [] [] 0 0) ∧ ((lg_cmp (kL (x : Int)) (kL 75)) = kI 0 → WM mX10_tenthsOf 0 0 Post 0 8 [(0, vJ (x : Int))] [] [] 0 0)
  refine ⟨fun c5 => ?_, fun c5 => ?_⟩
  · 
    rw [lc_eq, kL_eq (by omega)] at c5
    refine sq_ok rfl [(.lload_n 0, 0, 0, 0), (.ldc2_w 35, 0, 0, 2), (.lcmp, 0, 0, 0), (.ifCond .lt 18, 0, 0, 0)] 11 _ _ _ _ _ (by decide +kernel) ?_
    show ((lg_cmp (kL (x : Int)) (kL 2)) < kI 0 → WM mX10_tenthsOf 0 0 Post 0 34 [(0, vJ (x : Int))] [] [] 0 0) ∧ (¬ (lg_cmp (kL (x : Int)) (kL 2)) < kI 0 → WM mX10_tenthsOf 0 0 Post 0 19 [(0, vJ (x : Int))] [] [] 0 0)
    refine ⟨fun c16 => ?_, fun c16 => ?_⟩
    · 
      rw [lc_lt, kL_lt (by omega)] at c16
      refine sq_ok rfl [(.iconst 0, 0, 0, 0), (.ireturn, 0, 0, 0)] 34 _ _ _ _ _ (by decide +kernel) ?_
      show ((0 ≤ 0 ∧ 0 ≤ 0) ∧ Post (some (vI 0)) [])
      refine ⟨⟨Nat.le_refl _, Nat.le_refl _⟩, hp _ _ ?_⟩
      exact ⟨by unfold tenW; rw [if_neg (by omega)]; first | rw [if_neg (by omega)]; done | (rw [if_pos (by omega)]; congr 3; omega) | (rw [if_neg (by omega)]; rfl), rfl⟩
    · 
      rw [lc_lt, kL_lt (by omega)] at c16
      refine sq_ok rfl [(.lload_n 0, 0, 0, 0), (.ldc2_w 37, 0, 0, 10), (.lcmp, 0, 0, 0), (.ifCond .gt 10, 0, 0, 0)] 19 _ _ _ _ _ (by decide +kernel) ?_
      show (kI 0 < (lg_cmp (kL (x : Int)) (kL 10)) → WM mX10_tenthsOf 0 0 Post 0 34 [(0, vJ (x : Int))] [] [] 0 0) ∧ (¬ kI 0 < (lg_cmp (kL (x : Int)) (kL 10)) → WM mX10_tenthsOf 0 0 Post 0 27 [(0, vJ (x : Int))] [] [] 0 0)
      refine ⟨fun c24 => ?_, fun c24 => ?_⟩
      · 
        rw [lc_gt, kL_lt (by omega)] at c24
        refine sq_ok rfl [(.iconst 0, 0, 0, 0), (.ireturn, 0, 0, 0)] 34 _ _ _ _ _ (by decide +kernel) ?_
        show ((0 ≤ 0 ∧ 0 ≤ 0) ∧ Post (some (vI 0)) [])
        refine ⟨⟨Nat.le_refl _, Nat.le_refl _⟩, hp _ _ ?_⟩
        exact ⟨by unfold tenW; rw [if_neg (by omega)]; first | rw [if_neg (by omega)]; done | (rw [if_pos (by omega)]; congr 3; omega) | (rw [if_neg (by omega)]; rfl), rfl⟩
      · 
        rw [lc_gt, kL_lt (by omega)] at c24
        refine sq_ok rfl [(.lload_n 0, 0, 0, 0), (.l2i, 0, 0, 0)] 27 _ _ _ _ _ (by decide +kernel) ?_
        show WM mX10_tenthsOf 0 0 Post 0 29 [(0, vJ (x : Int))] [.int ((kL (x : Int)).toInt32)] [] 0 0
        have e4 : (kL (x : Int)).toInt32 = kI (x : Int) := by exact kL_l2i _
        rw [e4]
        refine sq_ok rfl [(.iconst 1, 0, 0, 0), (.isub, 0, 0, 0), (.goto 4, 0, 0, 0)] 29 _ _ _ _ _ (by decide +kernel) ?_
        show WM mX10_tenthsOf 0 0 Post 0 35 [(0, vJ (x : Int))] [.int ((kI (x : Int)) - (kI 1))] [] 0 0
        have e5 : ((kI (x : Int)) - (kI 1)) = kI ((x : Int) - 1) := by simp only [kI_add, kI_sub, kI_mul]
        rw [e5]
        refine sq_ok rfl [(.ireturn, 0, 0, 0)] 35 _ _ _ _ _ (by decide +kernel) ?_
        show ((0 ≤ 0 ∧ 0 ≤ 0) ∧ Post (some (vI ((x : Int) - 1))) [])
        refine ⟨⟨Nat.le_refl _, Nat.le_refl _⟩, hp _ _ ?_⟩
        exact ⟨by unfold tenW; rw [if_neg (by omega)]; first | rw [if_neg (by omega)]; done | (rw [if_pos (by omega)]; congr 3; omega) | (rw [if_neg (by omega)]; rfl), rfl⟩
  · 
    rw [lc_eq, kL_eq (by omega)] at c5
    refine sq_ok rfl [(.bipush 10, 0, 0, 0), (.ireturn, 0, 0, 0)] 8 _ _ _ _ _ (by decide +kernel) ?_
    show ((0 ≤ 0 ∧ 0 ≤ 0) ∧ Post (some (vI 10)) [])
    refine ⟨⟨Nat.le_refl _, Nat.le_refl _⟩, hp _ _ ?_⟩
    exact ⟨by rw [show tenW x = 10 by unfold tenW; rw [if_pos (by omega)]]; rfl, rfl⟩

set_option maxRecDepth 100000 in
set_option maxHeartbeats 4000000 in
theorem c_X9_init (mo : Nat) (hmo : mo ≤ 1000) : CT mX9_init 2 (mo + mo) [.ref 0, vI (mo : Int)] [ob 9 [vI 0, .null, .null, vI 0]] (fun r w => r = none ∧ w = [ob 9 [vI (mo : Int), .ref 1, .ref 2, vI 0], cI mo (fun _ => 0), cK mo (fun _ => 0)]) := by
  refine CT.intro rfl (Nat.le_of_ble_eq_true rfl) ?_
  generalize hPost : (fun r w => r = none ∧ w = [ob 9 [vI (mo : Int), .ref 1, .ref 2, vI 0], cI mo (fun _ => 0), cK mo (fun _ => 0)] : MP) = Post
  have hp : ∀ r w', (fun r w => r = none ∧ w = [ob 9 [vI (mo : Int), .ref 1, .ref 2, vI 0], cI mo (fun _ => 0), cK mo (fun _ => 0)] : MP) r w' → Post r w' := by rw [← hPost]; exact fun _ _ h => h
  clear hPost
  show WM mX9_init 2 (mo + mo) Post 1 0 [(0, .ref 0), (1, vI (mo : Int))] [] [ob 9 [vI 0, .null, .null, vI 0]] 0 0
  refine sq_ok rfl [(.aload_n 0, 0, 0, 0)] 0 _ _ _ _ _ (by decide +kernel) ?_
  show WM mX9_init 2 (mo + mo) Post 1 1 [(0, .ref 0), (1, vI (mo : Int))] [.ref 0] [ob 9 [vI 0, .null, .null, vI 0]] 0 0
  refine wm_obj (by decide +kernel) kX9_1 ⟨Nat.le_of_ble_eq_true rfl, Nat.le_of_ble_eq_true rfl⟩ ?_
  show WM mX9_init 2 (mo + mo) Post 1 4 [(0, .ref 0), (1, vI (mo : Int))] [] [ob 9 [vI 0, .null, .null, vI 0]] 0 0
  refine sq_ok rfl [(.aload_n 0, 0, 0, 0), (.iconst 0, 0, 0, 0), (.iload_n 1, 0, 0, 0)] 4 _ _ _ _ _ (by decide +kernel) ?_
  show WM mX9_init 2 (mo + mo) Post 1 7 [(0, .ref 0), (1, vI (mo : Int))] [vI (mo : Int), vI 0, .ref 0] [ob 9 [vI 0, .null, .null, vI 0]] 0 0
  refine wm_max (by unfold iR; omega) (by unfold iR; omega) (by decide +kernel) kX9_7 ⟨Nat.le_of_ble_eq_true rfl, Nat.le_of_ble_eq_true rfl⟩ ⟨Nat.le_of_ble_eq_true rfl, Nat.zero_le _⟩ ?_
  rw [show (max 0 (mo : Int)) = (mo : Int) from by omega]
  show WM mX9_init 2 (mo + mo) Post 1 10 [(0, .ref 0), (1, vI (mo : Int))] [vI (mo : Int), .ref 0] [ob 9 [vI 0, .null, .null, vI 0]] 0 0
  refine sq_ok rfl [(.putfield 13, 9, 0, 0), (.aload_n 0, 0, 0, 0), (.aload_n 0, 0, 0, 0), (.getfield 13, 9, 0, 0), (.newarray .int, 0, 0, 0), (.putfield 19, 9, 1, 0), (.aload_n 0, 0, 0, 0), (.aload_n 0, 0, 0, 0), (.getfield 13, 9, 0, 0), (.newarray .long, 0, 0, 0), (.putfield 23, 9, 2, 0), (.return_, 0, 0, 0)] 10 _ _ _ _ _ (by decide +kernel) ?_
  show ∃ N18 : Nat, (kI (mo : Int) = kI (N18 : Int) ∧ N18 ≤ 1000000 ∧ 0 + 1 ≤ 2 ∧ 0 + N18 ≤ (mo + mo)) ∧ ∃ N28 : Nat, (kI (mo : Int) = kI (N28 : Int) ∧ N28 ≤ 1000000 ∧ 1 + 1 ≤ 2 ∧ 0 + N18 + N28 ≤ (mo + mo)) ∧ ((2 ≤ 2 ∧ 0 + N18 + N28 ≤ (mo + mo)) ∧ Post none [ob 9 [vI (mo : Int), .ref 1, .ref 2, vI 0], cI N18 (fun _ => 0), cJ N28 (fun _ => 0)])
  refine ⟨mo, ⟨rfl, by omega, by omega, by omega⟩, ?_⟩
  refine ⟨mo, ⟨rfl, by omega, by omega, by omega⟩, ?_⟩
  refine ⟨⟨Nat.le_refl _, by omega⟩, hp _ _ ?_⟩
  exact ⟨rfl, rfl⟩

set_option maxRecDepth 100000 in
set_option maxHeartbeats 4000000 in
theorem c_X9_addCode (mo rc : Nat) (hmo : mo < 2147483648) (hrc : rc ≤ mo) (nums : Nat → Int) (rcodes : Nat → Nat) (x : Nat) : CT mX9_addCode 0 0 [.ref 0, vJ (x : Int)] [ob 9 [vI (mo : Int), .ref 1, .ref 2, vI (rc : Int)], cI mo nums, cK mo rcodes] (fun r w => r = none ∧ w = if rc < mo then [ob 9 [vI (mo : Int), .ref 1, .ref 2, vI (((rc + 1) : Nat) : Int)], cI mo nums, cK mo (va_up rcodes rc x)] else [ob 9 [vI (mo : Int), .ref 1, .ref 2, vI (rc : Int)], cI mo nums, cK mo rcodes]) := by
  refine CT.intro rfl (Nat.le_of_ble_eq_true rfl) ?_
  generalize hPost : (fun r w => r = none ∧ w = if rc < mo then [ob 9 [vI (mo : Int), .ref 1, .ref 2, vI (((rc + 1) : Nat) : Int)], cI mo nums, cK mo (va_up rcodes rc x)] else [ob 9 [vI (mo : Int), .ref 1, .ref 2, vI (rc : Int)], cI mo nums, cK mo rcodes] : MP) = Post
  have hp : ∀ r w', (fun r w => r = none ∧ w = if rc < mo then [ob 9 [vI (mo : Int), .ref 1, .ref 2, vI (((rc + 1) : Nat) : Int)], cI mo nums, cK mo (va_up rcodes rc x)] else [ob 9 [vI (mo : Int), .ref 1, .ref 2, vI (rc : Int)], cI mo nums, cK mo rcodes] : MP) r w' → Post r w' := by rw [← hPost]; exact fun _ _ h => h
  clear hPost
  show WM mX9_addCode 0 0 Post 3 0 [(0, .ref 0), (1, vJ (x : Int))] [] [ob 9 [vI (mo : Int), .ref 1, .ref 2, vI (rc : Int)], cI mo nums, cK mo rcodes] 0 0
  refine sq_ok rfl [(.aload_n 0, 0, 0, 0), (.getfield 27, 9, 3, 0), (.aload_n 0, 0, 0, 0), (.getfield 13, 9, 0, 0), (.if_icmp .ge 23, 0, 0, 0)] 0 _ _ _ _ _ (by decide +kernel) ?_
  show (kI (mo : Int) ≤ kI (rc : Int) → WM mX9_addCode 0 0 Post 3 31 [(0, .ref 0), (1, vJ (x : Int))] [] [ob 9 [vI (mo : Int), .ref 1, .ref 2, vI (rc : Int)], cI mo nums, cK mo rcodes] 0 0) ∧ (¬ kI (mo : Int) ≤ kI (rc : Int) → WM mX9_addCode 0 0 Post 3 11 [(0, .ref 0), (1, vJ (x : Int))] [] [ob 9 [vI (mo : Int), .ref 1, .ref 2, vI (rc : Int)], cI mo nums, cK mo rcodes] 0 0)
  refine ⟨fun c8 => ?_, fun c8 => ?_⟩
  · 
    rw [kI_le (by omega)] at c8
    refine sq_ok rfl [(.return_, 0, 0, 0)] 31 _ _ _ _ _ (by decide +kernel) ?_
    show ((0 ≤ 0 ∧ 0 ≤ 0) ∧ Post none [ob 9 [vI (mo : Int), .ref 1, .ref 2, vI (rc : Int)], cI mo nums, cK mo rcodes])
    refine ⟨⟨Nat.le_refl _, Nat.le_refl _⟩, hp _ _ ?_⟩
    exact ⟨rfl, by rw [if_neg (by omega)] <;> rfl⟩
  · 
    rw [kI_le (by omega)] at c8
    refine sq_ok rfl [(.aload_n 0, 0, 0, 0), (.getfield 23, 9, 2, 0), (.aload_n 0, 0, 0, 0), (.getfield 27, 9, 3, 0), (.lload_n 1, 0, 0, 0), (.lastore, 0, 0, 0)] 11 _ _ _ _ _ (by decide +kernel) ?_
    show ∃ (j20 : Nat) (g20 : Nat → Int64), (mj mo (kI (rc : Int)) j20 ∧ g20 = vp_updL (fun q => kL ((rcodes q : Nat) : Int)) j20 (kL (x : Int))) ∧ WM mX9_addCode 0 0 Post 3 21 [(0, .ref 0), (1, vJ (x : Int))] [] [ob 9 [vI (mo : Int), .ref 1, .ref 2, vI (rc : Int)], cI mo nums, .inl (1, mo, .inr (.inl g20))] 0 0
    refine ⟨rc, fun q => kL (((va_up rcodes rc x) q : Nat) : Int), ⟨⟨by omega, by omega, rfl⟩, st_K (rfl)⟩, ?_⟩
    refine sq_ok rfl [(.aload_n 0, 0, 0, 0), (.dup, 0, 0, 0), (.getfield 27, 9, 3, 0), (.iconst 1, 0, 0, 0), (.iadd, 0, 0, 0), (.putfield 27, 9, 3, 0), (.return_, 0, 0, 0)] 21 _ _ _ _ _ (by decide +kernel) ?_
    show ((0 ≤ 0 ∧ 0 ≤ 0) ∧ Post none [ob 9 [vI (mo : Int), .ref 1, .ref 2, .int ((kI (rc : Int)) + (kI 1))], cI mo nums, cK mo (va_up rcodes rc x)])
    have e2 : ((kI (rc : Int)) + (kI 1)) = kI ((rc : Int) + 1) := by simp only [kI_add, kI_sub, kI_mul]
    rw [e2]
    refine ⟨⟨Nat.le_refl _, Nat.le_refl _⟩, hp _ _ ?_⟩
    exact ⟨rfl, by rw [if_pos (by omega)] <;> rfl⟩

set_option maxRecDepth 100000 in
set_option maxHeartbeats 4000000 in
theorem c_X9_takeNumbers (mo rc mo2 rc2 : Nat) (hmo : mo < 2147483648) (hmo2 : mo2 < 2147483648) (hrc : rc2 ≤ mo2) (nums nums2 : Nat → Int) (rcodes rcodes2 : Nat → Nat) : CT mX9_takeNumbers 0 0 [.ref 0, .ref 3] [ob 9 [vI (mo : Int), .ref 1, .ref 2, vI (rc : Int)], cI mo nums, cK mo rcodes, ob 9 [vI (mo2 : Int), .ref 4, .ref 5, vI (rc2 : Int)], cI mo2 nums2, cK mo2 rcodes2] (fun r w => r = none ∧ w = [ob 9 [vI (mo : Int), .ref 1, .ref 2, vI (((min mo rc2) : Nat) : Int)], cI mo (va_cpy nums2 nums 0 0 (min mo rc2)), cK mo rcodes, ob 9 [vI (mo2 : Int), .ref 4, .ref 5, vI (rc2 : Int)], cI mo2 nums2, cK mo2 rcodes2]) := by
  refine CT.intro rfl (Nat.le_of_ble_eq_true rfl) ?_
  generalize hPost : (fun r w => r = none ∧ w = [ob 9 [vI (mo : Int), .ref 1, .ref 2, vI (((min mo rc2) : Nat) : Int)], cI mo (va_cpy nums2 nums 0 0 (min mo rc2)), cK mo rcodes, ob 9 [vI (mo2 : Int), .ref 4, .ref 5, vI (rc2 : Int)], cI mo2 nums2, cK mo2 rcodes2] : MP) = Post
  have hp : ∀ r w', (fun r w => r = none ∧ w = [ob 9 [vI (mo : Int), .ref 1, .ref 2, vI (((min mo rc2) : Nat) : Int)], cI mo (va_cpy nums2 nums 0 0 (min mo rc2)), cK mo rcodes, ob 9 [vI (mo2 : Int), .ref 4, .ref 5, vI (rc2 : Int)], cI mo2 nums2, cK mo2 rcodes2] : MP) r w' → Post r w' := by rw [← hPost]; exact fun _ _ h => h
  clear hPost
  show WM mX9_takeNumbers 0 0 Post 6 0 [(0, .ref 0), (1, .ref 3)] [] [ob 9 [vI (mo : Int), .ref 1, .ref 2, vI (rc : Int)], cI mo nums, cK mo rcodes, ob 9 [vI (mo2 : Int), .ref 4, .ref 5, vI (rc2 : Int)], cI mo2 nums2, cK mo2 rcodes2] 0 0
  refine sq_ok rfl [(.aload_n 0, 0, 0, 0), (.aload_n 0, 0, 0, 0), (.getfield 13, 9, 0, 0), (.aload_n 1, 0, 0, 0), (.getfield 27, 9, 3, 0)] 0 _ _ _ _ _ (by decide +kernel) ?_
  show WM mX9_takeNumbers 0 0 Post 6 9 [(0, .ref 0), (1, .ref 3)] [vI (rc2 : Int), vI (mo : Int), .ref 0] [ob 9 [vI (mo : Int), .ref 1, .ref 2, vI (rc : Int)], cI mo nums, cK mo rcodes, ob 9 [vI (mo2 : Int), .ref 4, .ref 5, vI (rc2 : Int)], cI mo2 nums2, cK mo2 rcodes2] 0 0
  refine wm_min (by unfold iR; omega) (by unfold iR; omega) (by decide +kernel) kX9_30 ⟨Nat.le_of_ble_eq_true rfl, Nat.le_of_ble_eq_true rfl⟩ ⟨Nat.le_of_ble_eq_true rfl, Nat.le_of_ble_eq_true rfl⟩ ?_
  rw [show (min (mo : Int) (rc2 : Int)) = (((min mo rc2) : Nat) : Int) from by omega]
  show WM mX9_takeNumbers 0 0 Post 6 12 [(0, .ref 0), (1, .ref 3)] [vI (((min mo rc2) : Nat) : Int), .ref 0] [ob 9 [vI (mo : Int), .ref 1, .ref 2, vI (rc : Int)], cI mo nums, cK mo rcodes, ob 9 [vI (mo2 : Int), .ref 4, .ref 5, vI (rc2 : Int)], cI mo2 nums2, cK mo2 rcodes2] 0 0
  refine sq_ok rfl [(.putfield 27, 9, 3, 0), (.aload_n 1, 0, 0, 0), (.getfield 19, 9, 1, 0), (.iconst 0, 0, 0, 0), (.aload_n 0, 0, 0, 0), (.getfield 19, 9, 1, 0), (.iconst 0, 0, 0, 0), (.aload_n 0, 0, 0, 0), (.getfield 27, 9, 3, 0)] 12 _ _ _ _ _ (by decide +kernel) ?_
  show WM mX9_takeNumbers 0 0 Post 6 29 [(0, .ref 0), (1, .ref 3)] [vI (((min mo rc2) : Nat) : Int), vI 0, .ref 1, vI 0, .ref 4] [ob 9 [vI (mo : Int), .ref 1, .ref 2, vI (((min mo rc2) : Nat) : Int)], cI mo nums, cK mo rcodes, ob 9 [vI (mo2 : Int), .ref 4, .ref 5, vI (rc2 : Int)], cI mo2 nums2, cK mo2 rcodes2] 0 0
  refine wm_copy (by decide +kernel) kX9_33 (m0 := mo2) (m1 := mo) rfl rfl (by decide) (by decide) (by rw [kI_nat]; exact nI_pos (by omega)) (by rw [kI_nat, nI_clamp (by omega)]; show 0 + _ ≤ _; omega) (by rw [kI_nat, nI_clamp (by omega)]; show 0 + _ ≤ _; omega) ⟨Nat.le_of_ble_eq_true rfl, Nat.le_of_ble_eq_true rfl⟩ ?_
  have ec : (kI ((min mo rc2 : Nat) : Int)).toNatClampNeg = min mo rc2 := by rw [kI_nat]; exact nI_clamp (by omega)
  rw [ec]
  rw [cpy_I]
  show WM mX9_takeNumbers 0 0 Post 6 32 [(0, .ref 0), (1, .ref 3)] [] [ob 9 [vI (mo : Int), .ref 1, .ref 2, vI (((min mo rc2) : Nat) : Int)], cI mo (va_cpy nums2 nums 0 0 (min mo rc2)), cK mo rcodes, ob 9 [vI (mo2 : Int), .ref 4, .ref 5, vI (rc2 : Int)], cI mo2 nums2, cK mo2 rcodes2] 0 0
  refine sq_ok rfl [(.return_, 0, 0, 0)] 32 _ _ _ _ _ (by decide +kernel) ?_
  show ((0 ≤ 0 ∧ 0 ≤ 0) ∧ Post none [ob 9 [vI (mo : Int), .ref 1, .ref 2, vI (((min mo rc2) : Nat) : Int)], cI mo (va_cpy nums2 nums 0 0 (min mo rc2)), cK mo rcodes, ob 9 [vI (mo2 : Int), .ref 4, .ref 5, vI (rc2 : Int)], cI mo2 nums2, cK mo2 rcodes2])
  refine ⟨⟨Nat.le_refl _, Nat.le_refl _⟩, hp _ _ ?_⟩
  exact ⟨rfl, rfl⟩
