/-! Sets: the arcs' rows grow -/
def gr (nA arcs : Nat) : Nat := if arcs < nA then nA else 2 * nA
theorem gr_of {nA arcs : Nat} : (arcs < nA → gr nA arcs = nA) ∧ (¬ arcs < nA → gr nA arcs = 2 * nA) := ⟨fun h => if_pos h, fun h => if_neg h⟩
/-- the room behind n more arcs -/
def grn : Nat → Nat → Nat → Nat
  | 0, nA, _ => nA
  | n + 1, nA, a => grn n (gr nA a) (a + 1)
theorem grn_le : ∀ (n nA a : Nat), nA ≤ grn n nA a
  | 0, nA, a => Nat.le_refl _
  | n + 1, nA, a => by
    have h1 := grn_le n (gr nA a) (a + 1)
    have h2 := @gr_of nA a
    show nA ≤ grn n (gr nA a) (a + 1)
    omega
theorem grn_add : ∀ (n k nA a : Nat), grn (n + k) nA a = grn k (grn n nA a) (a + n)
  | 0, k, nA, a => by rw [Nat.zero_add]; rfl
  | n + 1, k, nA, a => by
    rw [show n + 1 + k = (n + k) + 1 by omega]
    show grn (n + k) (gr nA a) (a + 1) = grn k (grn n (gr nA a) (a + 1)) (a + (n + 1))
    rw [grn_add n k, show a + 1 + n = a + (n + 1) by omega]
theorem grn_most : ∀ (n nA a : Nat), nA ≤ 120000 → a + n ≤ 60000 → grn n nA a ≤ 120000
  | 0, nA, a, h, _ => h
  | n + 1, nA, a, h, h2 => by
    have h1 := @gr_of nA a
    exact grn_most n (gr nA a) (a + 1) (by omega) (by omega)
theorem grn_arcs : ∀ (n nA a : Nat), 0 < nA → a ≤ nA → a + n ≤ grn n nA a
  | 0, nA, a, _, h => h
  | n + 1, nA, a, h0, h => by
    have h1 := @gr_of nA a
    have h2 := grn_arcs n (gr nA a) (a + 1) (by omega) (by omega)
    show a + (n + 1) ≤ grn n (gr nA a) (a + 1)
    omega

set_option maxRecDepth 100000 in
set_option maxHeartbeats 500000 in
theorem c_copyOf (n m : Nat) (f : Nat → Nat) (h : n < m) (hm : m ≤ 1000000) : CT mJ7_copyOf_59c91 1 m [.ref 0, vI (m : Int)] [cN n f] (fun r w => r = some (.ref 1) ∧ w = [cN n f, cN m (va_cpy f (fun _ => 0) 0 0 n)]) := by
  refine CT.intro rfl (Nat.le_of_ble_eq_true rfl) ?_
  generalize hPost : (fun r w => r = some (.ref 1) ∧ w = [cN n f, cN m (va_cpy f (fun _ => 0) 0 0 n)] : MP) = Post
  have hPo : ∀ rr ww, (fun r w => r = some (.ref 1) ∧ w = [cN n f, cN m (va_cpy f (fun _ => 0) 0 0 n)] : MP) rr ww → Post rr ww := by rw [← hPost]; exact fun _ _ h => h
  clear hPost
  show WM mJ7_copyOf_59c91 1 m Post 1 0 [(0, .ref 0), (1, vI (m : Int))] [] [cN n f] 0 0
  refine sq_ok rfl [(.iload_n 1, 0, 0, 0), (.aload_n 0, 0, 0, 0), (.arraylength, 0, 0, 0), (.if_icmp .ne 11, 0, 0, 0)] 0 _ _ _ _ _ (by decide +kernel) ?_
  show (¬ kI (m : Int) = kI (n : Int) → WM mJ7_copyOf_59c91 1 m Post 1 14 [(0, .ref 0), (1, vI (m : Int))] [] [cN n f] 0 0) ∧ (kI (m : Int) = kI (n : Int) → WM mJ7_copyOf_59c91 1 m Post 1 6 [(0, .ref 0), (1, vI (m : Int))] [] [cN n f] 0 0)
  refine ⟨fun c3 => ?_, fun c3 => ?_⟩
  · 
    rw [kI_eq (by omega)] at c3
    refine sq_ok rfl [(.iload_n 1, 0, 0, 0), (.newarray .int, 0, 0, 0), (.astore_n 2, 0, 0, 0), (.aload_n 0, 0, 0, 0), (.iconst 0, 0, 0, 0), (.aload_n 2, 0, 0, 0), (.iconst 0, 0, 0, 0), (.aload_n 0, 0, 0, 0), (.arraylength, 0, 0, 0), (.iload_n 1, 0, 0, 0)] 14 _ _ _ _ _ (by decide +kernel) ?_
    show ∃ N15 : Nat, (kI (m : Int) = kI (N15 : Int) ∧ N15 ≤ 1000000 ∧ 0 + 1 ≤ 1 ∧ 0 + N15 ≤ m) ∧ WM mJ7_copyOf_59c91 1 m Post 1 25 [(0, .ref 0), (1, vI (m : Int)), (2, .ref 1)] [vI (m : Int), vI (n : Int), vI 0, .ref 1, vI 0, .ref 0] [cN n f, cI N15 (fun _ => 0)] 1 (0 + N15)
    refine ⟨m, ⟨rfl, hm, by omega, by omega⟩, ?_⟩
    refine wm_min (by unfold iR; omega) (by unfold iR; omega) (by decide +kernel) kJ7_304 ⟨Nat.le_of_ble_eq_true rfl, Nat.le_of_ble_eq_true rfl⟩ ⟨by omega, by omega⟩ ?_
    rw [show (min (n : Int) (m : Int)) = (n : Int) from by omega]
    show WM mJ7_copyOf_59c91 1 m Post 1 28 [(0, .ref 0), (1, vI (m : Int)), (2, .ref 1)] [vI (n : Int), vI 0, .ref 1, vI 0, .ref 0] [cN n f, cI m (fun _ => 0)] 1 (0 + m)
    refine wm_copy (by decide +kernel) kJ7_150 (m0 := n) (m1 := m) rfl rfl (by decide) (by decide) (by rw [kI_nat]; exact nI_pos (by omega)) (by rw [kI_nat, nI_clamp (by omega)]; show 0 + _ ≤ _; omega) (by rw [kI_nat, nI_clamp (by omega)]; show 0 + _ ≤ _; omega) ⟨Nat.le_of_ble_eq_true rfl, Nat.le_of_ble_eq_true rfl⟩ ?_
    have ec : (kI ((n : Nat) : Int)).toNatClampNeg = n := by rw [kI_nat]; exact nI_clamp (by omega)
    rw [ec]
    have ec2 := @cpy_N f (fun _ => 0) n
    have ec3 : va_cpy (fun q => kI ((f q : Nat) : Int)) (fun q => kI ((fun _ => (0 : Int)) q)) (kI 0).toNatClampNeg (kI 0).toNatClampNeg n = fun q => kI ((va_cpy f (fun _ => 0) 0 0 n q : Nat) : Int) := ec2
    rw [ec3]
    show WM mJ7_copyOf_59c91 1 m Post 1 31 [(0, .ref 0), (1, vI (m : Int)), (2, .ref 1)] [] [cN n f, cN m (va_cpy f (fun _ => 0) 0 0 n)] 1 (0 + m)
    refine sq_ok rfl [(.aload_n 2, 0, 0, 0), (.areturn, 0, 0, 0)] 31 _ _ _ _ _ (by decide +kernel) ?_
    show ((1 ≤ 1 ∧ 0 + m ≤ m) ∧ Post (some (.ref 1)) [cN n f, cN m (va_cpy f (fun _ => 0) 0 0 n)])
    refine ⟨⟨Nat.le_of_ble_eq_true rfl, (by omega)⟩, hPo _ _ ?_⟩
    exact ⟨rfl, rfl⟩
  · 
    rw [kI_eq (by omega)] at c3; omega

set_option maxRecDepth 100000 in
set_option maxHeartbeats 500000 in
theorem c_X5_addArc (cnt : Nat) (wy fa fw as_ aw at_ : Nat → Nat) (nA arcs ln : Nat) (me : Nat → Nat) (fb nb : Nat → Int) (wu : Nat → Nat) (fk nw : Nat → Int) (hA : arcs ≤ nA) (h0 : 2 ≤ nA) (h1 : nA ≤ 120000) (x t : Nat) (hx : x < 200) (ht : t < 300) : CTm mX5_addArc (gr nA arcs - nA) (4 * (gr nA arcs - nA)) 11 [.ref 0, vI (x : Int), vI (t : Int)] [ob 5 [vI (cnt : Int), .ref 1, .ref 2, .ref 3, .ref 4, .ref 11, .ref 12, vI (arcs : Int), vI (ln : Int), .ref 5, .ref 6, .ref 7, .ref 8, .ref 9, .ref 10], cK 300 wy, cN 300 fa, cK 300 fw, cN 301 as_, cK 2107 me, cI 401 fb, cI 300 nb, cK 4 wu, cI 200 fk, cI 512 nw, cN nA aw, cN nA at_] (fun r w => ∃ aw2 at2 : Nat → Nat, r = none ∧ w = [ob 5 [vI (cnt : Int), .ref 1, .ref 2, .ref 3, .ref 4, .ref 11, .ref 12, vI (((arcs + 1) : Nat) : Int), vI (ln : Int), .ref 5, .ref 6, .ref 7, .ref 8, .ref 9, .ref 10], cK 300 wy, cN 300 fa, cK 300 fw, cN 301 as_, cK 2107 me, cI 401 fb, cI 300 nb, cK 4 wu, cI 200 fk, cI 512 nw, cN (gr nA arcs) aw2, cN (gr nA arcs) at2] ∧ (∀ k, k < arcs → aw2 k = aw k ∧ at2 k = at_ k) ∧ aw2 arcs = x ∧ at2 arcs = t) := by
  refine CTm.intro rfl (Nat.le_of_ble_eq_true rfl) ?_
  generalize hPost : (fun r w => ∃ aw2 at2 : Nat → Nat, r = none ∧ w = [ob 5 [vI (cnt : Int), .ref 1, .ref 2, .ref 3, .ref 4, .ref 11, .ref 12, vI (((arcs + 1) : Nat) : Int), vI (ln : Int), .ref 5, .ref 6, .ref 7, .ref 8, .ref 9, .ref 10], cK 300 wy, cN 300 fa, cK 300 fw, cN 301 as_, cK 2107 me, cI 401 fb, cI 300 nb, cK 4 wu, cI 200 fk, cI 512 nw, cN (gr nA arcs) aw2, cN (gr nA arcs) at2] ∧ (∀ k, k < arcs → aw2 k = aw k ∧ at2 k = at_ k) ∧ aw2 arcs = x ∧ at2 arcs = t : MP) = Post
  have hPo : ∀ rr ww, (fun r w => ∃ aw2 at2 : Nat → Nat, r = none ∧ w = [ob 5 [vI (cnt : Int), .ref 1, .ref 2, .ref 3, .ref 4, .ref 11, .ref 12, vI (((arcs + 1) : Nat) : Int), vI (ln : Int), .ref 5, .ref 6, .ref 7, .ref 8, .ref 9, .ref 10], cK 300 wy, cN 300 fa, cK 300 fw, cN 301 as_, cK 2107 me, cI 401 fb, cI 300 nb, cK 4 wu, cI 200 fk, cI 512 nw, cN (gr nA arcs) aw2, cN (gr nA arcs) at2] ∧ (∀ k, k < arcs → aw2 k = aw k ∧ at2 k = at_ k) ∧ aw2 arcs = x ∧ at2 arcs = t : MP) rr ww → Post rr ww := by rw [← hPost]; exact fun _ _ h => h
  clear hPost
  have hg := @gr_of nA arcs
  show WM mX5_addArc (gr nA arcs - nA) (4 * (gr nA arcs - nA)) Post 11 0 [(0, .ref 0), (1, vI (x : Int)), (2, vI (t : Int))] [] [ob 5 [vI (cnt : Int), .ref 1, .ref 2, .ref 3, .ref 4, .ref 11, .ref 12, vI (arcs : Int), vI (ln : Int), .ref 5, .ref 6, .ref 7, .ref 8, .ref 9, .ref 10], cK 300 wy, cN 300 fa, cK 300 fw, cN 301 as_, cK 2107 me, cI 401 fb, cI 300 nb, cK 4 wu, cI 200 fk, cI 512 nw, cN nA aw, cN nA at_] 0 0
  refine sq_ok rfl [(.aload_n 0, 0, 0, 0), (.getfield 53, 5, 7, 0), (.aload_n 0, 0, 0, 0), (.getfield 25, 5, 5, 0), (.arraylength, 0, 0, 0), (.if_icmp .lt 35, 0, 0, 0)] 0 _ _ _ _ _ (by decide +kernel) ?_
  show (kI (arcs : Int) < kI (nA : Int) → WM mX5_addArc (gr nA arcs - nA) (4 * (gr nA arcs - nA)) Post 11 44 [(0, .ref 0), (1, vI (x : Int)), (2, vI (t : Int))] [] [ob 5 [vI (cnt : Int), .ref 1, .ref 2, .ref 3, .ref 4, .ref 11, .ref 12, vI (arcs : Int), vI (ln : Int), .ref 5, .ref 6, .ref 7, .ref 8, .ref 9, .ref 10], cK 300 wy, cN 300 fa, cK 300 fw, cN 301 as_, cK 2107 me, cI 401 fb, cI 300 nb, cK 4 wu, cI 200 fk, cI 512 nw, cN nA aw, cN nA at_] 0 0) ∧ (¬ kI (arcs : Int) < kI (nA : Int) → WM mX5_addArc (gr nA arcs - nA) (4 * (gr nA arcs - nA)) Post 11 12 [(0, .ref 0), (1, vI (x : Int)), (2, vI (t : Int))] [] [ob 5 [vI (cnt : Int), .ref 1, .ref 2, .ref 3, .ref 4, .ref 11, .ref 12, vI (arcs : Int), vI (ln : Int), .ref 5, .ref 6, .ref 7, .ref 8, .ref 9, .ref 10], cK 300 wy, cN 300 fa, cK 300 fw, cN 301 as_, cK 2107 me, cI 401 fb, cI 300 nb, cK 4 wu, cI 200 fk, cI 512 nw, cN nA aw, cN nA at_] 0 0)
  refine ⟨fun c9 => ?_, fun c9 => ?_⟩
  · 
    rw [kI_lt (by omega)] at c9
    refine sq_ok rfl [(.aload_n 0, 0, 0, 0), (.getfield 25, 5, 5, 0), (.aload_n 0, 0, 0, 0), (.getfield 53, 5, 7, 0), (.iload_n 1, 0, 0, 0), (.iastore, 0, 0, 0)] 44 _ _ _ _ _ (by decide +kernel) ?_
    show ∃ (j53 : Nat) (g53 : Nat → Int32), (mj nA (kI (arcs : Int)) j53 ∧ g53 = upd (fun q => kI ((aw q : Nat) : Int)) j53 (kI (x : Int))) ∧ WM mX5_addArc (gr nA arcs - nA) (4 * (gr nA arcs - nA)) Post 11 54 [(0, .ref 0), (1, vI (x : Int)), (2, vI (t : Int))] [] [ob 5 [vI (cnt : Int), .ref 1, .ref 2, .ref 3, .ref 4, .ref 11, .ref 12, vI (arcs : Int), vI (ln : Int), .ref 5, .ref 6, .ref 7, .ref 8, .ref 9, .ref 10], cK 300 wy, cN 300 fa, cK 300 fw, cN 301 as_, cK 2107 me, cI 401 fb, cI 300 nb, cK 4 wu, cI 200 fk, cI 512 nw, .inl (0, nA, .inl g53), cN nA at_] 0 0
    refine ⟨arcs, fun q => kI (((va_up aw arcs x) q : Nat) : Int), ⟨⟨by omega, by omega, rfl⟩, st_N (rfl)⟩, ?_⟩
    refine sq_ok rfl [(.aload_n 0, 0, 0, 0), (.getfield 28, 5, 6, 0), (.aload_n 0, 0, 0, 0), (.getfield 53, 5, 7, 0), (.iload_n 2, 0, 0, 0), (.iastore, 0, 0, 0)] 54 _ _ _ _ _ (by decide +kernel) ?_
    show ∃ (j63 : Nat) (g63 : Nat → Int32), (mj nA (kI (arcs : Int)) j63 ∧ g63 = upd (fun q => kI ((at_ q : Nat) : Int)) j63 (kI (t : Int))) ∧ WM mX5_addArc (gr nA arcs - nA) (4 * (gr nA arcs - nA)) Post 11 64 [(0, .ref 0), (1, vI (x : Int)), (2, vI (t : Int))] [] [ob 5 [vI (cnt : Int), .ref 1, .ref 2, .ref 3, .ref 4, .ref 11, .ref 12, vI (arcs : Int), vI (ln : Int), .ref 5, .ref 6, .ref 7, .ref 8, .ref 9, .ref 10], cK 300 wy, cN 300 fa, cK 300 fw, cN 301 as_, cK 2107 me, cI 401 fb, cI 300 nb, cK 4 wu, cI 200 fk, cI 512 nw, cN nA (va_up aw arcs x), .inl (0, nA, .inl g63)] 0 0
    refine ⟨arcs, fun q => kI (((va_up at_ arcs t) q : Nat) : Int), ⟨⟨by omega, by omega, rfl⟩, st_N (rfl)⟩, ?_⟩
    refine sq_ok rfl [(.aload_n 0, 0, 0, 0), (.dup, 0, 0, 0), (.getfield 53, 5, 7, 0), (.iconst 1, 0, 0, 0), (.iadd, 0, 0, 0), (.putfield 53, 5, 7, 0), (.return_, 0, 0, 0)] 64 _ _ _ _ _ (by decide +kernel) ?_
    show ((0 ≤ (gr nA arcs - nA) ∧ 0 ≤ (4 * (gr nA arcs - nA))) ∧ Post none [ob 5 [vI (cnt : Int), .ref 1, .ref 2, .ref 3, .ref 4, .ref 11, .ref 12, .int ((kI (arcs : Int)) + (kI 1)), vI (ln : Int), .ref 5, .ref 6, .ref 7, .ref 8, .ref 9, .ref 10], cK 300 wy, cN 300 fa, cK 300 fw, cN 301 as_, cK 2107 me, cI 401 fb, cI 300 nb, cK 4 wu, cI 200 fk, cI 512 nw, cN nA (va_up aw arcs x), cN nA (va_up at_ arcs t)])
    have e2 : ((kI (arcs : Int)) + (kI 1)) = kI (((arcs + 1) : Nat) : Int) := by first | (simp only [kI_add, kI_sub, kI_mul]; done) | (simp only [kI_add, kI_sub, kI_mul]; rfl)
    rw [e2]
    refine ⟨⟨(by omega), (by omega)⟩, hPo _ _ ?_⟩
    first
    | (rw [show gr nA arcs = nA by omega]; refine ⟨_, _, rfl, rfl, fun k hk => ⟨up_ne _ _ (by omega), up_ne _ _ (by omega)⟩, up_eq _ _ _, up_eq _ _ _⟩)
    | (rw [show gr nA arcs = 2 * nA by omega]; refine ⟨_, _, rfl, rfl, fun k hk => ⟨(up_ne _ _ (by omega)).trans (cpy_lt (by omega)), (up_ne _ _ (by omega)).trans (cpy_lt (by omega))⟩, up_eq _ _ _, up_eq _ _ _⟩)
  · 
    rw [kI_lt (by omega)] at c9
    refine sq_ok rfl [(.iconst 2, 0, 0, 0), (.aload_n 0, 0, 0, 0), (.getfield 25, 5, 5, 0), (.arraylength, 0, 0, 0), (.imul, 0, 0, 0)] 12 _ _ _ _ _ (by decide +kernel) ?_
    show WM mX5_addArc (gr nA arcs - nA) (4 * (gr nA arcs - nA)) Post 11 19 [(0, .ref 0), (1, vI (x : Int)), (2, vI (t : Int))] [.int ((kI 2) * (kI (nA : Int)))] [ob 5 [vI (cnt : Int), .ref 1, .ref 2, .ref 3, .ref 4, .ref 11, .ref 12, vI (arcs : Int), vI (ln : Int), .ref 5, .ref 6, .ref 7, .ref 8, .ref 9, .ref 10], cK 300 wy, cN 300 fa, cK 300 fw, cN 301 as_, cK 2107 me, cI 401 fb, cI 300 nb, cK 4 wu, cI 200 fk, cI 512 nw, cN nA aw, cN nA at_] 0 0
    have e3 : ((kI 2) * (kI (nA : Int))) = kI (((2 * nA) : Nat) : Int) := by rw [kI_mul]; rfl
    rw [e3]
    refine sq_ok rfl [(.istore_n 3, 0, 0, 0), (.aload_n 0, 0, 0, 0), (.aload_n 0, 0, 0, 0), (.getfield 25, 5, 5, 0), (.iload_n 3, 0, 0, 0)] 19 _ _ _ _ _ (by decide +kernel) ?_
    show WM mX5_addArc (gr nA arcs - nA) (4 * (gr nA arcs - nA)) Post 11 26 [(0, .ref 0), (1, vI (x : Int)), (2, vI (t : Int)), (3, vI (((2 * nA) : Nat) : Int))] [vI (((2 * nA) : Nat) : Int), .ref 11, .ref 0] [ob 5 [vI (cnt : Int), .ref 1, .ref 2, .ref 3, .ref 4, .ref 11, .ref 12, vI (arcs : Int), vI (ln : Int), .ref 5, .ref 6, .ref 7, .ref 8, .ref 9, .ref 10], cK 300 wy, cN 300 fa, cK 300 fw, cN 301 as_, cK 2107 me, cI 401 fb, cI 300 nb, cK 4 wu, cI 200 fk, cI 512 nw, cN nA aw, cN nA at_] 0 0
    refine wm_callS (y := mX5_addArc) mJ7_copyOf_59c91 [11] (pc := 26) (rest := [.ref 0]) (mc' := 1) (ms' := (2 * nA)) (by decide +kernel) kX5_132 (c_copyOf nA (2 * nA) aw (by omega) (by omega)) rfl ⟨Nat.le_of_ble_eq_true rfl, Nat.le_of_ble_eq_true rfl⟩ ⟨by omega, by omega⟩ (Nat.le_of_ble_eq_true rfl) rfl rfl (Nat.le_of_ble_eq_true rfl) rfl ?_
    rintro _ _ ⟨rfl, rfl⟩
    show WM mX5_addArc (gr nA arcs - nA) (4 * (gr nA arcs - nA)) Post 11 29 [(0, .ref 0), (1, vI (x : Int)), (2, vI (t : Int)), (3, vI (((2 * nA) : Nat) : Int))] [.ref 13, .ref 0] [ob 5 [vI (cnt : Int), .ref 1, .ref 2, .ref 3, .ref 4, .ref 11, .ref 12, vI (arcs : Int), vI (ln : Int), .ref 5, .ref 6, .ref 7, .ref 8, .ref 9, .ref 10], cK 300 wy, cN 300 fa, cK 300 fw, cN 301 as_, cK 2107 me, cI 401 fb, cI 300 nb, cK 4 wu, cI 200 fk, cI 512 nw, cN nA aw, cN nA at_, cN (2 * nA) (va_cpy aw (fun _ => 0) 0 0 nA)] 1 (0 + 2 * nA)
    refine sq_ok rfl [(.putfield 25, 5, 5, 0), (.aload_n 0, 0, 0, 0), (.aload_n 0, 0, 0, 0), (.getfield 28, 5, 6, 0), (.iload_n 3, 0, 0, 0)] 29 _ _ _ _ _ (by decide +kernel) ?_
    show WM mX5_addArc (gr nA arcs - nA) (4 * (gr nA arcs - nA)) Post 11 38 [(0, .ref 0), (1, vI (x : Int)), (2, vI (t : Int)), (3, vI (((2 * nA) : Nat) : Int))] [vI (((2 * nA) : Nat) : Int), .ref 12, .ref 0] [ob 5 [vI (cnt : Int), .ref 1, .ref 2, .ref 3, .ref 4, .ref 13, .ref 12, vI (arcs : Int), vI (ln : Int), .ref 5, .ref 6, .ref 7, .ref 8, .ref 9, .ref 10], cK 300 wy, cN 300 fa, cK 300 fw, cN 301 as_, cK 2107 me, cI 401 fb, cI 300 nb, cK 4 wu, cI 200 fk, cI 512 nw, cN nA aw, cN nA at_, cN (2 * nA) (va_cpy aw (fun _ => 0) 0 0 nA)] 1 (0 + 2 * nA)
    refine wm_callS (y := mX5_addArc) mJ7_copyOf_59c91 [12] (pc := 38) (rest := [.ref 0]) (mc' := 1) (ms' := (2 * nA)) (by decide +kernel) kX5_132 (c_copyOf nA (2 * nA) at_ (by omega) (by omega)) rfl ⟨Nat.le_of_ble_eq_true rfl, Nat.le_of_ble_eq_true rfl⟩ ⟨by omega, by omega⟩ (Nat.le_of_ble_eq_true rfl) rfl rfl (Nat.le_of_ble_eq_true rfl) rfl ?_
    rintro _ _ ⟨rfl, rfl⟩
    show WM mX5_addArc (gr nA arcs - nA) (4 * (gr nA arcs - nA)) Post 11 41 [(0, .ref 0), (1, vI (x : Int)), (2, vI (t : Int)), (3, vI (((2 * nA) : Nat) : Int))] [.ref 14, .ref 0] [ob 5 [vI (cnt : Int), .ref 1, .ref 2, .ref 3, .ref 4, .ref 13, .ref 12, vI (arcs : Int), vI (ln : Int), .ref 5, .ref 6, .ref 7, .ref 8, .ref 9, .ref 10], cK 300 wy, cN 300 fa, cK 300 fw, cN 301 as_, cK 2107 me, cI 401 fb, cI 300 nb, cK 4 wu, cI 200 fk, cI 512 nw, cN nA aw, cN nA at_, cN (2 * nA) (va_cpy aw (fun _ => 0) 0 0 nA), cN (2 * nA) (va_cpy at_ (fun _ => 0) 0 0 nA)] 2 (0 + 2 * nA + 2 * nA)
    refine sq_ok rfl [(.putfield 28, 5, 6, 0)] 41 _ _ _ _ _ (by decide +kernel) ?_
    show WM mX5_addArc (gr nA arcs - nA) (4 * (gr nA arcs - nA)) Post 11 44 [(0, .ref 0), (1, vI (x : Int)), (2, vI (t : Int)), (3, vI (((2 * nA) : Nat) : Int))] [] [ob 5 [vI (cnt : Int), .ref 1, .ref 2, .ref 3, .ref 4, .ref 13, .ref 14, vI (arcs : Int), vI (ln : Int), .ref 5, .ref 6, .ref 7, .ref 8, .ref 9, .ref 10], cK 300 wy, cN 300 fa, cK 300 fw, cN 301 as_, cK 2107 me, cI 401 fb, cI 300 nb, cK 4 wu, cI 200 fk, cI 512 nw, cN nA aw, cN nA at_, cN (2 * nA) (va_cpy aw (fun _ => 0) 0 0 nA), cN (2 * nA) (va_cpy at_ (fun _ => 0) 0 0 nA)] 2 (0 + 2 * nA + 2 * nA)
    refine WM.move (L' := [(0, .ref 0), (1, vI (x : Int)), (2, vI (t : Int)), (3, vI (((2 * nA) : Nat) : Int))]) (st' := []) (w' := [ob 5 [vI (cnt : Int), .ref 1, .ref 2, .ref 3, .ref 4, .ref 11, .ref 12, vI (arcs : Int), vI (ln : Int), .ref 5, .ref 6, .ref 7, .ref 8, .ref 9, .ref 10], cK 300 wy, cN 300 fa, cK 300 fw, cN 301 as_, cK 2107 me, cI 401 fb, cI 300 nb, cK 4 wu, cI 200 fk, cI 512 nw, cN (2 * nA) (va_cpy aw (fun _ => 0) 0 0 nA), cN (2 * nA) (va_cpy at_ (fun _ => 0) 0 0 nA)]) [0, 1, 2, 3, 4, 5, 6, 7, 8, 9, 10, 13, 14] ?_ rfl rfl rfl
    refine sq_ok rfl [(.aload_n 0, 0, 0, 0), (.getfield 25, 5, 5, 0), (.aload_n 0, 0, 0, 0), (.getfield 53, 5, 7, 0), (.iload_n 1, 0, 0, 0), (.iastore, 0, 0, 0)] 44 _ _ _ _ _ (by decide +kernel) ?_
    show ∃ (j53 : Nat) (g53 : Nat → Int32), (mj (2 * nA) (kI (arcs : Int)) j53 ∧ g53 = upd (fun q => kI (((va_cpy aw (fun _ => 0) 0 0 nA) q : Nat) : Int)) j53 (kI (x : Int))) ∧ WM mX5_addArc (gr nA arcs - nA) (4 * (gr nA arcs - nA)) Post 11 54 [(0, .ref 0), (1, vI (x : Int)), (2, vI (t : Int)), (3, vI (((2 * nA) : Nat) : Int))] [] [ob 5 [vI (cnt : Int), .ref 1, .ref 2, .ref 3, .ref 4, .ref 11, .ref 12, vI (arcs : Int), vI (ln : Int), .ref 5, .ref 6, .ref 7, .ref 8, .ref 9, .ref 10], cK 300 wy, cN 300 fa, cK 300 fw, cN 301 as_, cK 2107 me, cI 401 fb, cI 300 nb, cK 4 wu, cI 200 fk, cI 512 nw, .inl (0, (2 * nA), .inl g53), cN (2 * nA) (va_cpy at_ (fun _ => 0) 0 0 nA)] 2 (0 + 2 * nA + 2 * nA)
    refine ⟨arcs, fun q => kI (((va_up (va_cpy aw (fun _ => 0) 0 0 nA) arcs x) q : Nat) : Int), ⟨⟨by omega, by omega, rfl⟩, st_N (rfl)⟩, ?_⟩
    refine sq_ok rfl [(.aload_n 0, 0, 0, 0), (.getfield 28, 5, 6, 0), (.aload_n 0, 0, 0, 0), (.getfield 53, 5, 7, 0), (.iload_n 2, 0, 0, 0), (.iastore, 0, 0, 0)] 54 _ _ _ _ _ (by decide +kernel) ?_
    show ∃ (j63 : Nat) (g63 : Nat → Int32), (mj (2 * nA) (kI (arcs : Int)) j63 ∧ g63 = upd (fun q => kI (((va_cpy at_ (fun _ => 0) 0 0 nA) q : Nat) : Int)) j63 (kI (t : Int))) ∧ WM mX5_addArc (gr nA arcs - nA) (4 * (gr nA arcs - nA)) Post 11 64 [(0, .ref 0), (1, vI (x : Int)), (2, vI (t : Int)), (3, vI (((2 * nA) : Nat) : Int))] [] [ob 5 [vI (cnt : Int), .ref 1, .ref 2, .ref 3, .ref 4, .ref 11, .ref 12, vI (arcs : Int), vI (ln : Int), .ref 5, .ref 6, .ref 7, .ref 8, .ref 9, .ref 10], cK 300 wy, cN 300 fa, cK 300 fw, cN 301 as_, cK 2107 me, cI 401 fb, cI 300 nb, cK 4 wu, cI 200 fk, cI 512 nw, cN (2 * nA) (va_up (va_cpy aw (fun _ => 0) 0 0 nA) arcs x), .inl (0, (2 * nA), .inl g63)] 2 (0 + 2 * nA + 2 * nA)
    refine ⟨arcs, fun q => kI (((va_up (va_cpy at_ (fun _ => 0) 0 0 nA) arcs t) q : Nat) : Int), ⟨⟨by omega, by omega, rfl⟩, st_N (rfl)⟩, ?_⟩
    refine sq_ok rfl [(.aload_n 0, 0, 0, 0), (.dup, 0, 0, 0), (.getfield 53, 5, 7, 0), (.iconst 1, 0, 0, 0), (.iadd, 0, 0, 0), (.putfield 53, 5, 7, 0), (.return_, 0, 0, 0)] 64 _ _ _ _ _ (by decide +kernel) ?_
    show ((2 ≤ (gr nA arcs - nA) ∧ 0 + 2 * nA + 2 * nA ≤ (4 * (gr nA arcs - nA))) ∧ Post none [ob 5 [vI (cnt : Int), .ref 1, .ref 2, .ref 3, .ref 4, .ref 11, .ref 12, .int ((kI (arcs : Int)) + (kI 1)), vI (ln : Int), .ref 5, .ref 6, .ref 7, .ref 8, .ref 9, .ref 10], cK 300 wy, cN 300 fa, cK 300 fw, cN 301 as_, cK 2107 me, cI 401 fb, cI 300 nb, cK 4 wu, cI 200 fk, cI 512 nw, cN (2 * nA) (va_up (va_cpy aw (fun _ => 0) 0 0 nA) arcs x), cN (2 * nA) (va_up (va_cpy at_ (fun _ => 0) 0 0 nA) arcs t)])
    have e4 : ((kI (arcs : Int)) + (kI 1)) = kI (((arcs + 1) : Nat) : Int) := by first | (simp only [kI_add, kI_sub, kI_mul]; done) | (simp only [kI_add, kI_sub, kI_mul]; rfl)
    rw [e4]
    refine ⟨⟨(by omega), (by omega)⟩, hPo _ _ ?_⟩
    first
    | (rw [show gr nA arcs = nA by omega]; refine ⟨_, _, rfl, rfl, fun k hk => ⟨up_ne _ _ (by omega), up_ne _ _ (by omega)⟩, up_eq _ _ _, up_eq _ _ _⟩)
    | (rw [show gr nA arcs = 2 * nA by omega]; refine ⟨_, _, rfl, rfl, fun k hk => ⟨(up_ne _ _ (by omega)).trans (cpy_lt (by omega)), (up_ne _ _ (by omega)).trans (cpy_lt (by omega))⟩, up_eq _ _ _, up_eq _ _ _⟩)
