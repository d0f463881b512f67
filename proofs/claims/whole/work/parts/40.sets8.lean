/-! Sets: which phrase a row is -/
def bwS (wy as_ aw at_ : Nat → Nat) (s : Nat) (x : Int) : Nat → Nat
  | 0 => 0
  | k + 1 => if ((aw (as_ s + k) : Nat) : Int) < x then bwS wy as_ aw at_ s x k + wy (at_ (as_ s + k)) else bwS wy as_ aw at_ s x k
def bwO (wy as_ aw at_ : Nat → Nat) (s : Nat) (x : Int) : Nat := bwS wy as_ aw at_ s x (as_ (s + 1) - as_ s)
def nbR (af : Nat → Int → Option Nat) (en : Nat → Nat) (bw : Nat → Int → Nat) : List Int → Nat → Nat → Option Nat
  | [], s, a => if en s = 1 then some a else none
  | x :: xs, s, a => match af s x with
    | none => none
    | some t => nbR af en bw xs t (a + en s + bw s x)
theorem nbR_nil {af : Nat → Int → Option Nat} {en : Nat → Nat} {bw : Nat → Int → Nat} {s a : Nat} : nbR af en bw [] s a = if en s = 1 then some a else none := rfl
theorem nbR_cons {af : Nat → Int → Option Nat} {en : Nat → Nat} {bw : Nat → Int → Nat} {x : Int} {xs : List Int} {s a : Nat} : nbR af en bw (x :: xs) s a = match af s x with
    | none => none
    | some t => nbR af en bw xs t (a + en s + bw s x) := rfl

set_option maxRecDepth 100000 in
set_option maxHeartbeats 500000 in
theorem c_X5_waysBelow (cnt : Nat) (wy fa fw as_ aw at_ : Nat → Nat) (nA arcs ln : Nat) (me : Nat → Nat) (fb nb : Nat → Int) (wu : Nat → Nat) (fk nw : Nat → Int) (s : Nat) (x : Int) (hs : s < 300) (hA : as_ s ≤ as_ (s + 1) ∧ as_ (s + 1) ≤ nA) (hnA : nA < 2147483648) (hat : ∀ k, as_ s ≤ k → k < as_ (s + 1) → aw k < 200 ∧ at_ k < 300) (hx : -2 ≤ x ∧ x < 2147483648) : CT mX5_waysBelow 0 0 [.ref 0, vI (s : Int), vI x] [ob 5 [vI (cnt : Int), .ref 1, .ref 2, .ref 3, .ref 4, .ref 11, .ref 12, vI (arcs : Int), vI (ln : Int), .ref 5, .ref 6, .ref 7, .ref 8, .ref 9, .ref 10], cK 300 wy, cN 300 fa, cK 300 fw, cN 301 as_, cK 2107 me, cI 401 fb, cI 300 nb, cK 4 wu, cI 200 fk, cI 512 nw, cN nA aw, cN nA at_] (fun r w => r = some (vJ (bwO wy as_ aw at_ s x : Nat)) ∧ w = [ob 5 [vI (cnt : Int), .ref 1, .ref 2, .ref 3, .ref 4, .ref 11, .ref 12, vI (arcs : Int), vI (ln : Int), .ref 5, .ref 6, .ref 7, .ref 8, .ref 9, .ref 10], cK 300 wy, cN 300 fa, cK 300 fw, cN 301 as_, cK 2107 me, cI 401 fb, cI 300 nb, cK 4 wu, cI 200 fk, cI 512 nw, cN nA aw, cN nA at_]) := by
  refine CT.intro rfl (Nat.le_of_ble_eq_true rfl) ?_
  generalize hPost : (fun r w => r = some (vJ (bwO wy as_ aw at_ s x : Nat)) ∧ w = [ob 5 [vI (cnt : Int), .ref 1, .ref 2, .ref 3, .ref 4, .ref 11, .ref 12, vI (arcs : Int), vI (ln : Int), .ref 5, .ref 6, .ref 7, .ref 8, .ref 9, .ref 10], cK 300 wy, cN 300 fa, cK 300 fw, cN 301 as_, cK 2107 me, cI 401 fb, cI 300 nb, cK 4 wu, cI 200 fk, cI 512 nw, cN nA aw, cN nA at_] : MP) = Post
  have hPo : ∀ rr ww, (fun r w => r = some (vJ (bwO wy as_ aw at_ s x : Nat)) ∧ w = [ob 5 [vI (cnt : Int), .ref 1, .ref 2, .ref 3, .ref 4, .ref 11, .ref 12, vI (arcs : Int), vI (ln : Int), .ref 5, .ref 6, .ref 7, .ref 8, .ref 9, .ref 10], cK 300 wy, cN 300 fa, cK 300 fw, cN 301 as_, cK 2107 me, cI 401 fb, cI 300 nb, cK 4 wu, cI 200 fk, cI 512 nw, cN nA aw, cN nA at_] : MP) rr ww → Post rr ww := by rw [← hPost]; exact fun _ _ h => h
  clear hPost
  show WM mX5_waysBelow 0 0 Post 13 0 [(0, .ref 0), (1, vI (s : Int)), (2, vI x)] [] [ob 5 [vI (cnt : Int), .ref 1, .ref 2, .ref 3, .ref 4, .ref 11, .ref 12, vI (arcs : Int), vI (ln : Int), .ref 5, .ref 6, .ref 7, .ref 8, .ref 9, .ref 10], cK 300 wy, cN 300 fa, cK 300 fw, cN 301 as_, cK 2107 me, cI 401 fb, cI 300 nb, cK 4 wu, cI 200 fk, cI 512 nw, cN nA aw, cN nA at_] 0 0
  refine sq_ok rfl [(.lconst 0, 0, 0, 0), (.lstore_n 3, 0, 0, 0), (.aload_n 0, 0, 0, 0), (.getfield 22, 5, 4, 0), (.iload_n 1, 0, 0, 0), (.iaload, 0, 0, 0), (.istore 5, 0, 0, 0)] 0 _ _ _ _ _ (by decide +kernel) ?_
  show ∃ j7 : Nat, mj 301 (kI (s : Int)) j7 ∧ WM mX5_waysBelow 0 0 Post 13 10 [(0, .ref 0), (1, vI (s : Int)), (2, vI x), (3, vJ 0), (5, vI ((as_ j7 : Nat) : Int))] [] [ob 5 [vI (cnt : Int), .ref 1, .ref 2, .ref 3, .ref 4, .ref 11, .ref 12, vI (arcs : Int), vI (ln : Int), .ref 5, .ref 6, .ref 7, .ref 8, .ref 9, .ref 10], cK 300 wy, cN 300 fa, cK 300 fw, cN 301 as_, cK 2107 me, cI 401 fb, cI 300 nb, cK 4 wu, cI 200 fk, cI 512 nw, cN nA aw, cN nA at_] 0 0
  refine ⟨s, ⟨by omega, by omega, rfl⟩, ?_⟩
  have lp10 : ∀ (n10 : Nat) (b : Nat) (k : Nat), (as_ s ≤ k ∧ k ≤ as_ (s + 1)) → (b = bwS wy as_ aw at_ s x (k - as_ s)) → (as_ (s + 1) - k) < n10 → WM mX5_waysBelow 0 0 Post 13 10 [(0, .ref 0), (1, vI (s : Int)), (2, vI x), (3, vJ (b : Int)), (5, vI (k : Int))] [] [ob 5 [vI (cnt : Int), .ref 1, .ref 2, .ref 3, .ref 4, .ref 11, .ref 12, vI (arcs : Int), vI (ln : Int), .ref 5, .ref 6, .ref 7, .ref 8, .ref 9, .ref 10], cK 300 wy, cN 300 fa, cK 300 fw, cN 301 as_, cK 2107 me, cI 401 fb, cI 300 nb, cK 4 wu, cI 200 fk, cI 512 nw, cN nA aw, cN nA at_] 0 0 := by
    intro n10
    induction n10 with
    | zero => intro b k hk hb hm; exact absurd hm (Nat.not_lt_zero _)
    | succ n10 ih10 =>
      intro b k hk hb hm10
      refine sq_ok rfl [(.iload 5, 0, 0, 0), (.aload_n 0, 0, 0, 0), (.getfield 22, 5, 4, 0), (.iload_n 1, 0, 0, 0), (.iconst 1, 0, 0, 0), (.iadd, 0, 0, 0), (.iaload, 0, 0, 0), (.if_icmp .ge 35, 0, 0, 0)] 10 _ _ _ _ _ (by decide +kernel) ?_
      show ∃ j19 : Nat, mj 301 ((kI (s : Int)) + (kI 1)) j19 ∧ (kI ((as_ j19 : Nat) : Int) ≤ kI (k : Int) → WM mX5_waysBelow 0 0 Post 13 55 [(0, .ref 0), (1, vI (s : Int)), (2, vI x), (3, vJ (b : Int)), (5, vI (k : Int))] [] [ob 5 [vI (cnt : Int), .ref 1, .ref 2, .ref 3, .ref 4, .ref 11, .ref 12, vI (arcs : Int), vI (ln : Int), .ref 5, .ref 6, .ref 7, .ref 8, .ref 9, .ref 10], cK 300 wy, cN 300 fa, cK 300 fw, cN 301 as_, cK 2107 me, cI 401 fb, cI 300 nb, cK 4 wu, cI 200 fk, cI 512 nw, cN nA aw, cN nA at_] 0 0) ∧ (¬ kI ((as_ j19 : Nat) : Int) ≤ kI (k : Int) → WM mX5_waysBelow 0 0 Post 13 23 [(0, .ref 0), (1, vI (s : Int)), (2, vI x), (3, vJ (b : Int)), (5, vI (k : Int))] [] [ob 5 [vI (cnt : Int), .ref 1, .ref 2, .ref 3, .ref 4, .ref 11, .ref 12, vI (arcs : Int), vI (ln : Int), .ref 5, .ref 6, .ref 7, .ref 8, .ref 9, .ref 10], cK 300 wy, cN 300 fa, cK 300 fw, cN 301 as_, cK 2107 me, cI 401 fb, cI 300 nb, cK 4 wu, cI 200 fk, cI 512 nw, cN nA aw, cN nA at_] 0 0)
      refine ⟨(s + 1), ⟨by omega, by omega, by rw [kI_add]; rfl⟩, ?_⟩
      refine ⟨fun c20 => ?_, fun c20 => ?_⟩
      · 
        rw [kI_le (by omega)] at c20
        refine sq_ok rfl [(.lload_n 3, 0, 0, 0), (.lreturn, 0, 0, 0)] 55 _ _ _ _ _ (by decide +kernel) ?_
        show ((0 ≤ 0 ∧ 0 ≤ 0) ∧ Post (some (vJ (b : Int))) [ob 5 [vI (cnt : Int), .ref 1, .ref 2, .ref 3, .ref 4, .ref 11, .ref 12, vI (arcs : Int), vI (ln : Int), .ref 5, .ref 6, .ref 7, .ref 8, .ref 9, .ref 10], cK 300 wy, cN 300 fa, cK 300 fw, cN 301 as_, cK 2107 me, cI 401 fb, cI 300 nb, cK 4 wu, cI 200 fk, cI 512 nw, cN nA aw, cN nA at_])
        refine ⟨⟨Nat.le_refl _, Nat.le_refl _⟩, hPo _ _ ?_⟩
        have e : k = as_ (s + 1) := by omega
        rw [e] at hb
        exact ⟨by rw [hb]; rfl, rfl⟩
      · 
        rw [kI_le (by omega)] at c20
        obtain ⟨ha1, ha2⟩ := hat k (by omega) (by omega)
        have hbs : bwS wy as_ aw at_ s x (k + 1 - as_ s) = if ((aw k : Nat) : Int) < x then b + wy (at_ k) else b := by rw [show k + 1 - as_ s = (k - as_ s) + 1 by omega]; unfold bwS; rw [show as_ s + (k - as_ s) = k by omega, ← hb]
        refine sq_ok rfl [(.aload_n 0, 0, 0, 0), (.getfield 25, 5, 5, 0), (.iload 5, 0, 0, 0), (.iaload, 0, 0, 0), (.iload_n 2, 0, 0, 0), (.if_icmp .ge 18, 0, 0, 0)] 23 _ _ _ _ _ (by decide +kernel) ?_
        show ∃ j29 : Nat, mj nA (kI (k : Int)) j29 ∧ (kI x ≤ kI ((aw j29 : Nat) : Int) → WM mX5_waysBelow 0 0 Post 13 49 [(0, .ref 0), (1, vI (s : Int)), (2, vI x), (3, vJ (b : Int)), (5, vI (k : Int))] [] [ob 5 [vI (cnt : Int), .ref 1, .ref 2, .ref 3, .ref 4, .ref 11, .ref 12, vI (arcs : Int), vI (ln : Int), .ref 5, .ref 6, .ref 7, .ref 8, .ref 9, .ref 10], cK 300 wy, cN 300 fa, cK 300 fw, cN 301 as_, cK 2107 me, cI 401 fb, cI 300 nb, cK 4 wu, cI 200 fk, cI 512 nw, cN nA aw, cN nA at_] 0 0) ∧ (¬ kI x ≤ kI ((aw j29 : Nat) : Int) → WM mX5_waysBelow 0 0 Post 13 34 [(0, .ref 0), (1, vI (s : Int)), (2, vI x), (3, vJ (b : Int)), (5, vI (k : Int))] [] [ob 5 [vI (cnt : Int), .ref 1, .ref 2, .ref 3, .ref 4, .ref 11, .ref 12, vI (arcs : Int), vI (ln : Int), .ref 5, .ref 6, .ref 7, .ref 8, .ref 9, .ref 10], cK 300 wy, cN 300 fa, cK 300 fw, cN 301 as_, cK 2107 me, cI 401 fb, cI 300 nb, cK 4 wu, cI 200 fk, cI 512 nw, cN nA aw, cN nA at_] 0 0)
        refine ⟨k, ⟨by omega, by omega, rfl⟩, ?_⟩
        refine ⟨fun c31 => ?_, fun c31 => ?_⟩
        · 
          rw [kI_le (by omega)] at c31
          refine sq_ok rfl [(.iinc 5 1, 0, 0, 0), (.goto (-42), 0, 0, 0)] 49 _ _ _ _ _ (by decide +kernel) ?_
          show WM mX5_waysBelow 0 0 Post 13 10 [(0, .ref 0), (1, vI (s : Int)), (2, vI x), (3, vJ (b : Int)), (5, .int ((kI (k : Int)) + (kI 1)))] [] [ob 5 [vI (cnt : Int), .ref 1, .ref 2, .ref 3, .ref 4, .ref 11, .ref 12, vI (arcs : Int), vI (ln : Int), .ref 5, .ref 6, .ref 7, .ref 8, .ref 9, .ref 10], cK 300 wy, cN 300 fa, cK 300 fw, cN 301 as_, cK 2107 me, cI 401 fb, cI 300 nb, cK 4 wu, cI 200 fk, cI 512 nw, cN nA aw, cN nA at_] 0 0
          have e3 : ((kI (k : Int)) + (kI 1)) = kI (((k + 1) : Nat) : Int) := by first | (simp only [kI_add, kI_sub, kI_mul]; done) | (simp only [kI_add, kI_sub, kI_mul]; rfl)
          rw [e3]
          exact WM.pick [0, 1, 2, 3, 4] rfl (ih10 b (k + 1) (by omega) (by first | (rw [if_pos (by omega)] at hbs; exact hbs.symm) | (rw [if_neg (by omega)] at hbs; exact hbs.symm)) (by omega))
        · 
          rw [kI_le (by omega)] at c31
          refine sq_ok rfl [(.lload_n 3, 0, 0, 0), (.aload_n 0, 0, 0, 0), (.getfield 9, 5, 1, 0), (.aload_n 0, 0, 0, 0), (.getfield 28, 5, 6, 0), (.iload 5, 0, 0, 0), (.iaload, 0, 0, 0), (.laload, 0, 0, 0), (.ladd, 0, 0, 0), (.lstore_n 3, 0, 0, 0), (.iinc 5 1, 0, 0, 0), (.goto (-42), 0, 0, 0)] 34 _ _ _ _ _ (by decide +kernel) ?_
          show ∃ j45 : Nat, mj nA (kI (k : Int)) j45 ∧ ∃ j46 : Nat, mj 300 (kI ((at_ j45 : Nat) : Int)) j46 ∧ WM mX5_waysBelow 0 0 Post 13 10 [(0, .ref 0), (1, vI (s : Int)), (2, vI x), (3, .long ((kL (b : Int)) + (kL ((wy j46 : Nat) : Int)))), (5, .int ((kI (k : Int)) + (kI 1)))] [] [ob 5 [vI (cnt : Int), .ref 1, .ref 2, .ref 3, .ref 4, .ref 11, .ref 12, vI (arcs : Int), vI (ln : Int), .ref 5, .ref 6, .ref 7, .ref 8, .ref 9, .ref 10], cK 300 wy, cN 300 fa, cK 300 fw, cN 301 as_, cK 2107 me, cI 401 fb, cI 300 nb, cK 4 wu, cI 200 fk, cI 512 nw, cN nA aw, cN nA at_] 0 0
          refine ⟨k, ⟨by omega, by omega, rfl⟩, ?_⟩
          refine ⟨(at_ k), ⟨by omega, by omega, rfl⟩, ?_⟩
          have e4 : ((kL (b : Int)) + (kL ((wy (at_ k) : Nat) : Int))) = kL (((b + (wy (at_ k))) : Nat) : Int) := by first | (simp only [kL_add, kL_sub, kL_mul]; done) | (simp only [kL_add, kL_sub, kL_mul]; rfl)
          rw [e4]
          have e5 : ((kI (k : Int)) + (kI 1)) = kI (((k + 1) : Nat) : Int) := by first | (simp only [kI_add, kI_sub, kI_mul]; done) | (simp only [kI_add, kI_sub, kI_mul]; rfl)
          rw [e5]
          exact WM.pick [0, 1, 2, 3, 4] rfl (ih10 (b + (wy (at_ k))) (k + 1) (by omega) (by first | (rw [if_pos (by omega)] at hbs; exact hbs.symm) | (rw [if_neg (by omega)] at hbs; exact hbs.symm)) (by omega))
  exact WM.pick [0, 1, 2, 3, 4] rfl (lp10 _ 0 (as_ s) (by omega) (by rw [Nat.sub_self]; rfl) (Nat.lt_succ_self _))

set_option maxRecDepth 100000 in
set_option maxHeartbeats 500000 in
theorem c_X5_numberOf (cnt : Nat) (wy fa fw as_ aw at_ : Nat → Nat) (nA arcs ln : Nat) (me : Nat → Nat) (fb nb : Nat → Int) (wu : Nat → Nat) (fk nw : Nat → Int) (hme : ∀ j, me j < 18446744073709551616) (hln : ln < 401) (hc : 0 < cnt ∧ cnt ≤ 300) (hnA : nA < 2147483648) (hT : ∀ s, s < cnt → as_ s ≤ as_ (s + 1) ∧ as_ (s + 1) ≤ nA ∧ ∀ k, as_ s ≤ k → k < as_ (s + 1) → aw k < 200 ∧ at_ k < cnt) (mo len : Nat) (hmo : mo < 2147483648) (hlen : len ≤ mo) (nums : Nat → Int) (hn : ∀ i, i < len → -2 ≤ nums i ∧ nums i < 200) : CT mX5_numberOf 0 0 [.ref 0, .ref 13, vI (len : Int)] [ob 5 [vI (cnt : Int), .ref 1, .ref 2, .ref 3, .ref 4, .ref 11, .ref 12, vI (arcs : Int), vI (ln : Int), .ref 5, .ref 6, .ref 7, .ref 8, .ref 9, .ref 10], cK 300 wy, cN 300 fa, cK 300 fw, cN 301 as_, cK 2107 me, cI 401 fb, cI 300 nb, cK 4 wu, cI 200 fk, cI 512 nw, cN nA aw, cN nA at_, cI mo nums] (fun r w => r = some (vJ (oI (nbR (afO as_ aw at_) (waE me ln) (bwO wy as_ aw at_) ((List.range len).map nums) 0 0))) ∧ w = [ob 5 [vI (cnt : Int), .ref 1, .ref 2, .ref 3, .ref 4, .ref 11, .ref 12, vI (arcs : Int), vI (ln : Int), .ref 5, .ref 6, .ref 7, .ref 8, .ref 9, .ref 10], cK 300 wy, cN 300 fa, cK 300 fw, cN 301 as_, cK 2107 me, cI 401 fb, cI 300 nb, cK 4 wu, cI 200 fk, cI 512 nw, cN nA aw, cN nA at_, cI mo nums]) := by
  refine CT.intro rfl (Nat.le_of_ble_eq_true rfl) ?_
  generalize hPost : (fun r w => r = some (vJ (oI (nbR (afO as_ aw at_) (waE me ln) (bwO wy as_ aw at_) ((List.range len).map nums) 0 0))) ∧ w = [ob 5 [vI (cnt : Int), .ref 1, .ref 2, .ref 3, .ref 4, .ref 11, .ref 12, vI (arcs : Int), vI (ln : Int), .ref 5, .ref 6, .ref 7, .ref 8, .ref 9, .ref 10], cK 300 wy, cN 300 fa, cK 300 fw, cN 301 as_, cK 2107 me, cI 401 fb, cI 300 nb, cK 4 wu, cI 200 fk, cI 512 nw, cN nA aw, cN nA at_, cI mo nums] : MP) = Post
  have hPo : ∀ rr ww, (fun r w => r = some (vJ (oI (nbR (afO as_ aw at_) (waE me ln) (bwO wy as_ aw at_) ((List.range len).map nums) 0 0))) ∧ w = [ob 5 [vI (cnt : Int), .ref 1, .ref 2, .ref 3, .ref 4, .ref 11, .ref 12, vI (arcs : Int), vI (ln : Int), .ref 5, .ref 6, .ref 7, .ref 8, .ref 9, .ref 10], cK 300 wy, cN 300 fa, cK 300 fw, cN 301 as_, cK 2107 me, cI 401 fb, cI 300 nb, cK 4 wu, cI 200 fk, cI 512 nw, cN nA aw, cN nA at_, cI mo nums] : MP) rr ww → Post rr ww := by rw [← hPost]; exact fun _ _ h => h
  clear hPost
  show WM mX5_numberOf 0 0 Post 14 0 [(0, .ref 0), (1, .ref 13), (2, vI (len : Int))] [] [ob 5 [vI (cnt : Int), .ref 1, .ref 2, .ref 3, .ref 4, .ref 11, .ref 12, vI (arcs : Int), vI (ln : Int), .ref 5, .ref 6, .ref 7, .ref 8, .ref 9, .ref 10], cK 300 wy, cN 300 fa, cK 300 fw, cN 301 as_, cK 2107 me, cI 401 fb, cI 300 nb, cK 4 wu, cI 200 fk, cI 512 nw, cN nA aw, cN nA at_, cI mo nums] 0 0
  refine sq_ok rfl [(.lconst 0, 0, 0, 0), (.lstore_n 3, 0, 0, 0), (.iconst 0, 0, 0, 0), (.istore 5, 0, 0, 0), (.iconst 0, 0, 0, 0), (.istore 6, 0, 0, 0)] 0 _ _ _ _ _ (by decide +kernel) ?_
  show WM mX5_numberOf 0 0 Post 14 8 [(0, .ref 0), (1, .ref 13), (2, vI (len : Int)), (3, vJ 0), (5, vI 0), (6, vI 0)] [] [ob 5 [vI (cnt : Int), .ref 1, .ref 2, .ref 3, .ref 4, .ref 11, .ref 12, vI (arcs : Int), vI (ln : Int), .ref 5, .ref 6, .ref 7, .ref 8, .ref 9, .ref 10], cK 300 wy, cN 300 fa, cK 300 fw, cN 301 as_, cK 2107 me, cI 401 fb, cI 300 nb, cK 4 wu, cI 200 fk, cI 512 nw, cN nA aw, cN nA at_, cI mo nums] 0 0
  have lp8 : ∀ (n8 : Nat) (a : Nat) (s : Nat) (i : Nat), (s < cnt) → (i ≤ len) → (nbR (afO as_ aw at_) (waE me ln) (bwO wy as_ aw at_) ((List.range len).map nums) 0 0 = nbR (afO as_ aw at_) (waE me ln) (bwO wy as_ aw at_) (((List.range len).map nums).drop i) s a) → (len - i) < n8 → WM mX5_numberOf 0 0 Post 14 8 [(0, .ref 0), (1, .ref 13), (2, vI (len : Int)), (3, vJ (a : Int)), (5, vI (s : Int)), (6, vI (i : Int))] [] [ob 5 [vI (cnt : Int), .ref 1, .ref 2, .ref 3, .ref 4, .ref 11, .ref 12, vI (arcs : Int), vI (ln : Int), .ref 5, .ref 6, .ref 7, .ref 8, .ref 9, .ref 10], cK 300 wy, cN 300 fa, cK 300 fw, cN 301 as_, cK 2107 me, cI 401 fb, cI 300 nb, cK 4 wu, cI 200 fk, cI 512 nw, cN nA aw, cN nA at_, cI mo nums] 0 0 := by
    intro n8
    induction n8 with
    | zero => intro a s i hs hi hq hm; exact absurd hm (Nat.not_lt_zero _)
    | succ n8 ih8 =>
      intro a s i hs hi hq hm8
      refine sq_ok rfl [(.iload 6, 0, 0, 0), (.iload_n 2, 0, 0, 0), (.if_icmp .ge 71, 0, 0, 0)] 8 _ _ _ _ _ (by decide +kernel) ?_
      show (kI (len : Int) ≤ kI (i : Int) → WM mX5_numberOf 0 0 Post 14 82 [(0, .ref 0), (1, .ref 13), (2, vI (len : Int)), (3, vJ (a : Int)), (5, vI (s : Int)), (6, vI (i : Int))] [] [ob 5 [vI (cnt : Int), .ref 1, .ref 2, .ref 3, .ref 4, .ref 11, .ref 12, vI (arcs : Int), vI (ln : Int), .ref 5, .ref 6, .ref 7, .ref 8, .ref 9, .ref 10], cK 300 wy, cN 300 fa, cK 300 fw, cN 301 as_, cK 2107 me, cI 401 fb, cI 300 nb, cK 4 wu, cI 200 fk, cI 512 nw, cN nA aw, cN nA at_, cI mo nums] 0 0) ∧ (¬ kI (len : Int) ≤ kI (i : Int) → WM mX5_numberOf 0 0 Post 14 14 [(0, .ref 0), (1, .ref 13), (2, vI (len : Int)), (3, vJ (a : Int)), (5, vI (s : Int)), (6, vI (i : Int))] [] [ob 5 [vI (cnt : Int), .ref 1, .ref 2, .ref 3, .ref 4, .ref 11, .ref 12, vI (arcs : Int), vI (ln : Int), .ref 5, .ref 6, .ref 7, .ref 8, .ref 9, .ref 10], cK 300 wy, cN 300 fa, cK 300 fw, cN 301 as_, cK 2107 me, cI 401 fb, cI 300 nb, cK 4 wu, cI 200 fk, cI 512 nw, cN nA aw, cN nA at_, cI mo nums] 0 0)
      refine ⟨fun c11 => ?_, fun c11 => ?_⟩
      · 
        rw [kI_le (by omega)] at c11
        refine sq_ok rfl [(.aload_n 0, 0, 0, 0), (.iload 5, 0, 0, 0)] 82 _ _ _ _ _ (by decide +kernel) ?_
        show WM mX5_numberOf 0 0 Post 14 85 [(0, .ref 0), (1, .ref 13), (2, vI (len : Int)), (3, vJ (a : Int)), (5, vI (s : Int)), (6, vI (i : Int))] [vI (s : Int), .ref 0] [ob 5 [vI (cnt : Int), .ref 1, .ref 2, .ref 3, .ref 4, .ref 11, .ref 12, vI (arcs : Int), vI (ln : Int), .ref 5, .ref 6, .ref 7, .ref 8, .ref 9, .ref 10], cK 300 wy, cN 300 fa, cK 300 fw, cN 301 as_, cK 2107 me, cI 401 fb, cI 300 nb, cK 4 wu, cI 200 fk, cI 512 nw, cN nA aw, cN nA at_, cI mo nums] 0 0
        refine wm_callV (y := mX5_numberOf) mX5_endsAt [0, 1, 2, 3, 4, 5, 6, 7, 8, 9, 10, 11, 12] (pc := 85) (rest := []) (mc' := 0) (ms' := 0) (by decide +kernel) kX5_162 (c_X5_endsAt cnt wy fa fw as_ aw at_ nA arcs ln me fb nb wu fk nw hme s (by omega) hln) rfl rfl ⟨_, rfl, rfl⟩ ⟨Nat.le_of_ble_eq_true rfl, Nat.le_of_ble_eq_true rfl⟩ ⟨Nat.le_of_ble_eq_true rfl, Nat.le_of_ble_eq_true rfl⟩ (Nat.le_of_ble_eq_true rfl) rfl rfl (Nat.le_of_ble_eq_true rfl) rfl ?_
        rintro _ _ ⟨rfl, rfl⟩
        show WM mX5_numberOf 0 0 Post 14 88 [(0, .ref 0), (1, .ref 13), (2, vI (len : Int)), (3, vJ (a : Int)), (5, vI (s : Int)), (6, vI (i : Int))] [vZ (sB me s ln)] [ob 5 [vI (cnt : Int), .ref 1, .ref 2, .ref 3, .ref 4, .ref 11, .ref 12, vI (arcs : Int), vI (ln : Int), .ref 5, .ref 6, .ref 7, .ref 8, .ref 9, .ref 10], cK 300 wy, cN 300 fa, cK 300 fw, cN 301 as_, cK 2107 me, cI 401 fb, cI 300 nb, cK 4 wu, cI 200 fk, cI 512 nw, cN nA aw, cN nA at_, cI mo nums] 0 0
        refine sq_ok rfl [(.ifCond .eq 7, 0, 0, 0)] 88 _ _ _ _ _ (by decide +kernel) ?_
        show ((bI (sB me s ln)) = kI 0 → WM mX5_numberOf 0 0 Post 14 95 [(0, .ref 0), (1, .ref 13), (2, vI (len : Int)), (3, vJ (a : Int)), (5, vI (s : Int)), (6, vI (i : Int))] [] [ob 5 [vI (cnt : Int), .ref 1, .ref 2, .ref 3, .ref 4, .ref 11, .ref 12, vI (arcs : Int), vI (ln : Int), .ref 5, .ref 6, .ref 7, .ref 8, .ref 9, .ref 10], cK 300 wy, cN 300 fa, cK 300 fw, cN 301 as_, cK 2107 me, cI 401 fb, cI 300 nb, cK 4 wu, cI 200 fk, cI 512 nw, cN nA aw, cN nA at_, cI mo nums] 0 0) ∧ (¬ (bI (sB me s ln)) = kI 0 → WM mX5_numberOf 0 0 Post 14 91 [(0, .ref 0), (1, .ref 13), (2, vI (len : Int)), (3, vJ (a : Int)), (5, vI (s : Int)), (6, vI (i : Int))] [] [ob 5 [vI (cnt : Int), .ref 1, .ref 2, .ref 3, .ref 4, .ref 11, .ref 12, vI (arcs : Int), vI (ln : Int), .ref 5, .ref 6, .ref 7, .ref 8, .ref 9, .ref 10], cK 300 wy, cN 300 fa, cK 300 fw, cN 301 as_, cK 2107 me, cI 401 fb, cI 300 nb, cK 4 wu, cI 200 fk, cI 512 nw, cN nA aw, cN nA at_, cI mo nums] 0 0)
        refine ⟨fun c88 => ?_, fun c88 => ?_⟩
        · 
          rw [bI_eq0] at c88
          refine sq_ok rfl [(.ldc2_w 169, 0, 0, (-2)), (.lreturn, 0, 0, 0)] 95 _ _ _ _ _ (by decide +kernel) ?_
          show ((0 ≤ 0 ∧ 0 ≤ 0) ∧ Post (some (vJ (-2))) [ob 5 [vI (cnt : Int), .ref 1, .ref 2, .ref 3, .ref 4, .ref 11, .ref 12, vI (arcs : Int), vI (ln : Int), .ref 5, .ref 6, .ref 7, .ref 8, .ref 9, .ref 10], cK 300 wy, cN 300 fa, cK 300 fw, cN 301 as_, cK 2107 me, cI 401 fb, cI 300 nb, cK 4 wu, cI 200 fk, cI 512 nw, cN nA aw, cN nA at_, cI mo nums])
          refine ⟨⟨Nat.le_refl _, Nat.le_refl _⟩, hPo _ _ ?_⟩
          rw [show i = len by omega, List.drop_of_length_le (by simp), nbR_nil] at hq
          first
          | (rw [if_pos (show waE me ln s = 1 from if_pos (by simpa using c88))] at hq; exact ⟨by rw [hq]; rfl, rfl⟩)
          | (rw [if_neg (by rw [show waE me ln s = 0 from if_neg (by simpa using c88)]; decide)] at hq; exact ⟨by rw [hq]; rfl, rfl⟩)
        · 
          rw [bI_eq0] at c88
          refine sq_ok rfl [(.lload_n 3, 0, 0, 0), (.goto 6, 0, 0, 0)] 91 _ _ _ _ _ (by decide +kernel) ?_
          show WM mX5_numberOf 0 0 Post 14 98 [(0, .ref 0), (1, .ref 13), (2, vI (len : Int)), (3, vJ (a : Int)), (5, vI (s : Int)), (6, vI (i : Int))] [vJ (a : Int)] [ob 5 [vI (cnt : Int), .ref 1, .ref 2, .ref 3, .ref 4, .ref 11, .ref 12, vI (arcs : Int), vI (ln : Int), .ref 5, .ref 6, .ref 7, .ref 8, .ref 9, .ref 10], cK 300 wy, cN 300 fa, cK 300 fw, cN 301 as_, cK 2107 me, cI 401 fb, cI 300 nb, cK 4 wu, cI 200 fk, cI 512 nw, cN nA aw, cN nA at_, cI mo nums] 0 0
          refine sq_ok rfl [(.lreturn, 0, 0, 0)] 98 _ _ _ _ _ (by decide +kernel) ?_
          show ((0 ≤ 0 ∧ 0 ≤ 0) ∧ Post (some (vJ (a : Int))) [ob 5 [vI (cnt : Int), .ref 1, .ref 2, .ref 3, .ref 4, .ref 11, .ref 12, vI (arcs : Int), vI (ln : Int), .ref 5, .ref 6, .ref 7, .ref 8, .ref 9, .ref 10], cK 300 wy, cN 300 fa, cK 300 fw, cN 301 as_, cK 2107 me, cI 401 fb, cI 300 nb, cK 4 wu, cI 200 fk, cI 512 nw, cN nA aw, cN nA at_, cI mo nums])
          refine ⟨⟨Nat.le_refl _, Nat.le_refl _⟩, hPo _ _ ?_⟩
          rw [show i = len by omega, List.drop_of_length_le (by simp), nbR_nil] at hq
          first
          | (rw [if_pos (show waE me ln s = 1 from if_pos (by simpa using c88))] at hq; exact ⟨by rw [hq]; rfl, rfl⟩)
          | (rw [if_neg (by rw [show waE me ln s = 0 from if_neg (by simpa using c88)]; decide)] at hq; exact ⟨by rw [hq]; rfl, rfl⟩)
      · 
        rw [kI_le (by omega)] at c11
        refine sq_ok rfl [(.iload 6, 0, 0, 0), (.aload_n 1, 0, 0, 0), (.arraylength, 0, 0, 0), (.if_icmp .ge 64, 0, 0, 0)] 14 _ _ _ _ _ (by decide +kernel) ?_
        show (kI (mo : Int) ≤ kI (i : Int) → WM mX5_numberOf 0 0 Post 14 82 [(0, .ref 0), (1, .ref 13), (2, vI (len : Int)), (3, vJ (a : Int)), (5, vI (s : Int)), (6, vI (i : Int))] [] [ob 5 [vI (cnt : Int), .ref 1, .ref 2, .ref 3, .ref 4, .ref 11, .ref 12, vI (arcs : Int), vI (ln : Int), .ref 5, .ref 6, .ref 7, .ref 8, .ref 9, .ref 10], cK 300 wy, cN 300 fa, cK 300 fw, cN 301 as_, cK 2107 me, cI 401 fb, cI 300 nb, cK 4 wu, cI 200 fk, cI 512 nw, cN nA aw, cN nA at_, cI mo nums] 0 0) ∧ (¬ kI (mo : Int) ≤ kI (i : Int) → WM mX5_numberOf 0 0 Post 14 21 [(0, .ref 0), (1, .ref 13), (2, vI (len : Int)), (3, vJ (a : Int)), (5, vI (s : Int)), (6, vI (i : Int))] [] [ob 5 [vI (cnt : Int), .ref 1, .ref 2, .ref 3, .ref 4, .ref 11, .ref 12, vI (arcs : Int), vI (ln : Int), .ref 5, .ref 6, .ref 7, .ref 8, .ref 9, .ref 10], cK 300 wy, cN 300 fa, cK 300 fw, cN 301 as_, cK 2107 me, cI 401 fb, cI 300 nb, cK 4 wu, cI 200 fk, cI 512 nw, cN nA aw, cN nA at_, cI mo nums] 0 0)
        refine ⟨fun c18 => ?_, fun c18 => ?_⟩
        · 
          rw [kI_le (by omega)] at c18
          refine sq_ok rfl [(.aload_n 0, 0, 0, 0), (.iload 5, 0, 0, 0)] 82 _ _ _ _ _ (by decide +kernel) ?_
          show WM mX5_numberOf 0 0 Post 14 85 [(0, .ref 0), (1, .ref 13), (2, vI (len : Int)), (3, vJ (a : Int)), (5, vI (s : Int)), (6, vI (i : Int))] [vI (s : Int), .ref 0] [ob 5 [vI (cnt : Int), .ref 1, .ref 2, .ref 3, .ref 4, .ref 11, .ref 12, vI (arcs : Int), vI (ln : Int), .ref 5, .ref 6, .ref 7, .ref 8, .ref 9, .ref 10], cK 300 wy, cN 300 fa, cK 300 fw, cN 301 as_, cK 2107 me, cI 401 fb, cI 300 nb, cK 4 wu, cI 200 fk, cI 512 nw, cN nA aw, cN nA at_, cI mo nums] 0 0
          refine wm_callV (y := mX5_numberOf) mX5_endsAt [0, 1, 2, 3, 4, 5, 6, 7, 8, 9, 10, 11, 12] (pc := 85) (rest := []) (mc' := 0) (ms' := 0) (by decide +kernel) kX5_162 (c_X5_endsAt cnt wy fa fw as_ aw at_ nA arcs ln me fb nb wu fk nw hme s (by omega) hln) rfl rfl ⟨_, rfl, rfl⟩ ⟨Nat.le_of_ble_eq_true rfl, Nat.le_of_ble_eq_true rfl⟩ ⟨Nat.le_of_ble_eq_true rfl, Nat.le_of_ble_eq_true rfl⟩ (Nat.le_of_ble_eq_true rfl) rfl rfl (Nat.le_of_ble_eq_true rfl) rfl ?_
          rintro _ _ ⟨rfl, rfl⟩
          show WM mX5_numberOf 0 0 Post 14 88 [(0, .ref 0), (1, .ref 13), (2, vI (len : Int)), (3, vJ (a : Int)), (5, vI (s : Int)), (6, vI (i : Int))] [vZ (sB me s ln)] [ob 5 [vI (cnt : Int), .ref 1, .ref 2, .ref 3, .ref 4, .ref 11, .ref 12, vI (arcs : Int), vI (ln : Int), .ref 5, .ref 6, .ref 7, .ref 8, .ref 9, .ref 10], cK 300 wy, cN 300 fa, cK 300 fw, cN 301 as_, cK 2107 me, cI 401 fb, cI 300 nb, cK 4 wu, cI 200 fk, cI 512 nw, cN nA aw, cN nA at_, cI mo nums] 0 0
          refine sq_ok rfl [(.ifCond .eq 7, 0, 0, 0)] 88 _ _ _ _ _ (by decide +kernel) ?_
          show ((bI (sB me s ln)) = kI 0 → WM mX5_numberOf 0 0 Post 14 95 [(0, .ref 0), (1, .ref 13), (2, vI (len : Int)), (3, vJ (a : Int)), (5, vI (s : Int)), (6, vI (i : Int))] [] [ob 5 [vI (cnt : Int), .ref 1, .ref 2, .ref 3, .ref 4, .ref 11, .ref 12, vI (arcs : Int), vI (ln : Int), .ref 5, .ref 6, .ref 7, .ref 8, .ref 9, .ref 10], cK 300 wy, cN 300 fa, cK 300 fw, cN 301 as_, cK 2107 me, cI 401 fb, cI 300 nb, cK 4 wu, cI 200 fk, cI 512 nw, cN nA aw, cN nA at_, cI mo nums] 0 0) ∧ (¬ (bI (sB me s ln)) = kI 0 → WM mX5_numberOf 0 0 Post 14 91 [(0, .ref 0), (1, .ref 13), (2, vI (len : Int)), (3, vJ (a : Int)), (5, vI (s : Int)), (6, vI (i : Int))] [] [ob 5 [vI (cnt : Int), .ref 1, .ref 2, .ref 3, .ref 4, .ref 11, .ref 12, vI (arcs : Int), vI (ln : Int), .ref 5, .ref 6, .ref 7, .ref 8, .ref 9, .ref 10], cK 300 wy, cN 300 fa, cK 300 fw, cN 301 as_, cK 2107 me, cI 401 fb, cI 300 nb, cK 4 wu, cI 200 fk, cI 512 nw, cN nA aw, cN nA at_, cI mo nums] 0 0)
          refine ⟨fun c88 => ?_, fun c88 => ?_⟩
          · 
            rw [bI_eq0] at c88
            refine sq_ok rfl [(.ldc2_w 169, 0, 0, (-2)), (.lreturn, 0, 0, 0)] 95 _ _ _ _ _ (by decide +kernel) ?_
            show ((0 ≤ 0 ∧ 0 ≤ 0) ∧ Post (some (vJ (-2))) [ob 5 [vI (cnt : Int), .ref 1, .ref 2, .ref 3, .ref 4, .ref 11, .ref 12, vI (arcs : Int), vI (ln : Int), .ref 5, .ref 6, .ref 7, .ref 8, .ref 9, .ref 10], cK 300 wy, cN 300 fa, cK 300 fw, cN 301 as_, cK 2107 me, cI 401 fb, cI 300 nb, cK 4 wu, cI 200 fk, cI 512 nw, cN nA aw, cN nA at_, cI mo nums])
            refine ⟨⟨Nat.le_refl _, Nat.le_refl _⟩, hPo _ _ ?_⟩
            rw [show i = len by omega, List.drop_of_length_le (by simp), nbR_nil] at hq
            first
            | (rw [if_pos (show waE me ln s = 1 from if_pos (by simpa using c88))] at hq; exact ⟨by rw [hq]; rfl, rfl⟩)
            | (rw [if_neg (by rw [show waE me ln s = 0 from if_neg (by simpa using c88)]; decide)] at hq; exact ⟨by rw [hq]; rfl, rfl⟩)
          · 
            rw [bI_eq0] at c88
            refine sq_ok rfl [(.lload_n 3, 0, 0, 0), (.goto 6, 0, 0, 0)] 91 _ _ _ _ _ (by decide +kernel) ?_
            show WM mX5_numberOf 0 0 Post 14 98 [(0, .ref 0), (1, .ref 13), (2, vI (len : Int)), (3, vJ (a : Int)), (5, vI (s : Int)), (6, vI (i : Int))] [vJ (a : Int)] [ob 5 [vI (cnt : Int), .ref 1, .ref 2, .ref 3, .ref 4, .ref 11, .ref 12, vI (arcs : Int), vI (ln : Int), .ref 5, .ref 6, .ref 7, .ref 8, .ref 9, .ref 10], cK 300 wy, cN 300 fa, cK 300 fw, cN 301 as_, cK 2107 me, cI 401 fb, cI 300 nb, cK 4 wu, cI 200 fk, cI 512 nw, cN nA aw, cN nA at_, cI mo nums] 0 0
            refine sq_ok rfl [(.lreturn, 0, 0, 0)] 98 _ _ _ _ _ (by decide +kernel) ?_
            show ((0 ≤ 0 ∧ 0 ≤ 0) ∧ Post (some (vJ (a : Int))) [ob 5 [vI (cnt : Int), .ref 1, .ref 2, .ref 3, .ref 4, .ref 11, .ref 12, vI (arcs : Int), vI (ln : Int), .ref 5, .ref 6, .ref 7, .ref 8, .ref 9, .ref 10], cK 300 wy, cN 300 fa, cK 300 fw, cN 301 as_, cK 2107 me, cI 401 fb, cI 300 nb, cK 4 wu, cI 200 fk, cI 512 nw, cN nA aw, cN nA at_, cI mo nums])
            refine ⟨⟨Nat.le_refl _, Nat.le_refl _⟩, hPo _ _ ?_⟩
            rw [show i = len by omega, List.drop_of_length_le (by simp), nbR_nil] at hq
            first
            | (rw [if_pos (show waE me ln s = 1 from if_pos (by simpa using c88))] at hq; exact ⟨by rw [hq]; rfl, rfl⟩)
            | (rw [if_neg (by rw [show waE me ln s = 0 from if_neg (by simpa using c88)]; decide)] at hq; exact ⟨by rw [hq]; rfl, rfl⟩)
        · 
          rw [kI_le (by omega)] at c18
          have hni := hn i (by omega)
          obtain ⟨ht1, ht2, ht3⟩ := hT s hs
          have hdr : ((List.range len).map nums).drop i = nums i :: ((List.range len).map nums).drop (i + 1) := by rw [List.drop_eq_getElem_cons (by simp; omega)]; simp
          have haR : -2147483648 ≤ oI (afO as_ aw at_ s (nums i)) ∧ oI (afO as_ aw at_ s (nums i)) ≤ 2147483647 := oI_R (n := 300) (fun k hk => by unfold afO at hk; obtain ⟨j, h5, h6⟩ := Option.map_eq_some_iff.mp hk; have h7 := (fnd_spec h5).1; have h8 := ht3 (as_ s + j) (by omega) (by omega); omega) (by omega)
          rw [hdr, nbR_cons] at hq
          refine sq_ok rfl [(.aload_n 0, 0, 0, 0), (.iload 5, 0, 0, 0), (.aload_n 1, 0, 0, 0), (.iload 6, 0, 0, 0), (.iaload, 0, 0, 0)] 21 _ _ _ _ _ (by decide +kernel) ?_
          show ∃ j27 : Nat, mj mo (kI (i : Int)) j27 ∧ WM mX5_numberOf 0 0 Post 14 28 [(0, .ref 0), (1, .ref 13), (2, vI (len : Int)), (3, vJ (a : Int)), (5, vI (s : Int)), (6, vI (i : Int))] [vI (nums j27), vI (s : Int), .ref 0] [ob 5 [vI (cnt : Int), .ref 1, .ref 2, .ref 3, .ref 4, .ref 11, .ref 12, vI (arcs : Int), vI (ln : Int), .ref 5, .ref 6, .ref 7, .ref 8, .ref 9, .ref 10], cK 300 wy, cN 300 fa, cK 300 fw, cN 301 as_, cK 2107 me, cI 401 fb, cI 300 nb, cK 4 wu, cI 200 fk, cI 512 nw, cN nA aw, cN nA at_, cI mo nums] 0 0
          refine ⟨i, ⟨by omega, by omega, rfl⟩, ?_⟩
          refine wm_callV (y := mX5_numberOf) mX5_after [0, 1, 2, 3, 4, 5, 6, 7, 8, 9, 10, 11, 12] (pc := 28) (rest := []) (mc' := 0) (ms' := 0) (by decide +kernel) kX5_165 (c_X5_after cnt wy fa fw as_ aw at_ nA arcs ln me fb nb wu fk nw s (nums i) (by omega) ⟨ht1, ht2⟩ hnA (fun k g1 g2 => by have := ht3 k g1 g2; omega) (by omega)) rfl rfl ⟨_, rfl, rfl⟩ ⟨Nat.le_of_ble_eq_true rfl, Nat.le_of_ble_eq_true rfl⟩ ⟨Nat.le_of_ble_eq_true rfl, Nat.le_of_ble_eq_true rfl⟩ (Nat.le_of_ble_eq_true rfl) rfl rfl (Nat.le_of_ble_eq_true rfl) rfl ?_
          rintro _ _ ⟨rfl, rfl⟩
          show WM mX5_numberOf 0 0 Post 14 31 [(0, .ref 0), (1, .ref 13), (2, vI (len : Int)), (3, vJ (a : Int)), (5, vI (s : Int)), (6, vI (i : Int))] [vI (oI (afO as_ aw at_ s (nums i)))] [ob 5 [vI (cnt : Int), .ref 1, .ref 2, .ref 3, .ref 4, .ref 11, .ref 12, vI (arcs : Int), vI (ln : Int), .ref 5, .ref 6, .ref 7, .ref 8, .ref 9, .ref 10], cK 300 wy, cN 300 fa, cK 300 fw, cN 301 as_, cK 2107 me, cI 401 fb, cI 300 nb, cK 4 wu, cI 200 fk, cI 512 nw, cN nA aw, cN nA at_, cI mo nums] 0 0
          refine sq_ok rfl [(.istore 7, 0, 0, 0), (.iload 7, 0, 0, 0), (.ifCond .ge 7, 0, 0, 0)] 31 _ _ _ _ _ (by decide +kernel) ?_
          show (kI 0 ≤ kI (oI (afO as_ aw at_ s (nums i))) → WM mX5_numberOf 0 0 Post 14 42 [(0, .ref 0), (1, .ref 13), (2, vI (len : Int)), (3, vJ (a : Int)), (5, vI (s : Int)), (6, vI (i : Int)), (7, vI (oI (afO as_ aw at_ s (nums i))))] [] [ob 5 [vI (cnt : Int), .ref 1, .ref 2, .ref 3, .ref 4, .ref 11, .ref 12, vI (arcs : Int), vI (ln : Int), .ref 5, .ref 6, .ref 7, .ref 8, .ref 9, .ref 10], cK 300 wy, cN 300 fa, cK 300 fw, cN 301 as_, cK 2107 me, cI 401 fb, cI 300 nb, cK 4 wu, cI 200 fk, cI 512 nw, cN nA aw, cN nA at_, cI mo nums] 0 0) ∧ (¬ kI 0 ≤ kI (oI (afO as_ aw at_ s (nums i))) → WM mX5_numberOf 0 0 Post 14 38 [(0, .ref 0), (1, .ref 13), (2, vI (len : Int)), (3, vJ (a : Int)), (5, vI (s : Int)), (6, vI (i : Int)), (7, vI (oI (afO as_ aw at_ s (nums i))))] [] [ob 5 [vI (cnt : Int), .ref 1, .ref 2, .ref 3, .ref 4, .ref 11, .ref 12, vI (arcs : Int), vI (ln : Int), .ref 5, .ref 6, .ref 7, .ref 8, .ref 9, .ref 10], cK 300 wy, cN 300 fa, cK 300 fw, cN 301 as_, cK 2107 me, cI 401 fb, cI 300 nb, cK 4 wu, cI 200 fk, cI 512 nw, cN nA aw, cN nA at_, cI mo nums] 0 0)
          refine ⟨fun c35 => ?_, fun c35 => ?_⟩
          · 
            rw [kI_le (by omega)] at c35
            obtain ⟨t, h5, h6⟩ := oI_pos c35
            rw [h6]
            rw [h5] at hq
            have htc : t < cnt := by unfold afO at h5; obtain ⟨j, h7, h8⟩ := Option.map_eq_some_iff.mp h5; have h9 := (fnd_spec h7).1; have h10 := ht3 (as_ s + j) (by omega) (by omega); omega
            refine sq_ok rfl [(.lload_n 3, 0, 0, 0), (.aload_n 0, 0, 0, 0), (.iload 5, 0, 0, 0)] 42 _ _ _ _ _ (by decide +kernel) ?_
            show WM mX5_numberOf 0 0 Post 14 46 [(0, .ref 0), (1, .ref 13), (2, vI (len : Int)), (3, vJ (a : Int)), (5, vI (s : Int)), (6, vI (i : Int)), (7, vI (t : Int))] [vI (s : Int), .ref 0, vJ (a : Int)] [ob 5 [vI (cnt : Int), .ref 1, .ref 2, .ref 3, .ref 4, .ref 11, .ref 12, vI (arcs : Int), vI (ln : Int), .ref 5, .ref 6, .ref 7, .ref 8, .ref 9, .ref 10], cK 300 wy, cN 300 fa, cK 300 fw, cN 301 as_, cK 2107 me, cI 401 fb, cI 300 nb, cK 4 wu, cI 200 fk, cI 512 nw, cN nA aw, cN nA at_, cI mo nums] 0 0
            refine wm_callV (y := mX5_numberOf) mX5_endsAt [0, 1, 2, 3, 4, 5, 6, 7, 8, 9, 10, 11, 12] (pc := 46) (rest := [vJ (a : Int)]) (mc' := 0) (ms' := 0) (by decide +kernel) kX5_162 (c_X5_endsAt cnt wy fa fw as_ aw at_ nA arcs ln me fb nb wu fk nw hme s (by omega) hln) rfl rfl ⟨_, rfl, rfl⟩ ⟨Nat.le_of_ble_eq_true rfl, Nat.le_of_ble_eq_true rfl⟩ ⟨Nat.le_of_ble_eq_true rfl, Nat.le_of_ble_eq_true rfl⟩ (Nat.le_of_ble_eq_true rfl) rfl rfl (Nat.le_of_ble_eq_true rfl) rfl ?_
            rintro _ _ ⟨rfl, rfl⟩
            show WM mX5_numberOf 0 0 Post 14 49 [(0, .ref 0), (1, .ref 13), (2, vI (len : Int)), (3, vJ (a : Int)), (5, vI (s : Int)), (6, vI (i : Int)), (7, vI (t : Int))] [vZ (sB me s ln), vJ (a : Int)] [ob 5 [vI (cnt : Int), .ref 1, .ref 2, .ref 3, .ref 4, .ref 11, .ref 12, vI (arcs : Int), vI (ln : Int), .ref 5, .ref 6, .ref 7, .ref 8, .ref 9, .ref 10], cK 300 wy, cN 300 fa, cK 300 fw, cN 301 as_, cK 2107 me, cI 401 fb, cI 300 nb, cK 4 wu, cI 200 fk, cI 512 nw, cN nA aw, cN nA at_, cI mo nums] 0 0
            refine sq_ok rfl [(.ifCond .eq 7, 0, 0, 0)] 49 _ _ _ _ _ (by decide +kernel) ?_
            show ((bI (sB me s ln)) = kI 0 → WM mX5_numberOf 0 0 Post 14 56 [(0, .ref 0), (1, .ref 13), (2, vI (len : Int)), (3, vJ (a : Int)), (5, vI (s : Int)), (6, vI (i : Int)), (7, vI (t : Int))] [vJ (a : Int)] [ob 5 [vI (cnt : Int), .ref 1, .ref 2, .ref 3, .ref 4, .ref 11, .ref 12, vI (arcs : Int), vI (ln : Int), .ref 5, .ref 6, .ref 7, .ref 8, .ref 9, .ref 10], cK 300 wy, cN 300 fa, cK 300 fw, cN 301 as_, cK 2107 me, cI 401 fb, cI 300 nb, cK 4 wu, cI 200 fk, cI 512 nw, cN nA aw, cN nA at_, cI mo nums] 0 0) ∧ (¬ (bI (sB me s ln)) = kI 0 → WM mX5_numberOf 0 0 Post 14 52 [(0, .ref 0), (1, .ref 13), (2, vI (len : Int)), (3, vJ (a : Int)), (5, vI (s : Int)), (6, vI (i : Int)), (7, vI (t : Int))] [vJ (a : Int)] [ob 5 [vI (cnt : Int), .ref 1, .ref 2, .ref 3, .ref 4, .ref 11, .ref 12, vI (arcs : Int), vI (ln : Int), .ref 5, .ref 6, .ref 7, .ref 8, .ref 9, .ref 10], cK 300 wy, cN 300 fa, cK 300 fw, cN 301 as_, cK 2107 me, cI 401 fb, cI 300 nb, cK 4 wu, cI 200 fk, cI 512 nw, cN nA aw, cN nA at_, cI mo nums] 0 0)
            refine ⟨fun c49 => ?_, fun c49 => ?_⟩
            · 
              rw [bI_eq0] at c49
              refine sq_ok rfl [(.lconst 0, 0, 0, 0), (.ladd, 0, 0, 0), (.lstore_n 3, 0, 0, 0), (.lload_n 3, 0, 0, 0), (.aload_n 0, 0, 0, 0), (.iload 5, 0, 0, 0), (.aload_n 1, 0, 0, 0), (.iload 6, 0, 0, 0), (.iaload, 0, 0, 0)] 56 _ _ _ _ _ (by decide +kernel) ?_
              show ∃ j66 : Nat, mj mo (kI (i : Int)) j66 ∧ WM mX5_numberOf 0 0 Post 14 67 [(0, .ref 0), (1, .ref 13), (2, vI (len : Int)), (3, .long ((kL (a : Int)) + (kL 0))), (5, vI (s : Int)), (6, vI (i : Int)), (7, vI (t : Int))] [vI (nums j66), vI (s : Int), .ref 0, .long ((kL (a : Int)) + (kL 0))] [ob 5 [vI (cnt : Int), .ref 1, .ref 2, .ref 3, .ref 4, .ref 11, .ref 12, vI (arcs : Int), vI (ln : Int), .ref 5, .ref 6, .ref 7, .ref 8, .ref 9, .ref 10], cK 300 wy, cN 300 fa, cK 300 fw, cN 301 as_, cK 2107 me, cI 401 fb, cI 300 nb, cK 4 wu, cI 200 fk, cI 512 nw, cN nA aw, cN nA at_, cI mo nums] 0 0
              refine ⟨i, ⟨by omega, by omega, rfl⟩, ?_⟩
              have e7 : ((kL (a : Int)) + (kL 0)) = kL (((a + 0) : Nat) : Int) := by first | (simp only [kL_add, kL_sub, kL_mul]; done) | (simp only [kL_add, kL_sub, kL_mul]; rfl)
              rw [e7]
              refine wm_callV (y := mX5_numberOf) mX5_waysBelow [0, 1, 2, 3, 4, 5, 6, 7, 8, 9, 10, 11, 12] (pc := 67) (rest := [vJ (((a + 0) : Nat) : Int)]) (mc' := 0) (ms' := 0) (by decide +kernel) kX5_171 (c_X5_waysBelow cnt wy fa fw as_ aw at_ nA arcs ln me fb nb wu fk nw s (nums i) (by omega) ⟨ht1, ht2⟩ hnA (fun k g1 g2 => by have := ht3 k g1 g2; omega) (by omega)) rfl rfl ⟨_, rfl, rfl⟩ ⟨Nat.le_of_ble_eq_true rfl, Nat.le_of_ble_eq_true rfl⟩ ⟨Nat.le_of_ble_eq_true rfl, Nat.le_of_ble_eq_true rfl⟩ (Nat.le_of_ble_eq_true rfl) rfl rfl (Nat.le_of_ble_eq_true rfl) rfl ?_
              rintro _ _ ⟨rfl, rfl⟩
              show WM mX5_numberOf 0 0 Post 14 70 [(0, .ref 0), (1, .ref 13), (2, vI (len : Int)), (3, vJ (((a + 0) : Nat) : Int)), (5, vI (s : Int)), (6, vI (i : Int)), (7, vI (t : Int))] [vJ (((bwO wy as_ aw at_ s (nums i)) : Nat) : Int), vJ (((a + 0) : Nat) : Int)] [ob 5 [vI (cnt : Int), .ref 1, .ref 2, .ref 3, .ref 4, .ref 11, .ref 12, vI (arcs : Int), vI (ln : Int), .ref 5, .ref 6, .ref 7, .ref 8, .ref 9, .ref 10], cK 300 wy, cN 300 fa, cK 300 fw, cN 301 as_, cK 2107 me, cI 401 fb, cI 300 nb, cK 4 wu, cI 200 fk, cI 512 nw, cN nA aw, cN nA at_, cI mo nums] 0 0
              refine sq_ok rfl [(.ladd, 0, 0, 0), (.lstore_n 3, 0, 0, 0), (.iload 7, 0, 0, 0), (.istore 5, 0, 0, 0), (.iinc 6 1, 0, 0, 0), (.goto (-71), 0, 0, 0)] 70 _ _ _ _ _ (by decide +kernel) ?_
              show WM mX5_numberOf 0 0 Post 14 8 [(0, .ref 0), (1, .ref 13), (2, vI (len : Int)), (3, .long ((kL (((a + 0) : Nat) : Int)) + (kL (((bwO wy as_ aw at_ s (nums i)) : Nat) : Int)))), (5, vI (t : Int)), (6, .int ((kI (i : Int)) + (kI 1))), (7, vI (t : Int))] [] [ob 5 [vI (cnt : Int), .ref 1, .ref 2, .ref 3, .ref 4, .ref 11, .ref 12, vI (arcs : Int), vI (ln : Int), .ref 5, .ref 6, .ref 7, .ref 8, .ref 9, .ref 10], cK 300 wy, cN 300 fa, cK 300 fw, cN 301 as_, cK 2107 me, cI 401 fb, cI 300 nb, cK 4 wu, cI 200 fk, cI 512 nw, cN nA aw, cN nA at_, cI mo nums] 0 0
              have e8 : ((kL (((a + 0) : Nat) : Int)) + (kL (((bwO wy as_ aw at_ s (nums i)) : Nat) : Int))) = kL ((((a + 0) + (bwO wy as_ aw at_ s (nums i))) : Nat) : Int) := by first | (simp only [kL_add, kL_sub, kL_mul]; done) | (simp only [kL_add, kL_sub, kL_mul]; rfl)
              rw [e8]
              have e9 : ((kI (i : Int)) + (kI 1)) = kI (((i + 1) : Nat) : Int) := by first | (simp only [kI_add, kI_sub, kI_mul]; done) | (simp only [kI_add, kI_sub, kI_mul]; rfl)
              rw [e9]
              exact WM.pick [0, 1, 2, 3, 4, 5] rfl (ih8 ((a + 0) + (bwO wy as_ aw at_ s (nums i))) t (i + 1) (by omega) (by omega) (by first | (rw [show waE me ln s = 1 from if_pos (by simpa using c49)] at hq; exact hq) | (rw [show waE me ln s = 0 from if_neg (by simpa using c49)] at hq; exact hq)) (by omega))
            · 
              rw [bI_eq0] at c49
              refine sq_ok rfl [(.lconst 1, 0, 0, 0), (.goto 4, 0, 0, 0)] 52 _ _ _ _ _ (by decide +kernel) ?_
              show WM mX5_numberOf 0 0 Post 14 57 [(0, .ref 0), (1, .ref 13), (2, vI (len : Int)), (3, vJ (a : Int)), (5, vI (s : Int)), (6, vI (i : Int)), (7, vI (t : Int))] [vJ 1, vJ (a : Int)] [ob 5 [vI (cnt : Int), .ref 1, .ref 2, .ref 3, .ref 4, .ref 11, .ref 12, vI (arcs : Int), vI (ln : Int), .ref 5, .ref 6, .ref 7, .ref 8, .ref 9, .ref 10], cK 300 wy, cN 300 fa, cK 300 fw, cN 301 as_, cK 2107 me, cI 401 fb, cI 300 nb, cK 4 wu, cI 200 fk, cI 512 nw, cN nA aw, cN nA at_, cI mo nums] 0 0
              refine sq_ok rfl [(.ladd, 0, 0, 0), (.lstore_n 3, 0, 0, 0), (.lload_n 3, 0, 0, 0), (.aload_n 0, 0, 0, 0), (.iload 5, 0, 0, 0), (.aload_n 1, 0, 0, 0), (.iload 6, 0, 0, 0), (.iaload, 0, 0, 0)] 57 _ _ _ _ _ (by decide +kernel) ?_
              show ∃ j66 : Nat, mj mo (kI (i : Int)) j66 ∧ WM mX5_numberOf 0 0 Post 14 67 [(0, .ref 0), (1, .ref 13), (2, vI (len : Int)), (3, .long ((kL (a : Int)) + (kL 1))), (5, vI (s : Int)), (6, vI (i : Int)), (7, vI (t : Int))] [vI (nums j66), vI (s : Int), .ref 0, .long ((kL (a : Int)) + (kL 1))] [ob 5 [vI (cnt : Int), .ref 1, .ref 2, .ref 3, .ref 4, .ref 11, .ref 12, vI (arcs : Int), vI (ln : Int), .ref 5, .ref 6, .ref 7, .ref 8, .ref 9, .ref 10], cK 300 wy, cN 300 fa, cK 300 fw, cN 301 as_, cK 2107 me, cI 401 fb, cI 300 nb, cK 4 wu, cI 200 fk, cI 512 nw, cN nA aw, cN nA at_, cI mo nums] 0 0
              refine ⟨i, ⟨by omega, by omega, rfl⟩, ?_⟩
              have e10 : ((kL (a : Int)) + (kL 1)) = kL (((a + 1) : Nat) : Int) := by first | (simp only [kL_add, kL_sub, kL_mul]; done) | (simp only [kL_add, kL_sub, kL_mul]; rfl)
              rw [e10]
              refine wm_callV (y := mX5_numberOf) mX5_waysBelow [0, 1, 2, 3, 4, 5, 6, 7, 8, 9, 10, 11, 12] (pc := 67) (rest := [vJ (((a + 1) : Nat) : Int)]) (mc' := 0) (ms' := 0) (by decide +kernel) kX5_171 (c_X5_waysBelow cnt wy fa fw as_ aw at_ nA arcs ln me fb nb wu fk nw s (nums i) (by omega) ⟨ht1, ht2⟩ hnA (fun k g1 g2 => by have := ht3 k g1 g2; omega) (by omega)) rfl rfl ⟨_, rfl, rfl⟩ ⟨Nat.le_of_ble_eq_true rfl, Nat.le_of_ble_eq_true rfl⟩ ⟨Nat.le_of_ble_eq_true rfl, Nat.le_of_ble_eq_true rfl⟩ (Nat.le_of_ble_eq_true rfl) rfl rfl (Nat.le_of_ble_eq_true rfl) rfl ?_
              rintro _ _ ⟨rfl, rfl⟩
              show WM mX5_numberOf 0 0 Post 14 70 [(0, .ref 0), (1, .ref 13), (2, vI (len : Int)), (3, vJ (((a + 1) : Nat) : Int)), (5, vI (s : Int)), (6, vI (i : Int)), (7, vI (t : Int))] [vJ (((bwO wy as_ aw at_ s (nums i)) : Nat) : Int), vJ (((a + 1) : Nat) : Int)] [ob 5 [vI (cnt : Int), .ref 1, .ref 2, .ref 3, .ref 4, .ref 11, .ref 12, vI (arcs : Int), vI (ln : Int), .ref 5, .ref 6, .ref 7, .ref 8, .ref 9, .ref 10], cK 300 wy, cN 300 fa, cK 300 fw, cN 301 as_, cK 2107 me, cI 401 fb, cI 300 nb, cK 4 wu, cI 200 fk, cI 512 nw, cN nA aw, cN nA at_, cI mo nums] 0 0
              refine sq_ok rfl [(.ladd, 0, 0, 0), (.lstore_n 3, 0, 0, 0), (.iload 7, 0, 0, 0), (.istore 5, 0, 0, 0), (.iinc 6 1, 0, 0, 0), (.goto (-71), 0, 0, 0)] 70 _ _ _ _ _ (by decide +kernel) ?_
              show WM mX5_numberOf 0 0 Post 14 8 [(0, .ref 0), (1, .ref 13), (2, vI (len : Int)), (3, .long ((kL (((a + 1) : Nat) : Int)) + (kL (((bwO wy as_ aw at_ s (nums i)) : Nat) : Int)))), (5, vI (t : Int)), (6, .int ((kI (i : Int)) + (kI 1))), (7, vI (t : Int))] [] [ob 5 [vI (cnt : Int), .ref 1, .ref 2, .ref 3, .ref 4, .ref 11, .ref 12, vI (arcs : Int), vI (ln : Int), .ref 5, .ref 6, .ref 7, .ref 8, .ref 9, .ref 10], cK 300 wy, cN 300 fa, cK 300 fw, cN 301 as_, cK 2107 me, cI 401 fb, cI 300 nb, cK 4 wu, cI 200 fk, cI 512 nw, cN nA aw, cN nA at_, cI mo nums] 0 0
              have e11 : ((kL (((a + 1) : Nat) : Int)) + (kL (((bwO wy as_ aw at_ s (nums i)) : Nat) : Int))) = kL ((((a + 1) + (bwO wy as_ aw at_ s (nums i))) : Nat) : Int) := by first | (simp only [kL_add, kL_sub, kL_mul]; done) | (simp only [kL_add, kL_sub, kL_mul]; rfl)
              rw [e11]
              have e12 : ((kI (i : Int)) + (kI 1)) = kI (((i + 1) : Nat) : Int) := by first | (simp only [kI_add, kI_sub, kI_mul]; done) | (simp only [kI_add, kI_sub, kI_mul]; rfl)
              rw [e12]
              exact WM.pick [0, 1, 2, 3, 4, 5] rfl (ih8 ((a + 1) + (bwO wy as_ aw at_ s (nums i))) t (i + 1) (by omega) (by omega) (by first | (rw [show waE me ln s = 1 from if_pos (by simpa using c49)] at hq; exact hq) | (rw [show waE me ln s = 0 from if_neg (by simpa using c49)] at hq; exact hq)) (by omega))
          · 
            rw [kI_le (by omega)] at c35
            refine sq_ok rfl [(.ldc2_w 169, 0, 0, (-2)), (.lreturn, 0, 0, 0)] 38 _ _ _ _ _ (by decide +kernel) ?_
            show ((0 ≤ 0 ∧ 0 ≤ 0) ∧ Post (some (vJ (-2))) [ob 5 [vI (cnt : Int), .ref 1, .ref 2, .ref 3, .ref 4, .ref 11, .ref 12, vI (arcs : Int), vI (ln : Int), .ref 5, .ref 6, .ref 7, .ref 8, .ref 9, .ref 10], cK 300 wy, cN 300 fa, cK 300 fw, cN 301 as_, cK 2107 me, cI 401 fb, cI 300 nb, cK 4 wu, cI 200 fk, cI 512 nw, cN nA aw, cN nA at_, cI mo nums])
            refine ⟨⟨Nat.le_refl _, Nat.le_refl _⟩, hPo _ _ ?_⟩
            rw [oI_neg c35] at hq
            exact ⟨by rw [hq]; rfl, rfl⟩
  exact WM.pick [0, 1, 2, 3, 4, 5] rfl (lp8 _ 0 0 0 (by omega) (by omega) rfl (Nat.lt_succ_self _))
