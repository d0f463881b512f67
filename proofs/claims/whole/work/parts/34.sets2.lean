/-! Sets: a set as one number -/
def md (f : Nat → Nat) : Nat → Nat
  | 0 => 0
  | n + 1 => md f n + 2 ^ (64 * n) * f n
theorem md_lt {f : Nat → Nat} (hf : ∀ j, f j < 18446744073709551616) : ∀ n, md f n < 2 ^ (64 * n)
  | 0 => by simp [md]
  | n + 1 => by
    have h1 := md_lt hf n
    have h2 := hf n
    show md f n + 2 ^ (64 * n) * f n < 2 ^ (64 * (n + 1))
    rw [show 64 * (n + 1) = 64 * n + 64 by omega, Nat.pow_add]
    have h3 : 2 ^ (64 * n) * (f n + 1) ≤ 2 ^ (64 * n) * 2 ^ 64 := Nat.mul_le_mul_left _ h2
    rw [Nat.mul_add] at h3
    omega
theorem md_bit {f : Nat → Nat} (hf : ∀ j, f j < 18446744073709551616) (v : Nat) : ∀ n, (md f n).testBit v = (decide (v < 64 * n) && (f (v / 64)).testBit (v % 64))
  | 0 => by simp [md]
  | n + 1 => by
    show (md f n + 2 ^ (64 * n) * f n).testBit v = _
    rw [Nat.add_comm, Nat.testBit_two_pow_mul_add _ (md_lt hf n)]
    by_cases h1 : v < 64 * n
    · rw [if_pos h1, md_bit hf v n, decide_eq_true h1, decide_eq_true (show v < 64 * (n + 1) by omega)]
    · rw [if_neg h1]
      by_cases h2 : v < 64 * (n + 1)
      · rw [decide_eq_true h2, Bool.true_and, show v / 64 = n by omega, show v % 64 = v - 64 * n by omega]
      · rw [decide_eq_false h2, Bool.false_and]
        exact Nat.testBit_lt_two_pow (Nat.lt_of_lt_of_le (hf n) (show 2 ^ 64 ≤ 2 ^ (v - 64 * n) from Nat.pow_le_pow_right (n := 2) (by omega) (by omega)))
theorem md_ext {f g : Nat → Nat} : ∀ {n : Nat}, (∀ j, j < n → f j = g j) → md f n = md g n
  | 0, _ => rfl
  | n + 1, h => by
    show md f n + 2 ^ (64 * n) * f n = md g n + 2 ^ (64 * n) * g n
    rw [md_ext (n := n) (fun j hj => h j (by omega)), h n (by omega)]
theorem md_inj {f g : Nat → Nat} (hf : ∀ j, f j < 18446744073709551616) (hg : ∀ j, g j < 18446744073709551616) : ∀ {n : Nat}, md f n = md g n → ∀ j, j < n → f j = g j
  | 0, _, j, hj => absurd hj (Nat.not_lt_zero _)
  | n + 1, h, j, hj => by
    have e1 : md f n + 2 ^ (64 * n) * f n = md g n + 2 ^ (64 * n) * g n := h
    have h1 := md_lt hf n
    have h2 := md_lt hg n
    have hp := Nat.two_pow_pos (64 * n)
    have e2 : f n = g n := by
      have a1 : (md f n + 2 ^ (64 * n) * f n) / 2 ^ (64 * n) = f n := by rw [Nat.add_mul_div_left _ _ hp, Nat.div_eq_of_lt h1, Nat.zero_add]
      have a2 : (md g n + 2 ^ (64 * n) * g n) / 2 ^ (64 * n) = g n := by rw [Nat.add_mul_div_left _ _ hp, Nat.div_eq_of_lt h2, Nat.zero_add]
      rw [← a1, ← a2, e1]
    have e3 : md f n = md g n := by rw [e2] at e1; omega
    rcases Nat.lt_or_ge j n with h3 | h3
    · exact md_inj hf hg e3 j h3
    · rw [show j = n by omega]; exact e2
/-- set s -/
def mS (me : Nat → Nat) (s : Nat) : Nat := md (fun i => me (7 * s + i)) 7
theorem mS_bit {me : Nat → Nat} (hme : ∀ j, me j < 18446744073709551616) (s v : Nat) : (mS me s).testBit v = (decide (v < 448) && (me (7 * s + v / 64)).testBit (v % 64)) := md_bit (f := fun i => me (7 * s + i)) (fun j => hme _) v 7
theorem sB_mS {me : Nat → Nat} (hme : ∀ j, me j < 18446744073709551616) (s : Nat) {v : Nat} (hv : v < 448) : sB me s v = (mS me s).testBit v := by
  rw [mS_bit hme, decide_eq_true hv, Bool.true_and, Nat.testBit_eq_decide_div_mod_eq]
  rfl
theorem mS_eq {me : Nat → Nat} (hme : ∀ j, me j < 18446744073709551616) {s t : Nat} : (∀ i, i < 7 → me (7 * s + i) = me (7 * t + i)) ↔ mS me s = mS me t := by
  constructor
  · intro h
    exact md_ext h
  · intro h
    exact md_inj (f := fun i => me (7 * s + i)) (g := fun i => me (7 * t + i)) (fun j => hme _) (fun j => hme _) h
theorem sPut_lt {me : Nat → Nat} (hme : ∀ j, me j < 18446744073709551616) (s v : Nat) : ∀ j, sPut me s v j < 18446744073709551616 := by
  intro j
  unfold sPut va_up
  split
  · exact Nat.or_lt_two_pow (n := 64) (hme _) (Nat.pow_lt_pow_right (by omega) (Nat.mod_lt _ (by omega)))
  · exact hme j
theorem mS_put {me : Nat → Nat} (hme : ∀ j, me j < 18446744073709551616) (s : Nat) {v : Nat} (hv : v < 448) : mS (sPut me s v) s = mS me s ||| 2 ^ v := by
  apply Nat.eq_of_testBit_eq
  intro j
  rw [Nat.testBit_or, mS_bit (sPut_lt hme s v), mS_bit hme, Nat.testBit_two_pow]
  unfold sPut va_up
  by_cases h1 : j < 448
  · rw [decide_eq_true h1, Bool.true_and, Bool.true_and]
    by_cases h2 : 7 * s + j / 64 = 7 * s + v / 64
    · rw [if_pos h2, Nat.testBit_or, Nat.testBit_two_pow, show 7 * s + v / 64 = 7 * s + j / 64 by omega]
      congr 1
      by_cases h3 : v = j
      · subst h3; simp
      · rw [decide_eq_false h3, decide_eq_false (by omega)]
    · rw [if_neg h2, decide_eq_false (show ¬ v = j by intro e; subst e; exact h2 rfl), Bool.or_false]
  · rw [decide_eq_false h1, Bool.false_and, Bool.false_and, decide_eq_false (by omega)]
    rfl
theorem mS_put_ne (me : Nat → Nat) {s t : Nat} (h : t ≠ s) {v : Nat} (hv : v < 448) : mS (sPut me s v) t = mS me t := by
  refine md_ext fun j hj => ?_
  unfold sPut
  exact up_ne _ _ (by omega)
theorem sClr_lt {me : Nat → Nat} (hme : ∀ j, me j < 18446744073709551616) (s : Nat) : ∀ j, sClr me s j < 18446744073709551616 := by
  intro j
  unfold sClr
  split
  · omega
  · exact hme j
theorem mS_clr (me : Nat → Nat) (s : Nat) : mS (sClr me s) s = 0 := by
  have : mS (sClr me s) s = md (fun _ => 0) 7 := md_ext fun j hj => by unfold sClr; rw [if_pos (by omega)]
  rw [this]; decide
theorem mS_clr_ne (me : Nat → Nat) {s t : Nat} (h : t ≠ s) : mS (sClr me s) t = mS me t := md_ext fun j hj => by unfold sClr; rw [if_neg (by omega)]
theorem low_uniq {v a b : Nat} (ha : lowB v a) (hb : lowB v b) : a = b := by
  rcases Nat.lt_trichotomy a b with h | h | h
  · have := hb.2 a h
    rw [ha.1] at this
    cases this
  · exact h
  · have := ha.2 b h
    rw [hb.1] at this
    cases this
/-- the closing, along the matches that have an edge without a word -/
def clM (sk : Nat → Int) (bo : Nat → Nat) : Nat → Nat → Nat
  | 0, S => S
  | m + 1, S => if 0 ≤ sk m ∧ (clM sk bo m S).testBit (bo m) = true then clM sk bo m S ||| 2 ^ bo (m + 1) else clM sk bo m S

set_option maxRecDepth 100000 in
set_option maxHeartbeats 500000 in
theorem c_X5_closeMade (cnt : Nat) (wy fa fw as_ aw at_ : Nat → Nat) (nA arcs ln : Nat) (me : Nat → Nat) (fb nb : Nat → Int) (wu : Nat → Nat) (fk nw : Nat → Int) (fr to : Nat → Nat) (wo : Nat → Int) (te : Nat → Nat) (hv : Nat → Bool) (fo no : Nat → Int) (mb mw : Nat → Nat) (ml : Nat → Int) (ma : Nat → Nat) (sk : Nat → Int) (bo : Nat → Nat) (nn ne nm : Nat) (hme : ∀ j, me j < 18446744073709551616) (hnm : nm ≤ 16) (hbo : ∀ m, m ≤ nm → bo m < 401) (hsk : ∀ m, m < nm → -2147483648 ≤ sk m ∧ sk m ≤ 2147483647) (hc : cnt ≤ 300) : CT mX5_closeMade 0 0 [.ref 0, .ref 11] [ob 5 [vI (cnt : Int), .ref 1, .ref 2, .ref 3, .ref 4, .ref 25, .ref 26, vI (arcs : Int), vI (ln : Int), .ref 5, .ref 6, .ref 7, .ref 8, .ref 9, .ref 10], cK 300 wy, cN 300 fa, cK 300 fw, cN 301 as_, cK 2107 me, cI 401 fb, cI 300 nb, cK 4 wu, cI 200 fk, cI 512 nw, ob 1 [.ref 12, .ref 13, .ref 14, .ref 15, .ref 16, .ref 17, .ref 18, .ref 19, .ref 20, .ref 21, .ref 22, .ref 23, .ref 24, vI (nn : Int), vI (ne : Int), vI (nm : Int)], cN 512 fr, cN 512 to, cI 512 wo, cN 512 te, cZ 512 hv, cI 401 fo, cI 512 no, cN 16 mb, cN 16 mw, cI 16 ml, cN 16 ma, cI 16 sk, cN 17 bo, cN nA aw, cN nA at_] (fun r w => ∃ me2 : Nat → Nat, r = none ∧ w = [ob 5 [vI (cnt : Int), .ref 1, .ref 2, .ref 3, .ref 4, .ref 25, .ref 26, vI (arcs : Int), vI (ln : Int), .ref 5, .ref 6, .ref 7, .ref 8, .ref 9, .ref 10], cK 300 wy, cN 300 fa, cK 300 fw, cN 301 as_, cK 2107 me2, cI 401 fb, cI 300 nb, cK 4 wu, cI 200 fk, cI 512 nw, ob 1 [.ref 12, .ref 13, .ref 14, .ref 15, .ref 16, .ref 17, .ref 18, .ref 19, .ref 20, .ref 21, .ref 22, .ref 23, .ref 24, vI (nn : Int), vI (ne : Int), vI (nm : Int)], cN 512 fr, cN 512 to, cI 512 wo, cN 512 te, cZ 512 hv, cI 401 fo, cI 512 no, cN 16 mb, cN 16 mw, cI 16 ml, cN 16 ma, cI 16 sk, cN 17 bo, cN nA aw, cN nA at_] ∧ (∀ j, me2 j < 18446744073709551616) ∧ mS me2 cnt = clM sk bo nm (mS me cnt) ∧ ∀ t, t ≠ cnt → mS me2 t = mS me t) := by
  refine CT.intro rfl (Nat.le_of_ble_eq_true rfl) ?_
  generalize hPost : (fun r w => ∃ me2 : Nat → Nat, r = none ∧ w = [ob 5 [vI (cnt : Int), .ref 1, .ref 2, .ref 3, .ref 4, .ref 25, .ref 26, vI (arcs : Int), vI (ln : Int), .ref 5, .ref 6, .ref 7, .ref 8, .ref 9, .ref 10], cK 300 wy, cN 300 fa, cK 300 fw, cN 301 as_, cK 2107 me2, cI 401 fb, cI 300 nb, cK 4 wu, cI 200 fk, cI 512 nw, ob 1 [.ref 12, .ref 13, .ref 14, .ref 15, .ref 16, .ref 17, .ref 18, .ref 19, .ref 20, .ref 21, .ref 22, .ref 23, .ref 24, vI (nn : Int), vI (ne : Int), vI (nm : Int)], cN 512 fr, cN 512 to, cI 512 wo, cN 512 te, cZ 512 hv, cI 401 fo, cI 512 no, cN 16 mb, cN 16 mw, cI 16 ml, cN 16 ma, cI 16 sk, cN 17 bo, cN nA aw, cN nA at_] ∧ (∀ j, me2 j < 18446744073709551616) ∧ mS me2 cnt = clM sk bo nm (mS me cnt) ∧ ∀ t, t ≠ cnt → mS me2 t = mS me t : MP) = Post
  have hPo : ∀ rr ww, (fun r w => ∃ me2 : Nat → Nat, r = none ∧ w = [ob 5 [vI (cnt : Int), .ref 1, .ref 2, .ref 3, .ref 4, .ref 25, .ref 26, vI (arcs : Int), vI (ln : Int), .ref 5, .ref 6, .ref 7, .ref 8, .ref 9, .ref 10], cK 300 wy, cN 300 fa, cK 300 fw, cN 301 as_, cK 2107 me2, cI 401 fb, cI 300 nb, cK 4 wu, cI 200 fk, cI 512 nw, ob 1 [.ref 12, .ref 13, .ref 14, .ref 15, .ref 16, .ref 17, .ref 18, .ref 19, .ref 20, .ref 21, .ref 22, .ref 23, .ref 24, vI (nn : Int), vI (ne : Int), vI (nm : Int)], cN 512 fr, cN 512 to, cI 512 wo, cN 512 te, cZ 512 hv, cI 401 fo, cI 512 no, cN 16 mb, cN 16 mw, cI 16 ml, cN 16 ma, cI 16 sk, cN 17 bo, cN nA aw, cN nA at_] ∧ (∀ j, me2 j < 18446744073709551616) ∧ mS me2 cnt = clM sk bo nm (mS me cnt) ∧ ∀ t, t ≠ cnt → mS me2 t = mS me t : MP) rr ww → Post rr ww := by rw [← hPost]; exact fun _ _ h => h
  clear hPost
  show WM mX5_closeMade 0 0 Post 27 0 [(0, .ref 0), (1, .ref 11)] [] [ob 5 [vI (cnt : Int), .ref 1, .ref 2, .ref 3, .ref 4, .ref 25, .ref 26, vI (arcs : Int), vI (ln : Int), .ref 5, .ref 6, .ref 7, .ref 8, .ref 9, .ref 10], cK 300 wy, cN 300 fa, cK 300 fw, cN 301 as_, cK 2107 me, cI 401 fb, cI 300 nb, cK 4 wu, cI 200 fk, cI 512 nw, ob 1 [.ref 12, .ref 13, .ref 14, .ref 15, .ref 16, .ref 17, .ref 18, .ref 19, .ref 20, .ref 21, .ref 22, .ref 23, .ref 24, vI (nn : Int), vI (ne : Int), vI (nm : Int)], cN 512 fr, cN 512 to, cI 512 wo, cN 512 te, cZ 512 hv, cI 401 fo, cI 512 no, cN 16 mb, cN 16 mw, cI 16 ml, cN 16 ma, cI 16 sk, cN 17 bo, cN nA aw, cN nA at_] 0 0
  refine sq_ok rfl [(.iconst 0, 0, 0, 0), (.istore_n 2, 0, 0, 0)] 0 _ _ _ _ _ (by decide +kernel) ?_
  show WM mX5_closeMade 0 0 Post 27 2 [(0, .ref 0), (1, .ref 11), (2, vI 0)] [] [ob 5 [vI (cnt : Int), .ref 1, .ref 2, .ref 3, .ref 4, .ref 25, .ref 26, vI (arcs : Int), vI (ln : Int), .ref 5, .ref 6, .ref 7, .ref 8, .ref 9, .ref 10], cK 300 wy, cN 300 fa, cK 300 fw, cN 301 as_, cK 2107 me, cI 401 fb, cI 300 nb, cK 4 wu, cI 200 fk, cI 512 nw, ob 1 [.ref 12, .ref 13, .ref 14, .ref 15, .ref 16, .ref 17, .ref 18, .ref 19, .ref 20, .ref 21, .ref 22, .ref 23, .ref 24, vI (nn : Int), vI (ne : Int), vI (nm : Int)], cN 512 fr, cN 512 to, cI 512 wo, cN 512 te, cZ 512 hv, cI 401 fo, cI 512 no, cN 16 mb, cN 16 mw, cI 16 ml, cN 16 ma, cI 16 sk, cN 17 bo, cN nA aw, cN nA at_] 0 0
  have lp2 : ∀ (n2 : Nat) (m : Nat) (me1 : Nat → Nat), (m ≤ nm) → (∀ j, me1 j < 18446744073709551616) → (mS me1 cnt = clM sk bo m (mS me cnt)) → (∀ t, t ≠ cnt → mS me1 t = mS me t) → (nm - m) < n2 → WM mX5_closeMade 0 0 Post 27 2 [(0, .ref 0), (1, .ref 11), (2, vI (m : Int))] [] [ob 5 [vI (cnt : Int), .ref 1, .ref 2, .ref 3, .ref 4, .ref 25, .ref 26, vI (arcs : Int), vI (ln : Int), .ref 5, .ref 6, .ref 7, .ref 8, .ref 9, .ref 10], cK 300 wy, cN 300 fa, cK 300 fw, cN 301 as_, cK 2107 me1, cI 401 fb, cI 300 nb, cK 4 wu, cI 200 fk, cI 512 nw, ob 1 [.ref 12, .ref 13, .ref 14, .ref 15, .ref 16, .ref 17, .ref 18, .ref 19, .ref 20, .ref 21, .ref 22, .ref 23, .ref 24, vI (nn : Int), vI (ne : Int), vI (nm : Int)], cN 512 fr, cN 512 to, cI 512 wo, cN 512 te, cZ 512 hv, cI 401 fo, cI 512 no, cN 16 mb, cN 16 mw, cI 16 ml, cN 16 ma, cI 16 sk, cN 17 bo, cN nA aw, cN nA at_] 0 0 := by
    intro n2
    induction n2 with
    | zero => intro m me1 hm h1 h2 h3 hm; exact absurd hm (Nat.not_lt_zero _)
    | succ n2 ih2 =>
      intro m me1 hm h1 h2 h3 hm2
      refine sq_ok rfl [(.iload_n 2, 0, 0, 0), (.aload_n 1, 0, 0, 0), (.getfield 139, 1, 15, 0), (.if_icmp .ge 47, 0, 0, 0)] 2 _ _ _ _ _ (by decide +kernel) ?_
      show (kI (nm : Int) ≤ kI (m : Int) → WM mX5_closeMade 0 0 Post 27 54 [(0, .ref 0), (1, .ref 11), (2, vI (m : Int))] [] [ob 5 [vI (cnt : Int), .ref 1, .ref 2, .ref 3, .ref 4, .ref 25, .ref 26, vI (arcs : Int), vI (ln : Int), .ref 5, .ref 6, .ref 7, .ref 8, .ref 9, .ref 10], cK 300 wy, cN 300 fa, cK 300 fw, cN 301 as_, cK 2107 me1, cI 401 fb, cI 300 nb, cK 4 wu, cI 200 fk, cI 512 nw, ob 1 [.ref 12, .ref 13, .ref 14, .ref 15, .ref 16, .ref 17, .ref 18, .ref 19, .ref 20, .ref 21, .ref 22, .ref 23, .ref 24, vI (nn : Int), vI (ne : Int), vI (nm : Int)], cN 512 fr, cN 512 to, cI 512 wo, cN 512 te, cZ 512 hv, cI 401 fo, cI 512 no, cN 16 mb, cN 16 mw, cI 16 ml, cN 16 ma, cI 16 sk, cN 17 bo, cN nA aw, cN nA at_] 0 0) ∧ (¬ kI (nm : Int) ≤ kI (m : Int) → WM mX5_closeMade 0 0 Post 27 10 [(0, .ref 0), (1, .ref 11), (2, vI (m : Int))] [] [ob 5 [vI (cnt : Int), .ref 1, .ref 2, .ref 3, .ref 4, .ref 25, .ref 26, vI (arcs : Int), vI (ln : Int), .ref 5, .ref 6, .ref 7, .ref 8, .ref 9, .ref 10], cK 300 wy, cN 300 fa, cK 300 fw, cN 301 as_, cK 2107 me1, cI 401 fb, cI 300 nb, cK 4 wu, cI 200 fk, cI 512 nw, ob 1 [.ref 12, .ref 13, .ref 14, .ref 15, .ref 16, .ref 17, .ref 18, .ref 19, .ref 20, .ref 21, .ref 22, .ref 23, .ref 24, vI (nn : Int), vI (ne : Int), vI (nm : Int)], cN 512 fr, cN 512 to, cI 512 wo, cN 512 te, cZ 512 hv, cI 401 fo, cI 512 no, cN 16 mb, cN 16 mw, cI 16 ml, cN 16 ma, cI 16 sk, cN 17 bo, cN nA aw, cN nA at_] 0 0)
      refine ⟨fun c7 => ?_, fun c7 => ?_⟩
      · 
        rw [kI_le (by omega)] at c7
        refine sq_ok rfl [(.return_, 0, 0, 0)] 54 _ _ _ _ _ (by decide +kernel) ?_
        show ((0 ≤ 0 ∧ 0 ≤ 0) ∧ Post none [ob 5 [vI (cnt : Int), .ref 1, .ref 2, .ref 3, .ref 4, .ref 25, .ref 26, vI (arcs : Int), vI (ln : Int), .ref 5, .ref 6, .ref 7, .ref 8, .ref 9, .ref 10], cK 300 wy, cN 300 fa, cK 300 fw, cN 301 as_, cK 2107 me1, cI 401 fb, cI 300 nb, cK 4 wu, cI 200 fk, cI 512 nw, ob 1 [.ref 12, .ref 13, .ref 14, .ref 15, .ref 16, .ref 17, .ref 18, .ref 19, .ref 20, .ref 21, .ref 22, .ref 23, .ref 24, vI (nn : Int), vI (ne : Int), vI (nm : Int)], cN 512 fr, cN 512 to, cI 512 wo, cN 512 te, cZ 512 hv, cI 401 fo, cI 512 no, cN 16 mb, cN 16 mw, cI 16 ml, cN 16 ma, cI 16 sk, cN 17 bo, cN nA aw, cN nA at_])
        refine ⟨⟨Nat.le_refl _, Nat.le_refl _⟩, hPo _ _ ?_⟩
        have e : m = nm := by omega
        rw [e] at h2
        exact ⟨me1, rfl, rfl, h1, h2, h3⟩
      · 
        rw [kI_le (by omega)] at c7
        have hb0 := hbo m (by omega)
        have hb1 := hbo (m + 1) (by omega)
        have hkm := hsk m (by omega)
        refine sq_ok rfl [(.aload_n 1, 0, 0, 0), (.getfield 142, 1, 11, 0), (.iload_n 2, 0, 0, 0), (.iaload, 0, 0, 0), (.ifCond .lt 32, 0, 0, 0)] 10 _ _ _ _ _ (by decide +kernel) ?_
        show ∃ j15 : Nat, mj 16 (kI (m : Int)) j15 ∧ (kI (sk j15) < kI 0 → WM mX5_closeMade 0 0 Post 27 48 [(0, .ref 0), (1, .ref 11), (2, vI (m : Int))] [] [ob 5 [vI (cnt : Int), .ref 1, .ref 2, .ref 3, .ref 4, .ref 25, .ref 26, vI (arcs : Int), vI (ln : Int), .ref 5, .ref 6, .ref 7, .ref 8, .ref 9, .ref 10], cK 300 wy, cN 300 fa, cK 300 fw, cN 301 as_, cK 2107 me1, cI 401 fb, cI 300 nb, cK 4 wu, cI 200 fk, cI 512 nw, ob 1 [.ref 12, .ref 13, .ref 14, .ref 15, .ref 16, .ref 17, .ref 18, .ref 19, .ref 20, .ref 21, .ref 22, .ref 23, .ref 24, vI (nn : Int), vI (ne : Int), vI (nm : Int)], cN 512 fr, cN 512 to, cI 512 wo, cN 512 te, cZ 512 hv, cI 401 fo, cI 512 no, cN 16 mb, cN 16 mw, cI 16 ml, cN 16 ma, cI 16 sk, cN 17 bo, cN nA aw, cN nA at_] 0 0) ∧ (¬ kI (sk j15) < kI 0 → WM mX5_closeMade 0 0 Post 27 19 [(0, .ref 0), (1, .ref 11), (2, vI (m : Int))] [] [ob 5 [vI (cnt : Int), .ref 1, .ref 2, .ref 3, .ref 4, .ref 25, .ref 26, vI (arcs : Int), vI (ln : Int), .ref 5, .ref 6, .ref 7, .ref 8, .ref 9, .ref 10], cK 300 wy, cN 300 fa, cK 300 fw, cN 301 as_, cK 2107 me1, cI 401 fb, cI 300 nb, cK 4 wu, cI 200 fk, cI 512 nw, ob 1 [.ref 12, .ref 13, .ref 14, .ref 15, .ref 16, .ref 17, .ref 18, .ref 19, .ref 20, .ref 21, .ref 22, .ref 23, .ref 24, vI (nn : Int), vI (ne : Int), vI (nm : Int)], cN 512 fr, cN 512 to, cI 512 wo, cN 512 te, cZ 512 hv, cI 401 fo, cI 512 no, cN 16 mb, cN 16 mw, cI 16 ml, cN 16 ma, cI 16 sk, cN 17 bo, cN nA aw, cN nA at_] 0 0)
        refine ⟨m, ⟨by omega, by omega, rfl⟩, ?_⟩
        refine ⟨fun c16 => ?_, fun c16 => ?_⟩
        · 
          rw [kI_lt (by omega)] at c16
          refine sq_ok rfl [(.iinc 2 1, 0, 0, 0), (.goto (-49), 0, 0, 0)] 48 _ _ _ _ _ (by decide +kernel) ?_
          show WM mX5_closeMade 0 0 Post 27 2 [(0, .ref 0), (1, .ref 11), (2, .int ((kI (m : Int)) + (kI 1)))] [] [ob 5 [vI (cnt : Int), .ref 1, .ref 2, .ref 3, .ref 4, .ref 25, .ref 26, vI (arcs : Int), vI (ln : Int), .ref 5, .ref 6, .ref 7, .ref 8, .ref 9, .ref 10], cK 300 wy, cN 300 fa, cK 300 fw, cN 301 as_, cK 2107 me1, cI 401 fb, cI 300 nb, cK 4 wu, cI 200 fk, cI 512 nw, ob 1 [.ref 12, .ref 13, .ref 14, .ref 15, .ref 16, .ref 17, .ref 18, .ref 19, .ref 20, .ref 21, .ref 22, .ref 23, .ref 24, vI (nn : Int), vI (ne : Int), vI (nm : Int)], cN 512 fr, cN 512 to, cI 512 wo, cN 512 te, cZ 512 hv, cI 401 fo, cI 512 no, cN 16 mb, cN 16 mw, cI 16 ml, cN 16 ma, cI 16 sk, cN 17 bo, cN nA aw, cN nA at_] 0 0
          have e3 : ((kI (m : Int)) + (kI 1)) = kI (((m + 1) : Nat) : Int) := by first | (simp only [kI_add, kI_sub, kI_mul]; done) | (simp only [kI_add, kI_sub, kI_mul]; rfl)
          rw [e3]
          exact WM.pick [0, 1, 2] rfl (ih2 (m + 1) me1 (by omega) (by first | exact h1 | exact sPut_lt h1 _ _) (by first | (show mS me1 cnt = clM sk bo (m + 1) (mS me cnt); rw [h2]; simp only [clM]; rw [if_neg (by omega)]) | (show mS (sPut me1 cnt (bo (m + 1))) cnt = clM sk bo (m + 1) (mS me cnt); rw [mS_put h1 cnt (by omega), h2]; simp only [clM]; rw [if_pos ⟨by omega, by rw [← h2, ← sB_mS h1 cnt (by omega)]; simpa using c33⟩]) | (show mS me1 cnt = clM sk bo (m + 1) (mS me cnt); rw [h2]; simp only [clM]; rw [if_neg (fun q => by have q2 := q.2; rw [← h2, ← sB_mS h1 cnt (by omega)] at q2; rw [q2] at c33; cases c33)])) (by first | exact h3 | exact fun t ht => (mS_put_ne me1 ht (by omega)).trans (h3 t ht)) (by omega))
        · 
          rw [kI_lt (by omega)] at c16
          refine sq_ok rfl [(.aload_n 0, 0, 0, 0), (.aload_n 0, 0, 0, 0), (.getfield 49, 5, 0, 0), (.aload_n 1, 0, 0, 0), (.getfield 145, 1, 12, 0), (.iload_n 2, 0, 0, 0), (.iaload, 0, 0, 0)] 19 _ _ _ _ _ (by decide +kernel) ?_
          show ∃ j29 : Nat, mj 17 (kI (m : Int)) j29 ∧ WM mX5_closeMade 0 0 Post 27 30 [(0, .ref 0), (1, .ref 11), (2, vI (m : Int))] [vI ((bo j29 : Nat) : Int), vI (cnt : Int), .ref 0] [ob 5 [vI (cnt : Int), .ref 1, .ref 2, .ref 3, .ref 4, .ref 25, .ref 26, vI (arcs : Int), vI (ln : Int), .ref 5, .ref 6, .ref 7, .ref 8, .ref 9, .ref 10], cK 300 wy, cN 300 fa, cK 300 fw, cN 301 as_, cK 2107 me1, cI 401 fb, cI 300 nb, cK 4 wu, cI 200 fk, cI 512 nw, ob 1 [.ref 12, .ref 13, .ref 14, .ref 15, .ref 16, .ref 17, .ref 18, .ref 19, .ref 20, .ref 21, .ref 22, .ref 23, .ref 24, vI (nn : Int), vI (ne : Int), vI (nm : Int)], cN 512 fr, cN 512 to, cI 512 wo, cN 512 te, cZ 512 hv, cI 401 fo, cI 512 no, cN 16 mb, cN 16 mw, cI 16 ml, cN 16 ma, cI 16 sk, cN 17 bo, cN nA aw, cN nA at_] 0 0
          refine ⟨m, ⟨by omega, by omega, rfl⟩, ?_⟩
          refine wm_callV (y := mX5_closeMade) mX5_has [0, 1, 2, 3, 4, 5, 6, 7, 8, 9, 10, 25, 26] (pc := 30) (rest := []) (mc' := 0) (ms' := 0) (by decide +kernel) kX5_148 (c_X5_has cnt wy fa fw as_ aw at_ nA arcs ln me1 fb nb wu fk nw h1 cnt (bo m) hc hb0) rfl rfl ⟨_, rfl, rfl⟩ ⟨Nat.le_of_ble_eq_true rfl, Nat.le_of_ble_eq_true rfl⟩ ⟨Nat.le_of_ble_eq_true rfl, Nat.le_of_ble_eq_true rfl⟩ (Nat.le_of_ble_eq_true rfl) rfl rfl (Nat.le_of_ble_eq_true rfl) rfl ?_
          rintro _ _ ⟨rfl, rfl⟩
          show WM mX5_closeMade 0 0 Post 27 33 [(0, .ref 0), (1, .ref 11), (2, vI (m : Int))] [vZ (sB me1 cnt (bo m))] [ob 5 [vI (cnt : Int), .ref 1, .ref 2, .ref 3, .ref 4, .ref 25, .ref 26, vI (arcs : Int), vI (ln : Int), .ref 5, .ref 6, .ref 7, .ref 8, .ref 9, .ref 10], cK 300 wy, cN 300 fa, cK 300 fw, cN 301 as_, cK 2107 me1, cI 401 fb, cI 300 nb, cK 4 wu, cI 200 fk, cI 512 nw, ob 1 [.ref 12, .ref 13, .ref 14, .ref 15, .ref 16, .ref 17, .ref 18, .ref 19, .ref 20, .ref 21, .ref 22, .ref 23, .ref 24, vI (nn : Int), vI (ne : Int), vI (nm : Int)], cN 512 fr, cN 512 to, cI 512 wo, cN 512 te, cZ 512 hv, cI 401 fo, cI 512 no, cN 16 mb, cN 16 mw, cI 16 ml, cN 16 ma, cI 16 sk, cN 17 bo, cN nA aw, cN nA at_] 0 0
          refine sq_ok rfl [(.ifCond .eq 15, 0, 0, 0)] 33 _ _ _ _ _ (by decide +kernel) ?_
          show ((bI (sB me1 cnt (bo m))) = kI 0 → WM mX5_closeMade 0 0 Post 27 48 [(0, .ref 0), (1, .ref 11), (2, vI (m : Int))] [] [ob 5 [vI (cnt : Int), .ref 1, .ref 2, .ref 3, .ref 4, .ref 25, .ref 26, vI (arcs : Int), vI (ln : Int), .ref 5, .ref 6, .ref 7, .ref 8, .ref 9, .ref 10], cK 300 wy, cN 300 fa, cK 300 fw, cN 301 as_, cK 2107 me1, cI 401 fb, cI 300 nb, cK 4 wu, cI 200 fk, cI 512 nw, ob 1 [.ref 12, .ref 13, .ref 14, .ref 15, .ref 16, .ref 17, .ref 18, .ref 19, .ref 20, .ref 21, .ref 22, .ref 23, .ref 24, vI (nn : Int), vI (ne : Int), vI (nm : Int)], cN 512 fr, cN 512 to, cI 512 wo, cN 512 te, cZ 512 hv, cI 401 fo, cI 512 no, cN 16 mb, cN 16 mw, cI 16 ml, cN 16 ma, cI 16 sk, cN 17 bo, cN nA aw, cN nA at_] 0 0) ∧ (¬ (bI (sB me1 cnt (bo m))) = kI 0 → WM mX5_closeMade 0 0 Post 27 36 [(0, .ref 0), (1, .ref 11), (2, vI (m : Int))] [] [ob 5 [vI (cnt : Int), .ref 1, .ref 2, .ref 3, .ref 4, .ref 25, .ref 26, vI (arcs : Int), vI (ln : Int), .ref 5, .ref 6, .ref 7, .ref 8, .ref 9, .ref 10], cK 300 wy, cN 300 fa, cK 300 fw, cN 301 as_, cK 2107 me1, cI 401 fb, cI 300 nb, cK 4 wu, cI 200 fk, cI 512 nw, ob 1 [.ref 12, .ref 13, .ref 14, .ref 15, .ref 16, .ref 17, .ref 18, .ref 19, .ref 20, .ref 21, .ref 22, .ref 23, .ref 24, vI (nn : Int), vI (ne : Int), vI (nm : Int)], cN 512 fr, cN 512 to, cI 512 wo, cN 512 te, cZ 512 hv, cI 401 fo, cI 512 no, cN 16 mb, cN 16 mw, cI 16 ml, cN 16 ma, cI 16 sk, cN 17 bo, cN nA aw, cN nA at_] 0 0)
          refine ⟨fun c33 => ?_, fun c33 => ?_⟩
          · 
            rw [bI_eq0] at c33
            refine sq_ok rfl [(.iinc 2 1, 0, 0, 0), (.goto (-49), 0, 0, 0)] 48 _ _ _ _ _ (by decide +kernel) ?_
            show WM mX5_closeMade 0 0 Post 27 2 [(0, .ref 0), (1, .ref 11), (2, .int ((kI (m : Int)) + (kI 1)))] [] [ob 5 [vI (cnt : Int), .ref 1, .ref 2, .ref 3, .ref 4, .ref 25, .ref 26, vI (arcs : Int), vI (ln : Int), .ref 5, .ref 6, .ref 7, .ref 8, .ref 9, .ref 10], cK 300 wy, cN 300 fa, cK 300 fw, cN 301 as_, cK 2107 me1, cI 401 fb, cI 300 nb, cK 4 wu, cI 200 fk, cI 512 nw, ob 1 [.ref 12, .ref 13, .ref 14, .ref 15, .ref 16, .ref 17, .ref 18, .ref 19, .ref 20, .ref 21, .ref 22, .ref 23, .ref 24, vI (nn : Int), vI (ne : Int), vI (nm : Int)], cN 512 fr, cN 512 to, cI 512 wo, cN 512 te, cZ 512 hv, cI 401 fo, cI 512 no, cN 16 mb, cN 16 mw, cI 16 ml, cN 16 ma, cI 16 sk, cN 17 bo, cN nA aw, cN nA at_] 0 0
            have e5 : ((kI (m : Int)) + (kI 1)) = kI (((m + 1) : Nat) : Int) := by first | (simp only [kI_add, kI_sub, kI_mul]; done) | (simp only [kI_add, kI_sub, kI_mul]; rfl)
            rw [e5]
            exact WM.pick [0, 1, 2] rfl (ih2 (m + 1) me1 (by omega) (by first | exact h1 | exact sPut_lt h1 _ _) (by first | (show mS me1 cnt = clM sk bo (m + 1) (mS me cnt); rw [h2]; simp only [clM]; rw [if_neg (by omega)]) | (show mS (sPut me1 cnt (bo (m + 1))) cnt = clM sk bo (m + 1) (mS me cnt); rw [mS_put h1 cnt (by omega), h2]; simp only [clM]; rw [if_pos ⟨by omega, by rw [← h2, ← sB_mS h1 cnt (by omega)]; simpa using c33⟩]) | (show mS me1 cnt = clM sk bo (m + 1) (mS me cnt); rw [h2]; simp only [clM]; rw [if_neg (fun q => by have q2 := q.2; rw [← h2, ← sB_mS h1 cnt (by omega)] at q2; rw [q2] at c33; cases c33)])) (by first | exact h3 | exact fun t ht => (mS_put_ne me1 ht (by omega)).trans (h3 t ht)) (by omega))
          · 
            rw [bI_eq0] at c33
            refine sq_ok rfl [(.aload_n 0, 0, 0, 0), (.aload_n 1, 0, 0, 0), (.getfield 145, 1, 12, 0), (.iload_n 2, 0, 0, 0), (.iconst 1, 0, 0, 0), (.iadd, 0, 0, 0)] 36 _ _ _ _ _ (by decide +kernel) ?_
            show WM mX5_closeMade 0 0 Post 27 44 [(0, .ref 0), (1, .ref 11), (2, vI (m : Int))] [.int ((kI (m : Int)) + (kI 1)), .ref 24, .ref 0] [ob 5 [vI (cnt : Int), .ref 1, .ref 2, .ref 3, .ref 4, .ref 25, .ref 26, vI (arcs : Int), vI (ln : Int), .ref 5, .ref 6, .ref 7, .ref 8, .ref 9, .ref 10], cK 300 wy, cN 300 fa, cK 300 fw, cN 301 as_, cK 2107 me1, cI 401 fb, cI 300 nb, cK 4 wu, cI 200 fk, cI 512 nw, ob 1 [.ref 12, .ref 13, .ref 14, .ref 15, .ref 16, .ref 17, .ref 18, .ref 19, .ref 20, .ref 21, .ref 22, .ref 23, .ref 24, vI (nn : Int), vI (ne : Int), vI (nm : Int)], cN 512 fr, cN 512 to, cI 512 wo, cN 512 te, cZ 512 hv, cI 401 fo, cI 512 no, cN 16 mb, cN 16 mw, cI 16 ml, cN 16 ma, cI 16 sk, cN 17 bo, cN nA aw, cN nA at_] 0 0
            have e6 : ((kI (m : Int)) + (kI 1)) = kI (((m + 1) : Nat) : Int) := by rw [kI_add]; rfl
            rw [e6]
            refine sq_ok rfl [(.iaload, 0, 0, 0)] 44 _ _ _ _ _ (by decide +kernel) ?_
            show ∃ j44 : Nat, mj 17 (kI (((m + 1) : Nat) : Int)) j44 ∧ WM mX5_closeMade 0 0 Post 27 45 [(0, .ref 0), (1, .ref 11), (2, vI (m : Int))] [vI ((bo j44 : Nat) : Int), .ref 0] [ob 5 [vI (cnt : Int), .ref 1, .ref 2, .ref 3, .ref 4, .ref 25, .ref 26, vI (arcs : Int), vI (ln : Int), .ref 5, .ref 6, .ref 7, .ref 8, .ref 9, .ref 10], cK 300 wy, cN 300 fa, cK 300 fw, cN 301 as_, cK 2107 me1, cI 401 fb, cI 300 nb, cK 4 wu, cI 200 fk, cI 512 nw, ob 1 [.ref 12, .ref 13, .ref 14, .ref 15, .ref 16, .ref 17, .ref 18, .ref 19, .ref 20, .ref 21, .ref 22, .ref 23, .ref 24, vI (nn : Int), vI (ne : Int), vI (nm : Int)], cN 512 fr, cN 512 to, cI 512 wo, cN 512 te, cZ 512 hv, cI 401 fo, cI 512 no, cN 16 mb, cN 16 mw, cI 16 ml, cN 16 ma, cI 16 sk, cN 17 bo, cN nA aw, cN nA at_] 0 0
            refine ⟨(m + 1), ⟨by omega, by omega, rfl⟩, ?_⟩
            refine wm_callV (y := mX5_closeMade) mX5_put [0, 1, 2, 3, 4, 5, 6, 7, 8, 9, 10, 25, 26] (pc := 45) (rest := []) (mc' := 0) (ms' := 0) (by decide +kernel) kX5_73 (c_X5_put cnt wy fa fw as_ aw at_ nA arcs ln me1 fb nb wu fk nw h1 hc (bo (m + 1)) hb1) rfl rfl ⟨_, rfl, rfl⟩ ⟨Nat.le_of_ble_eq_true rfl, Nat.le_of_ble_eq_true rfl⟩ ⟨Nat.le_of_ble_eq_true rfl, Nat.le_of_ble_eq_true rfl⟩ (Nat.le_of_ble_eq_true rfl) rfl rfl (Nat.le_of_ble_eq_true rfl) rfl ?_
            rintro _ _ ⟨rfl, rfl⟩
            show WM mX5_closeMade 0 0 Post 27 48 [(0, .ref 0), (1, .ref 11), (2, vI (m : Int))] [] [ob 5 [vI (cnt : Int), .ref 1, .ref 2, .ref 3, .ref 4, .ref 25, .ref 26, vI (arcs : Int), vI (ln : Int), .ref 5, .ref 6, .ref 7, .ref 8, .ref 9, .ref 10], cK 300 wy, cN 300 fa, cK 300 fw, cN 301 as_, cK 2107 (sPut me1 cnt (bo (m + 1))), cI 401 fb, cI 300 nb, cK 4 wu, cI 200 fk, cI 512 nw, ob 1 [.ref 12, .ref 13, .ref 14, .ref 15, .ref 16, .ref 17, .ref 18, .ref 19, .ref 20, .ref 21, .ref 22, .ref 23, .ref 24, vI (nn : Int), vI (ne : Int), vI (nm : Int)], cN 512 fr, cN 512 to, cI 512 wo, cN 512 te, cZ 512 hv, cI 401 fo, cI 512 no, cN 16 mb, cN 16 mw, cI 16 ml, cN 16 ma, cI 16 sk, cN 17 bo, cN nA aw, cN nA at_] 0 0
            refine sq_ok rfl [(.iinc 2 1, 0, 0, 0), (.goto (-49), 0, 0, 0)] 48 _ _ _ _ _ (by decide +kernel) ?_
            show WM mX5_closeMade 0 0 Post 27 2 [(0, .ref 0), (1, .ref 11), (2, .int ((kI (m : Int)) + (kI 1)))] [] [ob 5 [vI (cnt : Int), .ref 1, .ref 2, .ref 3, .ref 4, .ref 25, .ref 26, vI (arcs : Int), vI (ln : Int), .ref 5, .ref 6, .ref 7, .ref 8, .ref 9, .ref 10], cK 300 wy, cN 300 fa, cK 300 fw, cN 301 as_, cK 2107 (sPut me1 cnt (bo (m + 1))), cI 401 fb, cI 300 nb, cK 4 wu, cI 200 fk, cI 512 nw, ob 1 [.ref 12, .ref 13, .ref 14, .ref 15, .ref 16, .ref 17, .ref 18, .ref 19, .ref 20, .ref 21, .ref 22, .ref 23, .ref 24, vI (nn : Int), vI (ne : Int), vI (nm : Int)], cN 512 fr, cN 512 to, cI 512 wo, cN 512 te, cZ 512 hv, cI 401 fo, cI 512 no, cN 16 mb, cN 16 mw, cI 16 ml, cN 16 ma, cI 16 sk, cN 17 bo, cN nA aw, cN nA at_] 0 0
            have e7 : ((kI (m : Int)) + (kI 1)) = kI (((m + 1) : Nat) : Int) := by first | (simp only [kI_add, kI_sub, kI_mul]; done) | (simp only [kI_add, kI_sub, kI_mul]; rfl)
            rw [e7]
            exact WM.pick [0, 1, 2] rfl (ih2 (m + 1) (sPut me1 cnt (bo (m + 1))) (by omega) (by first | exact h1 | exact sPut_lt h1 _ _) (by first | (show mS me1 cnt = clM sk bo (m + 1) (mS me cnt); rw [h2]; simp only [clM]; rw [if_neg (by omega)]) | (show mS (sPut me1 cnt (bo (m + 1))) cnt = clM sk bo (m + 1) (mS me cnt); rw [mS_put h1 cnt (by omega), h2]; simp only [clM]; rw [if_pos ⟨by omega, by rw [← h2, ← sB_mS h1 cnt (by omega)]; simpa using c33⟩]) | (show mS me1 cnt = clM sk bo (m + 1) (mS me cnt); rw [h2]; simp only [clM]; rw [if_neg (fun q => by have q2 := q.2; rw [← h2, ← sB_mS h1 cnt (by omega)] at q2; rw [q2] at c33; cases c33)])) (by first | exact h3 | exact fun t ht => (mS_put_ne me1 ht (by omega)).trans (h3 t ht)) (by omega))
  exact WM.pick [0, 1, 2] rfl (lp2 _ 0 me (by omega) hme rfl (fun _ _ => rfl) (Nat.lt_succ_self _))

set_option maxRecDepth 100000 in
set_option maxHeartbeats 500000 in
theorem c_X5_leastOfMade (cnt : Nat) (wy fa fw as_ aw at_ : Nat → Nat) (nA arcs ln : Nat) (me : Nat → Nat) (fb nb : Nat → Int) (wu : Nat → Nat) (fk nw : Nat → Int) (hme : ∀ j, me j < 18446744073709551616) (hc : cnt ≤ 300) (t : Nat) (ht : lowB (mS me cnt) t) : CT mX5_leastOfMade 0 0 [.ref 0] [ob 5 [vI (cnt : Int), .ref 1, .ref 2, .ref 3, .ref 4, .ref 11, .ref 12, vI (arcs : Int), vI (ln : Int), .ref 5, .ref 6, .ref 7, .ref 8, .ref 9, .ref 10], cK 300 wy, cN 300 fa, cK 300 fw, cN 301 as_, cK 2107 me, cI 401 fb, cI 300 nb, cK 4 wu, cI 200 fk, cI 512 nw, cN nA aw, cN nA at_] (fun r w => r = some (vI (t : Int)) ∧ w = [ob 5 [vI (cnt : Int), .ref 1, .ref 2, .ref 3, .ref 4, .ref 11, .ref 12, vI (arcs : Int), vI (ln : Int), .ref 5, .ref 6, .ref 7, .ref 8, .ref 9, .ref 10], cK 300 wy, cN 300 fa, cK 300 fw, cN 301 as_, cK 2107 me, cI 401 fb, cI 300 nb, cK 4 wu, cI 200 fk, cI 512 nw, cN nA aw, cN nA at_]) := by
  refine CT.intro rfl (Nat.le_of_ble_eq_true rfl) ?_
  generalize hPost : (fun r w => r = some (vI (t : Int)) ∧ w = [ob 5 [vI (cnt : Int), .ref 1, .ref 2, .ref 3, .ref 4, .ref 11, .ref 12, vI (arcs : Int), vI (ln : Int), .ref 5, .ref 6, .ref 7, .ref 8, .ref 9, .ref 10], cK 300 wy, cN 300 fa, cK 300 fw, cN 301 as_, cK 2107 me, cI 401 fb, cI 300 nb, cK 4 wu, cI 200 fk, cI 512 nw, cN nA aw, cN nA at_] : MP) = Post
  have hPo : ∀ rr ww, (fun r w => r = some (vI (t : Int)) ∧ w = [ob 5 [vI (cnt : Int), .ref 1, .ref 2, .ref 3, .ref 4, .ref 11, .ref 12, vI (arcs : Int), vI (ln : Int), .ref 5, .ref 6, .ref 7, .ref 8, .ref 9, .ref 10], cK 300 wy, cN 300 fa, cK 300 fw, cN 301 as_, cK 2107 me, cI 401 fb, cI 300 nb, cK 4 wu, cI 200 fk, cI 512 nw, cN nA aw, cN nA at_] : MP) rr ww → Post rr ww := by rw [← hPost]; exact fun _ _ h => h
  clear hPost
  show WM mX5_leastOfMade 0 0 Post 13 0 [(0, .ref 0)] [] [ob 5 [vI (cnt : Int), .ref 1, .ref 2, .ref 3, .ref 4, .ref 11, .ref 12, vI (arcs : Int), vI (ln : Int), .ref 5, .ref 6, .ref 7, .ref 8, .ref 9, .ref 10], cK 300 wy, cN 300 fa, cK 300 fw, cN 301 as_, cK 2107 me, cI 401 fb, cI 300 nb, cK 4 wu, cI 200 fk, cI 512 nw, cN nA aw, cN nA at_] 0 0
  refine sq_ok rfl [(.iconst 0, 0, 0, 0), (.istore_n 1, 0, 0, 0)] 0 _ _ _ _ _ (by decide +kernel) ?_
  show WM mX5_leastOfMade 0 0 Post 13 2 [(0, .ref 0), (1, vI 0)] [] [ob 5 [vI (cnt : Int), .ref 1, .ref 2, .ref 3, .ref 4, .ref 11, .ref 12, vI (arcs : Int), vI (ln : Int), .ref 5, .ref 6, .ref 7, .ref 8, .ref 9, .ref 10], cK 300 wy, cN 300 fa, cK 300 fw, cN 301 as_, cK 2107 me, cI 401 fb, cI 300 nb, cK 4 wu, cI 200 fk, cI 512 nw, cN nA aw, cN nA at_] 0 0
  have lp2 : ∀ (n2 : Nat) (i : Nat), (i ≤ 7) → (∀ j, j < i → me (7 * cnt + j) = 0) → (7 - i) < n2 → WM mX5_leastOfMade 0 0 Post 13 2 [(0, .ref 0), (1, vI (i : Int))] [] [ob 5 [vI (cnt : Int), .ref 1, .ref 2, .ref 3, .ref 4, .ref 11, .ref 12, vI (arcs : Int), vI (ln : Int), .ref 5, .ref 6, .ref 7, .ref 8, .ref 9, .ref 10], cK 300 wy, cN 300 fa, cK 300 fw, cN 301 as_, cK 2107 me, cI 401 fb, cI 300 nb, cK 4 wu, cI 200 fk, cI 512 nw, cN nA aw, cN nA at_] 0 0 := by
    intro n2
    induction n2 with
    | zero => intro i hi hq hm; exact absurd hm (Nat.not_lt_zero _)
    | succ n2 ih2 =>
      intro i hi hq hm2
      refine sq_ok rfl [(.iload_n 1, 0, 0, 0), (.bipush 7, 0, 0, 0), (.if_icmp .ge 40, 0, 0, 0)] 2 _ _ _ _ _ (by decide +kernel) ?_
      show (kI 7 ≤ kI (i : Int) → WM mX5_leastOfMade 0 0 Post 13 45 [(0, .ref 0), (1, vI (i : Int))] [] [ob 5 [vI (cnt : Int), .ref 1, .ref 2, .ref 3, .ref 4, .ref 11, .ref 12, vI (arcs : Int), vI (ln : Int), .ref 5, .ref 6, .ref 7, .ref 8, .ref 9, .ref 10], cK 300 wy, cN 300 fa, cK 300 fw, cN 301 as_, cK 2107 me, cI 401 fb, cI 300 nb, cK 4 wu, cI 200 fk, cI 512 nw, cN nA aw, cN nA at_] 0 0) ∧ (¬ kI 7 ≤ kI (i : Int) → WM mX5_leastOfMade 0 0 Post 13 8 [(0, .ref 0), (1, vI (i : Int))] [] [ob 5 [vI (cnt : Int), .ref 1, .ref 2, .ref 3, .ref 4, .ref 11, .ref 12, vI (arcs : Int), vI (ln : Int), .ref 5, .ref 6, .ref 7, .ref 8, .ref 9, .ref 10], cK 300 wy, cN 300 fa, cK 300 fw, cN 301 as_, cK 2107 me, cI 401 fb, cI 300 nb, cK 4 wu, cI 200 fk, cI 512 nw, cN nA aw, cN nA at_] 0 0)
      refine ⟨fun c5 => ?_, fun c5 => ?_⟩
      · 
        rw [kI_le (by omega)] at c5
        refine sq_ok rfl [(.iconst 0, 0, 0, 0), (.ireturn, 0, 0, 0)] 45 _ _ _ _ _ (by decide +kernel) ?_
        show ((0 ≤ 0 ∧ 0 ≤ 0) ∧ Post (some (vI 0)) [ob 5 [vI (cnt : Int), .ref 1, .ref 2, .ref 3, .ref 4, .ref 11, .ref 12, vI (arcs : Int), vI (ln : Int), .ref 5, .ref 6, .ref 7, .ref 8, .ref 9, .ref 10], cK 300 wy, cN 300 fa, cK 300 fw, cN 301 as_, cK 2107 me, cI 401 fb, cI 300 nb, cK 4 wu, cI 200 fk, cI 512 nw, cN nA aw, cN nA at_])
        refine ⟨⟨Nat.le_refl _, Nat.le_refl _⟩, hPo _ _ ?_⟩
        have h7 := ht.1
        rw [mS_bit hme] at h7
        by_cases h8 : t < 448
        · rw [hq (t / 64) (by omega), Nat.zero_testBit, Bool.and_false] at h7
          cases h7
        · rw [decide_eq_false h8, Bool.false_and] at h7
          cases h7
      · 
        rw [kI_le (by omega)] at c5
        refine sq_ok rfl [(.aload_n 0, 0, 0, 0), (.getfield 31, 5, 9, 0), (.aload_n 0, 0, 0, 0), (.getfield 49, 5, 0, 0), (.bipush 7, 0, 0, 0), (.imul, 0, 0, 0), (.iload_n 1, 0, 0, 0), (.iadd, 0, 0, 0), (.laload, 0, 0, 0), (.lstore_n 2, 0, 0, 0), (.lload_n 2, 0, 0, 0), (.lconst 0, 0, 0, 0), (.lcmp, 0, 0, 0), (.ifCond .eq 13, 0, 0, 0)] 8 _ _ _ _ _ (by decide +kernel) ?_
        show ∃ j21 : Nat, mj 2107 (((kI (cnt : Int)) * (kI 7)) + (kI (i : Int))) j21 ∧ ((lg_cmp (kL ((me j21 : Nat) : Int)) (kL 0)) = kI 0 → WM mX5_leastOfMade 0 0 Post 13 39 [(0, .ref 0), (1, vI (i : Int)), (2, vJ ((me j21 : Nat) : Int))] [] [ob 5 [vI (cnt : Int), .ref 1, .ref 2, .ref 3, .ref 4, .ref 11, .ref 12, vI (arcs : Int), vI (ln : Int), .ref 5, .ref 6, .ref 7, .ref 8, .ref 9, .ref 10], cK 300 wy, cN 300 fa, cK 300 fw, cN 301 as_, cK 2107 me, cI 401 fb, cI 300 nb, cK 4 wu, cI 200 fk, cI 512 nw, cN nA aw, cN nA at_] 0 0) ∧ (¬ (lg_cmp (kL ((me j21 : Nat) : Int)) (kL 0)) = kI 0 → WM mX5_leastOfMade 0 0 Post 13 29 [(0, .ref 0), (1, vI (i : Int)), (2, vJ ((me j21 : Nat) : Int))] [] [ob 5 [vI (cnt : Int), .ref 1, .ref 2, .ref 3, .ref 4, .ref 11, .ref 12, vI (arcs : Int), vI (ln : Int), .ref 5, .ref 6, .ref 7, .ref 8, .ref 9, .ref 10], cK 300 wy, cN 300 fa, cK 300 fw, cN 301 as_, cK 2107 me, cI 401 fb, cI 300 nb, cK 4 wu, cI 200 fk, cI 512 nw, cN nA aw, cN nA at_] 0 0)
        refine ⟨(7 * cnt + i), ⟨by omega, by omega, by rw [kI_mul, kI_add]; congr 1; omega⟩, ?_⟩
        refine ⟨fun c26 => ?_, fun c26 => ?_⟩
        · 
          have d26 : me (7 * cnt + i) = 0 := by rw [lc_eq] at c26; exact (kL_eqU (b := 0) (hme _) (by omega)).mp c26
          refine sq_ok rfl [(.iinc 1 1, 0, 0, 0), (.goto (-40), 0, 0, 0)] 39 _ _ _ _ _ (by decide +kernel) ?_
          show WM mX5_leastOfMade 0 0 Post 13 2 [(0, .ref 0), (1, .int ((kI (i : Int)) + (kI 1))), (2, vJ ((me (7 * cnt + i) : Nat) : Int))] [] [ob 5 [vI (cnt : Int), .ref 1, .ref 2, .ref 3, .ref 4, .ref 11, .ref 12, vI (arcs : Int), vI (ln : Int), .ref 5, .ref 6, .ref 7, .ref 8, .ref 9, .ref 10], cK 300 wy, cN 300 fa, cK 300 fw, cN 301 as_, cK 2107 me, cI 401 fb, cI 300 nb, cK 4 wu, cI 200 fk, cI 512 nw, cN nA aw, cN nA at_] 0 0
          have e3 : ((kI (i : Int)) + (kI 1)) = kI (((i + 1) : Nat) : Int) := by first | (simp only [kI_add, kI_sub, kI_mul]; done) | (simp only [kI_add, kI_sub, kI_mul]; rfl)
          rw [e3]
          exact WM.pick [0, 1] rfl (ih2 (i + 1) (by omega) (fun j hj => by rcases Nat.lt_succ_iff_lt_or_eq.mp hj with h | h; exact hq j h; rw [h]; exact d26) (by omega))
        · 
          have d26 : ¬ me (7 * cnt + i) = 0 := fun h => c26 (by rw [lc_eq, h]; rfl)
          obtain ⟨u, hu, hl⟩ := bl_low (hme (7 * cnt + i)) d26
          have hlt : lowB (mS me cnt) (64 * i + u) := ⟨by rw [mS_bit hme, decide_eq_true (by omega), show (64 * i + u) / 64 = i by omega, show (64 * i + u) % 64 = u by omega, hl.1]; rfl, fun j hj => by
    rw [mS_bit hme]
    by_cases h1 : j / 64 = i
    · rw [h1, hl.2 _ (by omega), Bool.and_false]
    · rw [hq (j / 64) (by omega), Nat.zero_testBit, Bool.and_false]⟩
          have htu := low_uniq ht hlt
          refine sq_ok rfl [(.bipush 64, 0, 0, 0), (.iload_n 1, 0, 0, 0), (.imul, 0, 0, 0), (.lload_n 2, 0, 0, 0)] 29 _ _ _ _ _ (by decide +kernel) ?_
          show WM mX5_leastOfMade 0 0 Post 13 34 [(0, .ref 0), (1, vI (i : Int)), (2, vJ ((me (7 * cnt + i) : Nat) : Int))] [vJ ((me (7 * cnt + i) : Nat) : Int), .int ((kI 64) * (kI (i : Int)))] [ob 5 [vI (cnt : Int), .ref 1, .ref 2, .ref 3, .ref 4, .ref 11, .ref 12, vI (arcs : Int), vI (ln : Int), .ref 5, .ref 6, .ref 7, .ref 8, .ref 9, .ref 10], cK 300 wy, cN 300 fa, cK 300 fw, cN 301 as_, cK 2107 me, cI 401 fb, cI 300 nb, cK 4 wu, cI 200 fk, cI 512 nw, cN nA aw, cN nA at_] 0 0
          have e4 : ((kI 64) * (kI (i : Int))) = kI (((64 * i) : Nat) : Int) := by first | (simp only [kI_add, kI_sub, kI_mul]; done) | (simp only [kI_add, kI_sub, kI_mul]; rfl)
          rw [e4]
          refine wm_callS (y := mX5_leastOfMade) mJ13_numberOfTrailingZeros_95d88 [] (pc := 34) (rest := [vI (((64 * i) : Nat) : Int)]) (mc' := 0) (ms' := 0) (by decide +kernel) kX5_107 (c_ntz (me (7 * cnt + i)) u (hme _) hu hl) rfl ⟨Nat.le_of_ble_eq_true rfl, Nat.le_of_ble_eq_true rfl⟩ ⟨Nat.le_of_ble_eq_true rfl, Nat.le_of_ble_eq_true rfl⟩ (Nat.le_of_ble_eq_true rfl) rfl rfl (Nat.le_of_ble_eq_true rfl) rfl ?_
          rintro _ _ ⟨rfl, rfl⟩
          show WM mX5_leastOfMade 0 0 Post 13 37 [(0, .ref 0), (1, vI (i : Int)), (2, vJ ((me (7 * cnt + i) : Nat) : Int))] [vI (u : Int), vI (((64 * i) : Nat) : Int)] [ob 5 [vI (cnt : Int), .ref 1, .ref 2, .ref 3, .ref 4, .ref 11, .ref 12, vI (arcs : Int), vI (ln : Int), .ref 5, .ref 6, .ref 7, .ref 8, .ref 9, .ref 10], cK 300 wy, cN 300 fa, cK 300 fw, cN 301 as_, cK 2107 me, cI 401 fb, cI 300 nb, cK 4 wu, cI 200 fk, cI 512 nw, cN nA aw, cN nA at_] 0 0
          refine sq_ok rfl [(.iadd, 0, 0, 0), (.ireturn, 0, 0, 0)] 37 _ _ _ _ _ (by decide +kernel) ?_
          show ((0 ≤ 0 ∧ 0 ≤ 0) ∧ Post (some (.int ((kI (((64 * i) : Nat) : Int)) + (kI (u : Int))))) [ob 5 [vI (cnt : Int), .ref 1, .ref 2, .ref 3, .ref 4, .ref 11, .ref 12, vI (arcs : Int), vI (ln : Int), .ref 5, .ref 6, .ref 7, .ref 8, .ref 9, .ref 10], cK 300 wy, cN 300 fa, cK 300 fw, cN 301 as_, cK 2107 me, cI 401 fb, cI 300 nb, cK 4 wu, cI 200 fk, cI 512 nw, cN nA aw, cN nA at_])
          have e5 : ((kI (((64 * i) : Nat) : Int)) + (kI (u : Int))) = kI ((((64 * i) + u) : Nat) : Int) := by first | (simp only [kI_add, kI_sub, kI_mul]; done) | (simp only [kI_add, kI_sub, kI_mul]; rfl)
          rw [e5]
          refine ⟨⟨Nat.le_refl _, Nat.le_refl _⟩, hPo _ _ ?_⟩
          exact ⟨congrArg (fun q : Nat => some (vI (q : Int))) htu.symm, rfl⟩
  exact WM.pick [0, 1] rfl (lp2 _ 0 (by omega) (fun j hj => absurd hj (Nat.not_lt_zero _)) (Nat.lt_succ_self _))

theorem lstE_step {fr : Nat → Nat} {v k s : Nat} (h : lstE fr v k = some s) : s < k ∧ fr s = v ∧ ∀ t, s < t → t < k → fr t ≠ v := by
  induction k with
  | zero => cases h
  | succ k ih =>
    unfold lstE at h
    by_cases h1 : fr k = v
    · rw [if_pos h1] at h
      cases h
      exact ⟨by omega, h1, fun t h2 h3 => by omega⟩
    · rw [if_neg h1] at h
      obtain ⟨a, b, c⟩ := ih h
      refine ⟨by omega, b, fun t h2 h3 => ?_⟩
      by_cases h4 : t = k
      · rw [h4]; exact h1
      · exact c t h2 (by omega)
theorem lstE_nil {fr : Nat → Nat} {v k : Nat} (h : lstE fr v k = none) : ∀ t, t < k → fr t ≠ v := by
  induction k with
  | zero => intro t ht; omega
  | succ k ih =>
    unfold lstE at h
    by_cases h1 : fr k = v
    · rw [if_pos h1] at h
      cases h
    · rw [if_neg h1] at h
      intro t ht
      by_cases h4 : t = k
      · rw [h4]; exact h1
      · exact ih h t (by omega)

set_option maxRecDepth 100000 in
set_option maxHeartbeats 500000 in
theorem c_X5_takeMade (cnt : Nat) (wy fa fw as_ aw at_ : Nat → Nat) (nA arcs ln : Nat) (me : Nat → Nat) (fb nb : Nat → Int) (wu : Nat → Nat) (fk nw : Nat → Int) (hme : ∀ j, me j < 18446744073709551616) (hc : cnt ≤ 300) (t : Nat) (ht : lowB (mS me cnt) t) (ht2 : t < 401) (lw : Nat → Nat) (hlw : ∀ s, s < cnt → lowB (mS me s) (lw s)) (hC : chn lw fb nb 401 cnt) : CT mX5_takeMade 0 0 [.ref 0] [ob 5 [vI (cnt : Int), .ref 1, .ref 2, .ref 3, .ref 4, .ref 11, .ref 12, vI (arcs : Int), vI (ln : Int), .ref 5, .ref 6, .ref 7, .ref 8, .ref 9, .ref 10], cK 300 wy, cN 300 fa, cK 300 fw, cN 301 as_, cK 2107 me, cI 401 fb, cI 300 nb, cK 4 wu, cI 200 fk, cI 512 nw, cN nA aw, cN nA at_] (fun r w => (∃ s, s < cnt ∧ mS me s = mS me cnt ∧ r = some (vI (s : Int)) ∧ w = [ob 5 [vI (cnt : Int), .ref 1, .ref 2, .ref 3, .ref 4, .ref 11, .ref 12, vI (arcs : Int), vI (ln : Int), .ref 5, .ref 6, .ref 7, .ref 8, .ref 9, .ref 10], cK 300 wy, cN 300 fa, cK 300 fw, cN 301 as_, cK 2107 me, cI 401 fb, cI 300 nb, cK 4 wu, cI 200 fk, cI 512 nw, cN nA aw, cN nA at_]) ∨ ((∀ s, s < cnt → mS me s ≠ mS me cnt) ∧ ((cnt = 300 ∧ r = some (vI (-2)) ∧ w = [ob 5 [vI (cnt : Int), .ref 1, .ref 2, .ref 3, .ref 4, .ref 11, .ref 12, vI (arcs : Int), vI (ln : Int), .ref 5, .ref 6, .ref 7, .ref 8, .ref 9, .ref 10], cK 300 wy, cN 300 fa, cK 300 fw, cN 301 as_, cK 2107 me, cI 401 fb, cI 300 nb, cK 4 wu, cI 200 fk, cI 512 nw, cN nA aw, cN nA at_]) ∨ (cnt < 300 ∧ r = some (vI (cnt : Int)) ∧ w = [ob 5 [vI (((cnt + 1) : Nat) : Int), .ref 1, .ref 2, .ref 3, .ref 4, .ref 11, .ref 12, vI (arcs : Int), vI (ln : Int), .ref 5, .ref 6, .ref 7, .ref 8, .ref 9, .ref 10], cK 300 wy, cN 300 fa, cK 300 fw, cN 301 as_, cK 2107 me, cI 401 (va_up fb t (cnt : Int)), cI 300 (va_up nb cnt (fb t)), cK 4 wu, cI 200 fk, cI 512 nw, cN nA aw, cN nA at_])))) := by
  refine CT.intro rfl (Nat.le_of_ble_eq_true rfl) ?_
  generalize hPost : (fun r w => (∃ s, s < cnt ∧ mS me s = mS me cnt ∧ r = some (vI (s : Int)) ∧ w = [ob 5 [vI (cnt : Int), .ref 1, .ref 2, .ref 3, .ref 4, .ref 11, .ref 12, vI (arcs : Int), vI (ln : Int), .ref 5, .ref 6, .ref 7, .ref 8, .ref 9, .ref 10], cK 300 wy, cN 300 fa, cK 300 fw, cN 301 as_, cK 2107 me, cI 401 fb, cI 300 nb, cK 4 wu, cI 200 fk, cI 512 nw, cN nA aw, cN nA at_]) ∨ ((∀ s, s < cnt → mS me s ≠ mS me cnt) ∧ ((cnt = 300 ∧ r = some (vI (-2)) ∧ w = [ob 5 [vI (cnt : Int), .ref 1, .ref 2, .ref 3, .ref 4, .ref 11, .ref 12, vI (arcs : Int), vI (ln : Int), .ref 5, .ref 6, .ref 7, .ref 8, .ref 9, .ref 10], cK 300 wy, cN 300 fa, cK 300 fw, cN 301 as_, cK 2107 me, cI 401 fb, cI 300 nb, cK 4 wu, cI 200 fk, cI 512 nw, cN nA aw, cN nA at_]) ∨ (cnt < 300 ∧ r = some (vI (cnt : Int)) ∧ w = [ob 5 [vI (((cnt + 1) : Nat) : Int), .ref 1, .ref 2, .ref 3, .ref 4, .ref 11, .ref 12, vI (arcs : Int), vI (ln : Int), .ref 5, .ref 6, .ref 7, .ref 8, .ref 9, .ref 10], cK 300 wy, cN 300 fa, cK 300 fw, cN 301 as_, cK 2107 me, cI 401 (va_up fb t (cnt : Int)), cI 300 (va_up nb cnt (fb t)), cK 4 wu, cI 200 fk, cI 512 nw, cN nA aw, cN nA at_]))) : MP) = Post
  have hPo : ∀ rr ww, (fun r w => (∃ s, s < cnt ∧ mS me s = mS me cnt ∧ r = some (vI (s : Int)) ∧ w = [ob 5 [vI (cnt : Int), .ref 1, .ref 2, .ref 3, .ref 4, .ref 11, .ref 12, vI (arcs : Int), vI (ln : Int), .ref 5, .ref 6, .ref 7, .ref 8, .ref 9, .ref 10], cK 300 wy, cN 300 fa, cK 300 fw, cN 301 as_, cK 2107 me, cI 401 fb, cI 300 nb, cK 4 wu, cI 200 fk, cI 512 nw, cN nA aw, cN nA at_]) ∨ ((∀ s, s < cnt → mS me s ≠ mS me cnt) ∧ ((cnt = 300 ∧ r = some (vI (-2)) ∧ w = [ob 5 [vI (cnt : Int), .ref 1, .ref 2, .ref 3, .ref 4, .ref 11, .ref 12, vI (arcs : Int), vI (ln : Int), .ref 5, .ref 6, .ref 7, .ref 8, .ref 9, .ref 10], cK 300 wy, cN 300 fa, cK 300 fw, cN 301 as_, cK 2107 me, cI 401 fb, cI 300 nb, cK 4 wu, cI 200 fk, cI 512 nw, cN nA aw, cN nA at_]) ∨ (cnt < 300 ∧ r = some (vI (cnt : Int)) ∧ w = [ob 5 [vI (((cnt + 1) : Nat) : Int), .ref 1, .ref 2, .ref 3, .ref 4, .ref 11, .ref 12, vI (arcs : Int), vI (ln : Int), .ref 5, .ref 6, .ref 7, .ref 8, .ref 9, .ref 10], cK 300 wy, cN 300 fa, cK 300 fw, cN 301 as_, cK 2107 me, cI 401 (va_up fb t (cnt : Int)), cI 300 (va_up nb cnt (fb t)), cK 4 wu, cI 200 fk, cI 512 nw, cN nA aw, cN nA at_]))) : MP) rr ww → Post rr ww := by rw [← hPost]; exact fun _ _ h => h
  clear hPost
  have hfR : -2147483648 ≤ fb t ∧ fb t ≤ 2147483647 := by rw [hC.1 t ht2]; exact oI_R (n := cnt) (fun k hk => (lstE_step hk).1) (by omega)
  show WM mX5_takeMade 0 0 Post 13 0 [(0, .ref 0)] [] [ob 5 [vI (cnt : Int), .ref 1, .ref 2, .ref 3, .ref 4, .ref 11, .ref 12, vI (arcs : Int), vI (ln : Int), .ref 5, .ref 6, .ref 7, .ref 8, .ref 9, .ref 10], cK 300 wy, cN 300 fa, cK 300 fw, cN 301 as_, cK 2107 me, cI 401 fb, cI 300 nb, cK 4 wu, cI 200 fk, cI 512 nw, cN nA aw, cN nA at_] 0 0
  refine sq_ok rfl [(.aload_n 0, 0, 0, 0)] 0 _ _ _ _ _ (by decide +kernel) ?_
  show WM mX5_takeMade 0 0 Post 13 1 [(0, .ref 0)] [.ref 0] [ob 5 [vI (cnt : Int), .ref 1, .ref 2, .ref 3, .ref 4, .ref 11, .ref 12, vI (arcs : Int), vI (ln : Int), .ref 5, .ref 6, .ref 7, .ref 8, .ref 9, .ref 10], cK 300 wy, cN 300 fa, cK 300 fw, cN 301 as_, cK 2107 me, cI 401 fb, cI 300 nb, cK 4 wu, cI 200 fk, cI 512 nw, cN nA aw, cN nA at_] 0 0
  refine wm_callV (y := mX5_takeMade) mX5_leastOfMade [0, 1, 2, 3, 4, 5, 6, 7, 8, 9, 10, 11, 12] (pc := 1) (rest := []) (mc' := 0) (ms' := 0) (by decide +kernel) kX5_152 (c_X5_leastOfMade cnt wy fa fw as_ aw at_ nA arcs ln me fb nb wu fk nw hme hc t ht) rfl rfl ⟨_, rfl, rfl⟩ ⟨Nat.le_of_ble_eq_true rfl, Nat.le_of_ble_eq_true rfl⟩ ⟨Nat.le_of_ble_eq_true rfl, Nat.le_of_ble_eq_true rfl⟩ (Nat.le_of_ble_eq_true rfl) rfl rfl (Nat.le_of_ble_eq_true rfl) rfl ?_
  rintro _ _ ⟨rfl, rfl⟩
  show WM mX5_takeMade 0 0 Post 13 4 [(0, .ref 0)] [vI (t : Int)] [ob 5 [vI (cnt : Int), .ref 1, .ref 2, .ref 3, .ref 4, .ref 11, .ref 12, vI (arcs : Int), vI (ln : Int), .ref 5, .ref 6, .ref 7, .ref 8, .ref 9, .ref 10], cK 300 wy, cN 300 fa, cK 300 fw, cN 301 as_, cK 2107 me, cI 401 fb, cI 300 nb, cK 4 wu, cI 200 fk, cI 512 nw, cN nA aw, cN nA at_] 0 0
  refine sq_ok rfl [(.istore_n 1, 0, 0, 0), (.aload_n 0, 0, 0, 0), (.getfield 34, 5, 10, 0), (.iload_n 1, 0, 0, 0), (.iaload, 0, 0, 0)] 4 _ _ _ _ _ (by decide +kernel) ?_
  show ∃ j10 : Nat, mj 401 (kI (t : Int)) j10 ∧ WM mX5_takeMade 0 0 Post 13 11 [(0, .ref 0), (1, vI (t : Int))] [.int (kI (fb j10))] [ob 5 [vI (cnt : Int), .ref 1, .ref 2, .ref 3, .ref 4, .ref 11, .ref 12, vI (arcs : Int), vI (ln : Int), .ref 5, .ref 6, .ref 7, .ref 8, .ref 9, .ref 10], cK 300 wy, cN 300 fa, cK 300 fw, cN 301 as_, cK 2107 me, cI 401 fb, cI 300 nb, cK 4 wu, cI 200 fk, cI 512 nw, cN nA aw, cN nA at_] 0 0
  refine ⟨t, ⟨by omega, by omega, rfl⟩, ?_⟩
  have e1 : kI (fb t) = kI (oI (lstE lw t cnt)) := by rw [hC.1 t ht2]
  rw [e1]
  refine sq_ok rfl [(.istore_n 2, 0, 0, 0), (.iconst 0, 0, 0, 0), (.istore_n 3, 0, 0, 0)] 11 _ _ _ _ _ (by decide +kernel) ?_
  show WM mX5_takeMade 0 0 Post 13 14 [(0, .ref 0), (1, vI (t : Int)), (2, vI (oI (lstE lw t cnt))), (3, vI 0)] [] [ob 5 [vI (cnt : Int), .ref 1, .ref 2, .ref 3, .ref 4, .ref 11, .ref 12, vI (arcs : Int), vI (ln : Int), .ref 5, .ref 6, .ref 7, .ref 8, .ref 9, .ref 10], cK 300 wy, cN 300 fa, cK 300 fw, cN 301 as_, cK 2107 me, cI 401 fb, cI 300 nb, cK 4 wu, cI 200 fk, cI 512 nw, cN nA aw, cN nA at_] 0 0
  have lp14 : ∀ (n14 : Nat) (k : Nat) (n : Nat), (k + n ≤ cnt) → (∀ s, s < cnt → k ≤ s → mS me s ≠ mS me cnt) → (300 - n) < n14 → WM mX5_takeMade 0 0 Post 13 14 [(0, .ref 0), (1, vI (t : Int)), (2, vI (oI (lstE lw t k))), (3, vI (n : Int))] [] [ob 5 [vI (cnt : Int), .ref 1, .ref 2, .ref 3, .ref 4, .ref 11, .ref 12, vI (arcs : Int), vI (ln : Int), .ref 5, .ref 6, .ref 7, .ref 8, .ref 9, .ref 10], cK 300 wy, cN 300 fa, cK 300 fw, cN 301 as_, cK 2107 me, cI 401 fb, cI 300 nb, cK 4 wu, cI 200 fk, cI 512 nw, cN nA aw, cN nA at_] 0 0 := by
    intro n14
    induction n14 with
    | zero => intro k n hk hq hm; exact absurd hm (Nat.not_lt_zero _)
    | succ n14 ih14 =>
      intro k n hk hq hm14
      have hzR : -2147483648 ≤ oI (lstE lw t k) ∧ oI (lstE lw t k) ≤ 2147483647 := oI_R (n := k) (fun j hj => (lstE_step hj).1) (by omega)
      refine sq_ok rfl [(.iload_n 3, 0, 0, 0), (.sipush 300, 0, 0, 0), (.if_icmp .ge 30, 0, 0, 0)] 14 _ _ _ _ _ (by decide +kernel) ?_
      show (kI 300 ≤ kI (n : Int) → WM mX5_takeMade 0 0 Post 13 48 [(0, .ref 0), (1, vI (t : Int)), (2, vI (oI (lstE lw t k))), (3, vI (n : Int))] [] [ob 5 [vI (cnt : Int), .ref 1, .ref 2, .ref 3, .ref 4, .ref 11, .ref 12, vI (arcs : Int), vI (ln : Int), .ref 5, .ref 6, .ref 7, .ref 8, .ref 9, .ref 10], cK 300 wy, cN 300 fa, cK 300 fw, cN 301 as_, cK 2107 me, cI 401 fb, cI 300 nb, cK 4 wu, cI 200 fk, cI 512 nw, cN nA aw, cN nA at_] 0 0) ∧ (¬ kI 300 ≤ kI (n : Int) → WM mX5_takeMade 0 0 Post 13 21 [(0, .ref 0), (1, vI (t : Int)), (2, vI (oI (lstE lw t k))), (3, vI (n : Int))] [] [ob 5 [vI (cnt : Int), .ref 1, .ref 2, .ref 3, .ref 4, .ref 11, .ref 12, vI (arcs : Int), vI (ln : Int), .ref 5, .ref 6, .ref 7, .ref 8, .ref 9, .ref 10], cK 300 wy, cN 300 fa, cK 300 fw, cN 301 as_, cK 2107 me, cI 401 fb, cI 300 nb, cK 4 wu, cI 200 fk, cI 512 nw, cN nA aw, cN nA at_] 0 0)
      refine ⟨fun c18 => ?_, fun c18 => ?_⟩
      · 
        rw [kI_le (by omega)] at c18
        have hnone : ∀ s, s < cnt → mS me s ≠ mS me cnt := by
          intro s hs he
          rcases Nat.lt_or_ge s k with h1 | h1
          · have h2 : lw s = t := low_uniq (hlw s hs) (by rw [he]; exact ht)
            by_cases h3 : n < 300
            · exact lstE_nil (oI_neg (show ¬ 0 ≤ oI (lstE lw t k) by omega)) s h1 h2
            · omega
          · exact hq s hs h1 he
        refine sq_ok rfl [(.aload_n 0, 0, 0, 0), (.getfield 49, 5, 0, 0), (.sipush 300, 0, 0, 0), (.if_icmp .lt 6, 0, 0, 0)] 48 _ _ _ _ _ (by decide +kernel) ?_
        show (kI (cnt : Int) < kI 300 → WM mX5_takeMade 0 0 Post 13 61 [(0, .ref 0), (1, vI (t : Int)), (2, vI (oI (lstE lw t k))), (3, vI (n : Int))] [] [ob 5 [vI (cnt : Int), .ref 1, .ref 2, .ref 3, .ref 4, .ref 11, .ref 12, vI (arcs : Int), vI (ln : Int), .ref 5, .ref 6, .ref 7, .ref 8, .ref 9, .ref 10], cK 300 wy, cN 300 fa, cK 300 fw, cN 301 as_, cK 2107 me, cI 401 fb, cI 300 nb, cK 4 wu, cI 200 fk, cI 512 nw, cN nA aw, cN nA at_] 0 0) ∧ (¬ kI (cnt : Int) < kI 300 → WM mX5_takeMade 0 0 Post 13 58 [(0, .ref 0), (1, vI (t : Int)), (2, vI (oI (lstE lw t k))), (3, vI (n : Int))] [] [ob 5 [vI (cnt : Int), .ref 1, .ref 2, .ref 3, .ref 4, .ref 11, .ref 12, vI (arcs : Int), vI (ln : Int), .ref 5, .ref 6, .ref 7, .ref 8, .ref 9, .ref 10], cK 300 wy, cN 300 fa, cK 300 fw, cN 301 as_, cK 2107 me, cI 401 fb, cI 300 nb, cK 4 wu, cI 200 fk, cI 512 nw, cN nA aw, cN nA at_] 0 0)
        refine ⟨fun c55 => ?_, fun c55 => ?_⟩
        · 
          rw [kI_lt (by omega)] at c55
          refine sq_ok rfl [(.aload_n 0, 0, 0, 0), (.getfield 37, 5, 11, 0), (.aload_n 0, 0, 0, 0), (.getfield 49, 5, 0, 0), (.aload_n 0, 0, 0, 0), (.getfield 34, 5, 10, 0), (.iload_n 1, 0, 0, 0), (.iaload, 0, 0, 0), (.iastore, 0, 0, 0)] 61 _ _ _ _ _ (by decide +kernel) ?_
          show ∃ j74 : Nat, mj 401 (kI (t : Int)) j74 ∧ ∃ (j75 : Nat) (g75 : Nat → Int32), (mj 300 (kI (cnt : Int)) j75 ∧ g75 = upd (fun q => kI (nb q)) j75 (kI (fb j74))) ∧ WM mX5_takeMade 0 0 Post 13 76 [(0, .ref 0), (1, vI (t : Int)), (2, vI (oI (lstE lw t k))), (3, vI (n : Int))] [] [ob 5 [vI (cnt : Int), .ref 1, .ref 2, .ref 3, .ref 4, .ref 11, .ref 12, vI (arcs : Int), vI (ln : Int), .ref 5, .ref 6, .ref 7, .ref 8, .ref 9, .ref 10], cK 300 wy, cN 300 fa, cK 300 fw, cN 301 as_, cK 2107 me, cI 401 fb, .inl (0, 300, .inl g75), cK 4 wu, cI 200 fk, cI 512 nw, cN nA aw, cN nA at_] 0 0
          refine ⟨t, ⟨by omega, by omega, rfl⟩, ?_⟩
          refine ⟨cnt, fun q => kI ((va_up nb cnt (fb t)) q), ⟨⟨by omega, by omega, rfl⟩, st_I (rfl)⟩, ?_⟩
          refine sq_ok rfl [(.aload_n 0, 0, 0, 0), (.getfield 34, 5, 10, 0), (.iload_n 1, 0, 0, 0), (.aload_n 0, 0, 0, 0), (.getfield 49, 5, 0, 0), (.iastore, 0, 0, 0)] 76 _ _ _ _ _ (by decide +kernel) ?_
          show ∃ (j85 : Nat) (g85 : Nat → Int32), (mj 401 (kI (t : Int)) j85 ∧ g85 = upd (fun q => kI (fb q)) j85 (kI (cnt : Int))) ∧ WM mX5_takeMade 0 0 Post 13 86 [(0, .ref 0), (1, vI (t : Int)), (2, vI (oI (lstE lw t k))), (3, vI (n : Int))] [] [ob 5 [vI (cnt : Int), .ref 1, .ref 2, .ref 3, .ref 4, .ref 11, .ref 12, vI (arcs : Int), vI (ln : Int), .ref 5, .ref 6, .ref 7, .ref 8, .ref 9, .ref 10], cK 300 wy, cN 300 fa, cK 300 fw, cN 301 as_, cK 2107 me, .inl (0, 401, .inl g85), cI 300 (va_up nb cnt (fb t)), cK 4 wu, cI 200 fk, cI 512 nw, cN nA aw, cN nA at_] 0 0
          refine ⟨t, fun q => kI ((va_up fb t (cnt : Int)) q), ⟨⟨by omega, by omega, rfl⟩, st_I (rfl)⟩, ?_⟩
          refine sq_ok rfl [(.aload_n 0, 0, 0, 0), (.dup, 0, 0, 0), (.getfield 49, 5, 0, 0), (.iconst 1, 0, 0, 0), (.iadd, 0, 0, 0), (.putfield 49, 5, 0, 0), (.aload_n 0, 0, 0, 0), (.getfield 49, 5, 0, 0), (.iconst 1, 0, 0, 0), (.isub, 0, 0, 0)] 86 _ _ _ _ _ (by decide +kernel) ?_
          show WM mX5_takeMade 0 0 Post 13 102 [(0, .ref 0), (1, vI (t : Int)), (2, vI (oI (lstE lw t k))), (3, vI (n : Int))] [.int (((kI (cnt : Int)) + (kI 1)) - (kI 1))] [ob 5 [.int ((kI (cnt : Int)) + (kI 1)), .ref 1, .ref 2, .ref 3, .ref 4, .ref 11, .ref 12, vI (arcs : Int), vI (ln : Int), .ref 5, .ref 6, .ref 7, .ref 8, .ref 9, .ref 10], cK 300 wy, cN 300 fa, cK 300 fw, cN 301 as_, cK 2107 me, cI 401 (va_up fb t (cnt : Int)), cI 300 (va_up nb cnt (fb t)), cK 4 wu, cI 200 fk, cI 512 nw, cN nA aw, cN nA at_] 0 0
          have e4 : (((kI (cnt : Int)) + (kI 1)) - (kI 1)) = kI (cnt : Int) := by rw [kI_add, kI_sub]; congr 1; omega
          rw [e4]
          have e5 : ((kI (cnt : Int)) + (kI 1)) = kI (((cnt + 1) : Nat) : Int) := by first | (simp only [kI_add, kI_sub, kI_mul]; done) | (simp only [kI_add, kI_sub, kI_mul]; rfl)
          rw [e5]
          refine sq_ok rfl [(.ireturn, 0, 0, 0)] 102 _ _ _ _ _ (by decide +kernel) ?_
          show ((0 ≤ 0 ∧ 0 ≤ 0) ∧ Post (some (vI (cnt : Int))) [ob 5 [vI (((cnt + 1) : Nat) : Int), .ref 1, .ref 2, .ref 3, .ref 4, .ref 11, .ref 12, vI (arcs : Int), vI (ln : Int), .ref 5, .ref 6, .ref 7, .ref 8, .ref 9, .ref 10], cK 300 wy, cN 300 fa, cK 300 fw, cN 301 as_, cK 2107 me, cI 401 (va_up fb t (cnt : Int)), cI 300 (va_up nb cnt (fb t)), cK 4 wu, cI 200 fk, cI 512 nw, cN nA aw, cN nA at_])
          refine ⟨⟨Nat.le_refl _, Nat.le_refl _⟩, hPo _ _ ?_⟩
          exact Or.inr ⟨hnone, Or.inr ⟨by omega, rfl, rfl⟩⟩
        · 
          rw [kI_lt (by omega)] at c55
          refine sq_ok rfl [(.bipush (-2), 0, 0, 0), (.ireturn, 0, 0, 0)] 58 _ _ _ _ _ (by decide +kernel) ?_
          show ((0 ≤ 0 ∧ 0 ≤ 0) ∧ Post (some (vI (-2))) [ob 5 [vI (cnt : Int), .ref 1, .ref 2, .ref 3, .ref 4, .ref 11, .ref 12, vI (arcs : Int), vI (ln : Int), .ref 5, .ref 6, .ref 7, .ref 8, .ref 9, .ref 10], cK 300 wy, cN 300 fa, cK 300 fw, cN 301 as_, cK 2107 me, cI 401 fb, cI 300 nb, cK 4 wu, cI 200 fk, cI 512 nw, cN nA aw, cN nA at_])
          refine ⟨⟨Nat.le_refl _, Nat.le_refl _⟩, hPo _ _ ?_⟩
          exact Or.inr ⟨hnone, Or.inl ⟨by omega, rfl, rfl⟩⟩
      · 
        rw [kI_le (by omega)] at c18
        refine sq_ok rfl [(.iload_n 2, 0, 0, 0), (.ifCond .lt 26, 0, 0, 0)] 21 _ _ _ _ _ (by decide +kernel) ?_
        show (kI (oI (lstE lw t k)) < kI 0 → WM mX5_takeMade 0 0 Post 13 48 [(0, .ref 0), (1, vI (t : Int)), (2, vI (oI (lstE lw t k))), (3, vI (n : Int))] [] [ob 5 [vI (cnt : Int), .ref 1, .ref 2, .ref 3, .ref 4, .ref 11, .ref 12, vI (arcs : Int), vI (ln : Int), .ref 5, .ref 6, .ref 7, .ref 8, .ref 9, .ref 10], cK 300 wy, cN 300 fa, cK 300 fw, cN 301 as_, cK 2107 me, cI 401 fb, cI 300 nb, cK 4 wu, cI 200 fk, cI 512 nw, cN nA aw, cN nA at_] 0 0) ∧ (¬ kI (oI (lstE lw t k)) < kI 0 → WM mX5_takeMade 0 0 Post 13 25 [(0, .ref 0), (1, vI (t : Int)), (2, vI (oI (lstE lw t k))), (3, vI (n : Int))] [] [ob 5 [vI (cnt : Int), .ref 1, .ref 2, .ref 3, .ref 4, .ref 11, .ref 12, vI (arcs : Int), vI (ln : Int), .ref 5, .ref 6, .ref 7, .ref 8, .ref 9, .ref 10], cK 300 wy, cN 300 fa, cK 300 fw, cN 301 as_, cK 2107 me, cI 401 fb, cI 300 nb, cK 4 wu, cI 200 fk, cI 512 nw, cN nA aw, cN nA at_] 0 0)
        refine ⟨fun c22 => ?_, fun c22 => ?_⟩
        · 
          rw [kI_lt (by omega)] at c22
          have hnone : ∀ s, s < cnt → mS me s ≠ mS me cnt := by
            intro s hs he
            rcases Nat.lt_or_ge s k with h1 | h1
            · have h2 : lw s = t := low_uniq (hlw s hs) (by rw [he]; exact ht)
              by_cases h3 : n < 300
              · exact lstE_nil (oI_neg (show ¬ 0 ≤ oI (lstE lw t k) by omega)) s h1 h2
              · omega
            · exact hq s hs h1 he
          refine sq_ok rfl [(.aload_n 0, 0, 0, 0), (.getfield 49, 5, 0, 0), (.sipush 300, 0, 0, 0), (.if_icmp .lt 6, 0, 0, 0)] 48 _ _ _ _ _ (by decide +kernel) ?_
          show (kI (cnt : Int) < kI 300 → WM mX5_takeMade 0 0 Post 13 61 [(0, .ref 0), (1, vI (t : Int)), (2, vI (oI (lstE lw t k))), (3, vI (n : Int))] [] [ob 5 [vI (cnt : Int), .ref 1, .ref 2, .ref 3, .ref 4, .ref 11, .ref 12, vI (arcs : Int), vI (ln : Int), .ref 5, .ref 6, .ref 7, .ref 8, .ref 9, .ref 10], cK 300 wy, cN 300 fa, cK 300 fw, cN 301 as_, cK 2107 me, cI 401 fb, cI 300 nb, cK 4 wu, cI 200 fk, cI 512 nw, cN nA aw, cN nA at_] 0 0) ∧ (¬ kI (cnt : Int) < kI 300 → WM mX5_takeMade 0 0 Post 13 58 [(0, .ref 0), (1, vI (t : Int)), (2, vI (oI (lstE lw t k))), (3, vI (n : Int))] [] [ob 5 [vI (cnt : Int), .ref 1, .ref 2, .ref 3, .ref 4, .ref 11, .ref 12, vI (arcs : Int), vI (ln : Int), .ref 5, .ref 6, .ref 7, .ref 8, .ref 9, .ref 10], cK 300 wy, cN 300 fa, cK 300 fw, cN 301 as_, cK 2107 me, cI 401 fb, cI 300 nb, cK 4 wu, cI 200 fk, cI 512 nw, cN nA aw, cN nA at_] 0 0)
          refine ⟨fun c55 => ?_, fun c55 => ?_⟩
          · 
            rw [kI_lt (by omega)] at c55
            refine sq_ok rfl [(.aload_n 0, 0, 0, 0), (.getfield 37, 5, 11, 0), (.aload_n 0, 0, 0, 0), (.getfield 49, 5, 0, 0), (.aload_n 0, 0, 0, 0), (.getfield 34, 5, 10, 0), (.iload_n 1, 0, 0, 0), (.iaload, 0, 0, 0), (.iastore, 0, 0, 0)] 61 _ _ _ _ _ (by decide +kernel) ?_
            show ∃ j74 : Nat, mj 401 (kI (t : Int)) j74 ∧ ∃ (j75 : Nat) (g75 : Nat → Int32), (mj 300 (kI (cnt : Int)) j75 ∧ g75 = upd (fun q => kI (nb q)) j75 (kI (fb j74))) ∧ WM mX5_takeMade 0 0 Post 13 76 [(0, .ref 0), (1, vI (t : Int)), (2, vI (oI (lstE lw t k))), (3, vI (n : Int))] [] [ob 5 [vI (cnt : Int), .ref 1, .ref 2, .ref 3, .ref 4, .ref 11, .ref 12, vI (arcs : Int), vI (ln : Int), .ref 5, .ref 6, .ref 7, .ref 8, .ref 9, .ref 10], cK 300 wy, cN 300 fa, cK 300 fw, cN 301 as_, cK 2107 me, cI 401 fb, .inl (0, 300, .inl g75), cK 4 wu, cI 200 fk, cI 512 nw, cN nA aw, cN nA at_] 0 0
            refine ⟨t, ⟨by omega, by omega, rfl⟩, ?_⟩
            refine ⟨cnt, fun q => kI ((va_up nb cnt (fb t)) q), ⟨⟨by omega, by omega, rfl⟩, st_I (rfl)⟩, ?_⟩
            refine sq_ok rfl [(.aload_n 0, 0, 0, 0), (.getfield 34, 5, 10, 0), (.iload_n 1, 0, 0, 0), (.aload_n 0, 0, 0, 0), (.getfield 49, 5, 0, 0), (.iastore, 0, 0, 0)] 76 _ _ _ _ _ (by decide +kernel) ?_
            show ∃ (j85 : Nat) (g85 : Nat → Int32), (mj 401 (kI (t : Int)) j85 ∧ g85 = upd (fun q => kI (fb q)) j85 (kI (cnt : Int))) ∧ WM mX5_takeMade 0 0 Post 13 86 [(0, .ref 0), (1, vI (t : Int)), (2, vI (oI (lstE lw t k))), (3, vI (n : Int))] [] [ob 5 [vI (cnt : Int), .ref 1, .ref 2, .ref 3, .ref 4, .ref 11, .ref 12, vI (arcs : Int), vI (ln : Int), .ref 5, .ref 6, .ref 7, .ref 8, .ref 9, .ref 10], cK 300 wy, cN 300 fa, cK 300 fw, cN 301 as_, cK 2107 me, .inl (0, 401, .inl g85), cI 300 (va_up nb cnt (fb t)), cK 4 wu, cI 200 fk, cI 512 nw, cN nA aw, cN nA at_] 0 0
            refine ⟨t, fun q => kI ((va_up fb t (cnt : Int)) q), ⟨⟨by omega, by omega, rfl⟩, st_I (rfl)⟩, ?_⟩
            refine sq_ok rfl [(.aload_n 0, 0, 0, 0), (.dup, 0, 0, 0), (.getfield 49, 5, 0, 0), (.iconst 1, 0, 0, 0), (.iadd, 0, 0, 0), (.putfield 49, 5, 0, 0), (.aload_n 0, 0, 0, 0), (.getfield 49, 5, 0, 0), (.iconst 1, 0, 0, 0), (.isub, 0, 0, 0)] 86 _ _ _ _ _ (by decide +kernel) ?_
            show WM mX5_takeMade 0 0 Post 13 102 [(0, .ref 0), (1, vI (t : Int)), (2, vI (oI (lstE lw t k))), (3, vI (n : Int))] [.int (((kI (cnt : Int)) + (kI 1)) - (kI 1))] [ob 5 [.int ((kI (cnt : Int)) + (kI 1)), .ref 1, .ref 2, .ref 3, .ref 4, .ref 11, .ref 12, vI (arcs : Int), vI (ln : Int), .ref 5, .ref 6, .ref 7, .ref 8, .ref 9, .ref 10], cK 300 wy, cN 300 fa, cK 300 fw, cN 301 as_, cK 2107 me, cI 401 (va_up fb t (cnt : Int)), cI 300 (va_up nb cnt (fb t)), cK 4 wu, cI 200 fk, cI 512 nw, cN nA aw, cN nA at_] 0 0
            have e8 : (((kI (cnt : Int)) + (kI 1)) - (kI 1)) = kI (cnt : Int) := by rw [kI_add, kI_sub]; congr 1; omega
            rw [e8]
            have e9 : ((kI (cnt : Int)) + (kI 1)) = kI (((cnt + 1) : Nat) : Int) := by first | (simp only [kI_add, kI_sub, kI_mul]; done) | (simp only [kI_add, kI_sub, kI_mul]; rfl)
            rw [e9]
            refine sq_ok rfl [(.ireturn, 0, 0, 0)] 102 _ _ _ _ _ (by decide +kernel) ?_
            show ((0 ≤ 0 ∧ 0 ≤ 0) ∧ Post (some (vI (cnt : Int))) [ob 5 [vI (((cnt + 1) : Nat) : Int), .ref 1, .ref 2, .ref 3, .ref 4, .ref 11, .ref 12, vI (arcs : Int), vI (ln : Int), .ref 5, .ref 6, .ref 7, .ref 8, .ref 9, .ref 10], cK 300 wy, cN 300 fa, cK 300 fw, cN 301 as_, cK 2107 me, cI 401 (va_up fb t (cnt : Int)), cI 300 (va_up nb cnt (fb t)), cK 4 wu, cI 200 fk, cI 512 nw, cN nA aw, cN nA at_])
            refine ⟨⟨Nat.le_refl _, Nat.le_refl _⟩, hPo _ _ ?_⟩
            exact Or.inr ⟨hnone, Or.inr ⟨by omega, rfl, rfl⟩⟩
          · 
            rw [kI_lt (by omega)] at c55
            refine sq_ok rfl [(.bipush (-2), 0, 0, 0), (.ireturn, 0, 0, 0)] 58 _ _ _ _ _ (by decide +kernel) ?_
            show ((0 ≤ 0 ∧ 0 ≤ 0) ∧ Post (some (vI (-2))) [ob 5 [vI (cnt : Int), .ref 1, .ref 2, .ref 3, .ref 4, .ref 11, .ref 12, vI (arcs : Int), vI (ln : Int), .ref 5, .ref 6, .ref 7, .ref 8, .ref 9, .ref 10], cK 300 wy, cN 300 fa, cK 300 fw, cN 301 as_, cK 2107 me, cI 401 fb, cI 300 nb, cK 4 wu, cI 200 fk, cI 512 nw, cN nA aw, cN nA at_])
            refine ⟨⟨Nat.le_refl _, Nat.le_refl _⟩, hPo _ _ ?_⟩
            exact Or.inr ⟨hnone, Or.inl ⟨by omega, rfl, rfl⟩⟩
        · 
          rw [kI_lt (by omega)] at c22
          obtain ⟨s, hs1, hs2⟩ := oI_pos (show 0 ≤ oI (lstE lw t k) by omega)
          rw [hs2]
          obtain ⟨hs3, hs4, hs5⟩ := lstE_step hs1
          refine sq_ok rfl [(.aload_n 0, 0, 0, 0), (.iload_n 2, 0, 0, 0)] 25 _ _ _ _ _ (by decide +kernel) ?_
          show WM mX5_takeMade 0 0 Post 13 27 [(0, .ref 0), (1, vI (t : Int)), (2, vI (s : Int)), (3, vI (n : Int))] [vI (s : Int), .ref 0] [ob 5 [vI (cnt : Int), .ref 1, .ref 2, .ref 3, .ref 4, .ref 11, .ref 12, vI (arcs : Int), vI (ln : Int), .ref 5, .ref 6, .ref 7, .ref 8, .ref 9, .ref 10], cK 300 wy, cN 300 fa, cK 300 fw, cN 301 as_, cK 2107 me, cI 401 fb, cI 300 nb, cK 4 wu, cI 200 fk, cI 512 nw, cN nA aw, cN nA at_] 0 0
          refine wm_callV (y := mX5_takeMade) mX5_sameAsMade [0, 1, 2, 3, 4, 5, 6, 7, 8, 9, 10, 11, 12] (pc := 27) (rest := []) (mc' := 0) (ms' := 0) (by decide +kernel) kX5_155 (c_X5_sameAsMade cnt wy fa fw as_ aw at_ nA arcs ln me fb nb wu fk nw hme hc s (by omega)) rfl rfl ⟨_, rfl, rfl⟩ ⟨Nat.le_of_ble_eq_true rfl, Nat.le_of_ble_eq_true rfl⟩ ⟨Nat.le_of_ble_eq_true rfl, Nat.le_of_ble_eq_true rfl⟩ (Nat.le_of_ble_eq_true rfl) rfl rfl (Nat.le_of_ble_eq_true rfl) rfl ?_
          rintro _ _ ⟨⟨b, rfl, hb⟩, rfl⟩
          rw [mS_eq hme] at hb
          show WM mX5_takeMade 0 0 Post 13 30 [(0, .ref 0), (1, vI (t : Int)), (2, vI (s : Int)), (3, vI (n : Int))] [vZ b] [ob 5 [vI (cnt : Int), .ref 1, .ref 2, .ref 3, .ref 4, .ref 11, .ref 12, vI (arcs : Int), vI (ln : Int), .ref 5, .ref 6, .ref 7, .ref 8, .ref 9, .ref 10], cK 300 wy, cN 300 fa, cK 300 fw, cN 301 as_, cK 2107 me, cI 401 fb, cI 300 nb, cK 4 wu, cI 200 fk, cI 512 nw, cN nA aw, cN nA at_] 0 0
          refine sq_ok rfl [(.ifCond .eq 5, 0, 0, 0)] 30 _ _ _ _ _ (by decide +kernel) ?_
          show ((bI b) = kI 0 → WM mX5_takeMade 0 0 Post 13 35 [(0, .ref 0), (1, vI (t : Int)), (2, vI (s : Int)), (3, vI (n : Int))] [] [ob 5 [vI (cnt : Int), .ref 1, .ref 2, .ref 3, .ref 4, .ref 11, .ref 12, vI (arcs : Int), vI (ln : Int), .ref 5, .ref 6, .ref 7, .ref 8, .ref 9, .ref 10], cK 300 wy, cN 300 fa, cK 300 fw, cN 301 as_, cK 2107 me, cI 401 fb, cI 300 nb, cK 4 wu, cI 200 fk, cI 512 nw, cN nA aw, cN nA at_] 0 0) ∧ (¬ (bI b) = kI 0 → WM mX5_takeMade 0 0 Post 13 33 [(0, .ref 0), (1, vI (t : Int)), (2, vI (s : Int)), (3, vI (n : Int))] [] [ob 5 [vI (cnt : Int), .ref 1, .ref 2, .ref 3, .ref 4, .ref 11, .ref 12, vI (arcs : Int), vI (ln : Int), .ref 5, .ref 6, .ref 7, .ref 8, .ref 9, .ref 10], cK 300 wy, cN 300 fa, cK 300 fw, cN 301 as_, cK 2107 me, cI 401 fb, cI 300 nb, cK 4 wu, cI 200 fk, cI 512 nw, cN nA aw, cN nA at_] 0 0)
          refine ⟨fun c30 => ?_, fun c30 => ?_⟩
          · 
            rw [bI_eq0] at c30
            refine sq_ok rfl [(.aload_n 0, 0, 0, 0), (.getfield 37, 5, 11, 0), (.iload_n 2, 0, 0, 0), (.iaload, 0, 0, 0)] 35 _ _ _ _ _ (by decide +kernel) ?_
            show ∃ j40 : Nat, mj 300 (kI (s : Int)) j40 ∧ WM mX5_takeMade 0 0 Post 13 41 [(0, .ref 0), (1, vI (t : Int)), (2, vI (s : Int)), (3, vI (n : Int))] [.int (kI (nb j40))] [ob 5 [vI (cnt : Int), .ref 1, .ref 2, .ref 3, .ref 4, .ref 11, .ref 12, vI (arcs : Int), vI (ln : Int), .ref 5, .ref 6, .ref 7, .ref 8, .ref 9, .ref 10], cK 300 wy, cN 300 fa, cK 300 fw, cN 301 as_, cK 2107 me, cI 401 fb, cI 300 nb, cK 4 wu, cI 200 fk, cI 512 nw, cN nA aw, cN nA at_] 0 0
            refine ⟨s, ⟨by omega, by omega, rfl⟩, ?_⟩
            have e11 : kI (nb s) = kI (oI (lstE lw t s)) := by rw [hC.2.1 s (by omega), hs4]
            rw [e11]
            refine sq_ok rfl [(.istore_n 2, 0, 0, 0), (.iinc 3 1, 0, 0, 0), (.goto (-31), 0, 0, 0)] 41 _ _ _ _ _ (by decide +kernel) ?_
            show WM mX5_takeMade 0 0 Post 13 14 [(0, .ref 0), (1, vI (t : Int)), (2, vI (oI (lstE lw t s))), (3, .int ((kI (n : Int)) + (kI 1)))] [] [ob 5 [vI (cnt : Int), .ref 1, .ref 2, .ref 3, .ref 4, .ref 11, .ref 12, vI (arcs : Int), vI (ln : Int), .ref 5, .ref 6, .ref 7, .ref 8, .ref 9, .ref 10], cK 300 wy, cN 300 fa, cK 300 fw, cN 301 as_, cK 2107 me, cI 401 fb, cI 300 nb, cK 4 wu, cI 200 fk, cI 512 nw, cN nA aw, cN nA at_] 0 0
            have e12 : ((kI (n : Int)) + (kI 1)) = kI (((n + 1) : Nat) : Int) := by first | (simp only [kI_add, kI_sub, kI_mul]; done) | (simp only [kI_add, kI_sub, kI_mul]; rfl)
            rw [e12]
            exact WM.pick [0, 1, 2, 3] rfl (ih14 s (n + 1) (by omega) (fun j h1 h2 => by rcases Nat.lt_or_ge j k with h3 | h3; rcases Nat.lt_or_ge s j with h4 | h4; (exact fun he => hs5 j h4 h3 (low_uniq (hlw j h1) (by rw [he]; exact ht))); (rw [show j = s by omega]; intro he; rw [hb.mpr he] at c30; cases c30); exact hq j h1 h3) (by omega))
          · 
            rw [bI_eq0] at c30
            refine sq_ok rfl [(.iload_n 2, 0, 0, 0), (.ireturn, 0, 0, 0)] 33 _ _ _ _ _ (by decide +kernel) ?_
            show ((0 ≤ 0 ∧ 0 ≤ 0) ∧ Post (some (vI (s : Int))) [ob 5 [vI (cnt : Int), .ref 1, .ref 2, .ref 3, .ref 4, .ref 11, .ref 12, vI (arcs : Int), vI (ln : Int), .ref 5, .ref 6, .ref 7, .ref 8, .ref 9, .ref 10], cK 300 wy, cN 300 fa, cK 300 fw, cN 301 as_, cK 2107 me, cI 401 fb, cI 300 nb, cK 4 wu, cI 200 fk, cI 512 nw, cN nA aw, cN nA at_])
            refine ⟨⟨Nat.le_refl _, Nat.le_refl _⟩, hPo _ _ ?_⟩
            have hbt : b = true := by simpa using c30
            exact Or.inl ⟨s, by omega, hb.mp hbt, rfl, rfl⟩
  exact WM.pick [0, 1, 2, 3] rfl (lp14 _ cnt 0 (by omega) (fun s h1 h2 => by omega) (Nat.lt_succ_self _))
