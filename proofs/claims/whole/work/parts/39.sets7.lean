/-! Sets: the ways -/
def tl (as_ at_ : Nat → Nat) (s : Nat) : List Nat := (List.range (as_ (s + 1) - as_ s)).map (fun k => at_ (as_ s + k))
def waE (me : Nat → Nat) (ln s : Nat) : Nat := if sB me s ln = true then 1 else 0
def waS (wy : Nat → Nat) (e : Nat) (l : List Nat) : Nat := l.foldl (fun a t => a + wy t) e
def stF (fa fw : Nat → Nat) (p : Nat × Nat) (t : Nat) : Nat × Nat := if p.1 < fa t + 1 then (fa t + 1, fw t) else if fa t + 1 = p.1 then (p.1, p.2 + fw t) else p
def foF (fa fw : Nat → Nat) (e : Nat) (l : List Nat) : Nat × Nat := l.foldl (stF fa fw) (0, e)
theorem fold_ext {α : Type} {f g : α → Nat → α} : ∀ {l : List Nat} {a : α}, (∀ t ∈ l, ∀ x, f x t = g x t) → l.foldl f a = l.foldl g a
  | [], _, _ => rfl
  | t :: l, a, h => by
    rw [List.foldl_cons, List.foldl_cons, h t List.mem_cons_self]
    exact fold_ext (fun u hu => h u (List.mem_cons_of_mem _ hu))
theorem foF_le {fa fw : Nat → Nat} {B : Nat} : ∀ {l : List Nat} {p : Nat × Nat}, p.1 ≤ B → (∀ t ∈ l, fa t + 1 ≤ B) → (l.foldl (stF fa fw) p).1 ≤ B
  | [], p, h, _ => h
  | t :: l, p, h, ht => by
    rw [List.foldl_cons]
    refine foF_le ?_ (fun u hu => ht u (List.mem_cons_of_mem _ hu))
    have := ht t List.mem_cons_self
    unfold stF
    split
    · exact this
    · split
      · exact h
      · exact h
theorem tl_step {as_ at_ : Nat → Nat} {s k : Nat} (h : as_ s ≤ k) : (List.range (k + 1 - as_ s)).map (fun j => at_ (as_ s + j)) = (List.range (k - as_ s)).map (fun j => at_ (as_ s + j)) ++ [at_ k] := by
  rw [show k + 1 - as_ s = (k - as_ s) + 1 by omega, List.range_succ, List.map_append]
  simp only [List.map_cons, List.map_nil]
  rw [show as_ s + (k - as_ s) = k by omega]
theorem tl_mem {as_ at_ : Nat → Nat} {s t : Nat} : t ∈ tl as_ at_ s ↔ ∃ k, as_ s ≤ k ∧ k < as_ (s + 1) ∧ at_ k = t := by
  unfold tl
  rw [List.mem_map]
  constructor
  · rintro ⟨j, h1, h2⟩
    have := List.mem_range.mp h1
    exact ⟨as_ s + j, by omega, by omega, h2⟩
  · rintro ⟨k, h1, h2, h3⟩
    exact ⟨k - as_ s, List.mem_range.mpr (by omega), by rw [show as_ s + (k - as_ s) = k by omega]; exact h3⟩
def eqW (me as_ at_ : Nat → Nat) (ln nn : Nat) (wy fa fw : Nat → Nat) (s : Nat) : Prop :=
  wy s = waS wy (waE me ln s) (tl as_ at_ s) ∧ (fa s, fw s) = foF fa fw (waE me ln s) (tl as_ at_ s) ∧ fa s + lwf (mS me s) < nn
theorem eqW_up {me as_ at_ : Nat → Nat} {ln nn : Nat} {wy fa fw : Nat → Nat} {s s2 a b c : Nat} (h : eqW me as_ at_ ln nn wy fa fw s2) (hne : s2 ≠ s) (ht : ∀ t ∈ tl as_ at_ s2, t ≠ s) : eqW me as_ at_ ln nn (va_up wy s a) (va_up fa s b) (va_up fw s c) s2 := by
  unfold eqW
  rw [up_ne _ _ hne, up_ne _ _ hne, up_ne _ _ hne]
  refine ⟨h.1.trans ?_, h.2.1.trans ?_, h.2.2⟩
  · exact fold_ext (fun t hm x => by rw [up_ne _ _ (ht t hm)])
  · exact fold_ext (fun t hm x => by unfold stF; rw [up_ne _ _ (ht t hm), up_ne _ _ (ht t hm)])
theorem eqW_new {me as_ at_ : Nat → Nat} {ln nn : Nat} {wy fa fw : Nat → Nat} {s : Nat} (ht : ∀ t ∈ tl as_ at_ s, t ≠ s) (hb : (foF fa fw (waE me ln s) (tl as_ at_ s)).1 + lwf (mS me s) < nn) : eqW me as_ at_ ln nn (va_up wy s (waS wy (waE me ln s) (tl as_ at_ s))) (va_up fa s (foF fa fw (waE me ln s) (tl as_ at_ s)).1) (va_up fw s (foF fa fw (waE me ln s) (tl as_ at_ s)).2) s := by
  unfold eqW
  rw [up_eq, up_eq, up_eq]
  refine ⟨?_, ?_, hb⟩
  · exact fold_ext (fun t hm x => by rw [up_ne _ _ (ht t hm)])
  · exact fold_ext (fun t hm x => by unfold stF; rw [up_ne _ _ (ht t hm), up_ne _ _ (ht t hm)])

set_option maxRecDepth 100000 in
set_option maxHeartbeats 500000 in
theorem c_X5_countWaysOf (cnt : Nat) (wy fa fw as_ aw at_ : Nat → Nat) (nA arcs ln : Nat) (me : Nat → Nat) (fb nb : Nat → Int) (wu : Nat → Nat) (fk nw : Nat → Int) (hme : ∀ j, me j < 18446744073709551616) (s : Nat) (hs : s < 300) (hln : ln < 401) (hA : as_ s ≤ as_ (s + 1) ∧ as_ (s + 1) ≤ nA) (hnA : nA < 2147483648) (hat : ∀ k, as_ s ≤ k → k < as_ (s + 1) → at_ k < 300 ∧ fa (at_ k) ≤ 401) : CT mX5_countWaysOf 0 0 [.ref 0, vI (s : Int)] [ob 5 [vI (cnt : Int), .ref 1, .ref 2, .ref 3, .ref 4, .ref 11, .ref 12, vI (arcs : Int), vI (ln : Int), .ref 5, .ref 6, .ref 7, .ref 8, .ref 9, .ref 10], cK 300 wy, cN 300 fa, cK 300 fw, cN 301 as_, cK 2107 me, cI 401 fb, cI 300 nb, cK 4 wu, cI 200 fk, cI 512 nw, cN nA aw, cN nA at_] (fun r w => r = none ∧ w = [ob 5 [vI (cnt : Int), .ref 1, .ref 2, .ref 3, .ref 4, .ref 11, .ref 12, vI (arcs : Int), vI (ln : Int), .ref 5, .ref 6, .ref 7, .ref 8, .ref 9, .ref 10], cK 300 (va_up wy s (waS wy (waE me ln s) (tl as_ at_ s))), cN 300 (va_up fa s (foF fa fw (waE me ln s) (tl as_ at_ s)).1), cK 300 (va_up fw s (foF fa fw (waE me ln s) (tl as_ at_ s)).2), cN 301 as_, cK 2107 me, cI 401 fb, cI 300 nb, cK 4 wu, cI 200 fk, cI 512 nw, cN nA aw, cN nA at_]) := by
  refine CT.intro rfl (Nat.le_of_ble_eq_true rfl) ?_
  generalize hPost : (fun r w => r = none ∧ w = [ob 5 [vI (cnt : Int), .ref 1, .ref 2, .ref 3, .ref 4, .ref 11, .ref 12, vI (arcs : Int), vI (ln : Int), .ref 5, .ref 6, .ref 7, .ref 8, .ref 9, .ref 10], cK 300 (va_up wy s (waS wy (waE me ln s) (tl as_ at_ s))), cN 300 (va_up fa s (foF fa fw (waE me ln s) (tl as_ at_ s)).1), cK 300 (va_up fw s (foF fa fw (waE me ln s) (tl as_ at_ s)).2), cN 301 as_, cK 2107 me, cI 401 fb, cI 300 nb, cK 4 wu, cI 200 fk, cI 512 nw, cN nA aw, cN nA at_] : MP) = Post
  have hPo : ∀ rr ww, (fun r w => r = none ∧ w = [ob 5 [vI (cnt : Int), .ref 1, .ref 2, .ref 3, .ref 4, .ref 11, .ref 12, vI (arcs : Int), vI (ln : Int), .ref 5, .ref 6, .ref 7, .ref 8, .ref 9, .ref 10], cK 300 (va_up wy s (waS wy (waE me ln s) (tl as_ at_ s))), cN 300 (va_up fa s (foF fa fw (waE me ln s) (tl as_ at_ s)).1), cK 300 (va_up fw s (foF fa fw (waE me ln s) (tl as_ at_ s)).2), cN 301 as_, cK 2107 me, cI 401 fb, cI 300 nb, cK 4 wu, cI 200 fk, cI 512 nw, cN nA aw, cN nA at_] : MP) rr ww → Post rr ww := by rw [← hPost]; exact fun _ _ h => h
  clear hPost
  show WM mX5_countWaysOf 0 0 Post 13 0 [(0, .ref 0), (1, vI (s : Int))] [] [ob 5 [vI (cnt : Int), .ref 1, .ref 2, .ref 3, .ref 4, .ref 11, .ref 12, vI (arcs : Int), vI (ln : Int), .ref 5, .ref 6, .ref 7, .ref 8, .ref 9, .ref 10], cK 300 wy, cN 300 fa, cK 300 fw, cN 301 as_, cK 2107 me, cI 401 fb, cI 300 nb, cK 4 wu, cI 200 fk, cI 512 nw, cN nA aw, cN nA at_] 0 0
  refine sq_ok rfl [(.aload_n 0, 0, 0, 0), (.iload_n 1, 0, 0, 0)] 0 _ _ _ _ _ (by decide +kernel) ?_
  show WM mX5_countWaysOf 0 0 Post 13 2 [(0, .ref 0), (1, vI (s : Int))] [vI (s : Int), .ref 0] [ob 5 [vI (cnt : Int), .ref 1, .ref 2, .ref 3, .ref 4, .ref 11, .ref 12, vI (arcs : Int), vI (ln : Int), .ref 5, .ref 6, .ref 7, .ref 8, .ref 9, .ref 10], cK 300 wy, cN 300 fa, cK 300 fw, cN 301 as_, cK 2107 me, cI 401 fb, cI 300 nb, cK 4 wu, cI 200 fk, cI 512 nw, cN nA aw, cN nA at_] 0 0
  refine wm_callV (y := mX5_countWaysOf) mX5_endsAt [0, 1, 2, 3, 4, 5, 6, 7, 8, 9, 10, 11, 12] (pc := 2) (rest := []) (mc' := 0) (ms' := 0) (by decide +kernel) kX5_162 (c_X5_endsAt cnt wy fa fw as_ aw at_ nA arcs ln me fb nb wu fk nw hme s (by omega) hln) rfl rfl ⟨_, rfl, rfl⟩ ⟨Nat.le_of_ble_eq_true rfl, Nat.le_of_ble_eq_true rfl⟩ ⟨Nat.le_of_ble_eq_true rfl, Nat.le_of_ble_eq_true rfl⟩ (Nat.le_of_ble_eq_true rfl) rfl rfl (Nat.le_of_ble_eq_true rfl) rfl ?_
  rintro _ _ ⟨rfl, rfl⟩
  show WM mX5_countWaysOf 0 0 Post 13 5 [(0, .ref 0), (1, vI (s : Int))] [vZ (sB me s ln)] [ob 5 [vI (cnt : Int), .ref 1, .ref 2, .ref 3, .ref 4, .ref 11, .ref 12, vI (arcs : Int), vI (ln : Int), .ref 5, .ref 6, .ref 7, .ref 8, .ref 9, .ref 10], cK 300 wy, cN 300 fa, cK 300 fw, cN 301 as_, cK 2107 me, cI 401 fb, cI 300 nb, cK 4 wu, cI 200 fk, cI 512 nw, cN nA aw, cN nA at_] 0 0
  refine sq_ok rfl [(.ifCond .eq 7, 0, 0, 0)] 5 _ _ _ _ _ (by decide +kernel) ?_
  show ((bI (sB me s ln)) = kI 0 → WM mX5_countWaysOf 0 0 Post 13 12 [(0, .ref 0), (1, vI (s : Int))] [] [ob 5 [vI (cnt : Int), .ref 1, .ref 2, .ref 3, .ref 4, .ref 11, .ref 12, vI (arcs : Int), vI (ln : Int), .ref 5, .ref 6, .ref 7, .ref 8, .ref 9, .ref 10], cK 300 wy, cN 300 fa, cK 300 fw, cN 301 as_, cK 2107 me, cI 401 fb, cI 300 nb, cK 4 wu, cI 200 fk, cI 512 nw, cN nA aw, cN nA at_] 0 0) ∧ (¬ (bI (sB me s ln)) = kI 0 → WM mX5_countWaysOf 0 0 Post 13 8 [(0, .ref 0), (1, vI (s : Int))] [] [ob 5 [vI (cnt : Int), .ref 1, .ref 2, .ref 3, .ref 4, .ref 11, .ref 12, vI (arcs : Int), vI (ln : Int), .ref 5, .ref 6, .ref 7, .ref 8, .ref 9, .ref 10], cK 300 wy, cN 300 fa, cK 300 fw, cN 301 as_, cK 2107 me, cI 401 fb, cI 300 nb, cK 4 wu, cI 200 fk, cI 512 nw, cN nA aw, cN nA at_] 0 0)
  refine ⟨fun c5 => ?_, fun c5 => ?_⟩
  · 
    rw [bI_eq0] at c5
    refine sq_ok rfl [(.lconst 0, 0, 0, 0), (.lstore_n 2, 0, 0, 0), (.iconst 0, 0, 0, 0), (.istore 4, 0, 0, 0), (.lload_n 2, 0, 0, 0), (.lstore 5, 0, 0, 0), (.aload_n 0, 0, 0, 0), (.getfield 22, 5, 4, 0), (.iload_n 1, 0, 0, 0), (.iaload, 0, 0, 0), (.istore 7, 0, 0, 0)] 12 _ _ _ _ _ (by decide +kernel) ?_
    show ∃ j25 : Nat, mj 301 (kI (s : Int)) j25 ∧ WM mX5_countWaysOf 0 0 Post 13 28 [(0, .ref 0), (1, vI (s : Int)), (2, vJ 0), (4, vI 0), (5, vJ 0), (7, vI ((as_ j25 : Nat) : Int))] [] [ob 5 [vI (cnt : Int), .ref 1, .ref 2, .ref 3, .ref 4, .ref 11, .ref 12, vI (arcs : Int), vI (ln : Int), .ref 5, .ref 6, .ref 7, .ref 8, .ref 9, .ref 10], cK 300 wy, cN 300 fa, cK 300 fw, cN 301 as_, cK 2107 me, cI 401 fb, cI 300 nb, cK 4 wu, cI 200 fk, cI 512 nw, cN nA aw, cN nA at_] 0 0
    refine ⟨s, ⟨by omega, by omega, rfl⟩, ?_⟩
    have lp28 : ∀ (n28 : Nat) (al : Nat) (fz : Nat) (wz : Nat) (k : Nat), (as_ s ≤ k ∧ k ≤ as_ (s + 1)) → (al = waS wy (waE me ln s) ((List.range (k - as_ s)).map (fun j => at_ (as_ s + j)))) → ((fz, wz) = foF fa fw (waE me ln s) ((List.range (k - as_ s)).map (fun j => at_ (as_ s + j)))) → (fz ≤ 402) → (as_ (s + 1) - k) < n28 → WM mX5_countWaysOf 0 0 Post 13 28 [(0, .ref 0), (1, vI (s : Int)), (2, vJ (al : Int)), (4, vI (fz : Int)), (5, vJ (wz : Int)), (7, vI (k : Int))] [] [ob 5 [vI (cnt : Int), .ref 1, .ref 2, .ref 3, .ref 4, .ref 11, .ref 12, vI (arcs : Int), vI (ln : Int), .ref 5, .ref 6, .ref 7, .ref 8, .ref 9, .ref 10], cK 300 wy, cN 300 fa, cK 300 fw, cN 301 as_, cK 2107 me, cI 401 fb, cI 300 nb, cK 4 wu, cI 200 fk, cI 512 nw, cN nA aw, cN nA at_] 0 0 := by
      intro n28
      induction n28 with
      | zero => intro al fz wz k hk ha hf hfz hm; exact absurd hm (Nat.not_lt_zero _)
      | succ n28 ih28 =>
        intro al fz wz k hk ha hf hfz hm28
        refine sq_ok rfl [(.iload 7, 0, 0, 0), (.aload_n 0, 0, 0, 0), (.getfield 22, 5, 4, 0), (.iload_n 1, 0, 0, 0), (.iconst 1, 0, 0, 0), (.iadd, 0, 0, 0), (.iaload, 0, 0, 0), (.if_icmp .ge 91, 0, 0, 0)] 28 _ _ _ _ _ (by decide +kernel) ?_
        show ∃ j37 : Nat, mj 301 ((kI (s : Int)) + (kI 1)) j37 ∧ (kI ((as_ j37 : Nat) : Int) ≤ kI (k : Int) → WM mX5_countWaysOf 0 0 Post 13 129 [(0, .ref 0), (1, vI (s : Int)), (2, vJ (al : Int)), (4, vI (fz : Int)), (5, vJ (wz : Int)), (7, vI (k : Int))] [] [ob 5 [vI (cnt : Int), .ref 1, .ref 2, .ref 3, .ref 4, .ref 11, .ref 12, vI (arcs : Int), vI (ln : Int), .ref 5, .ref 6, .ref 7, .ref 8, .ref 9, .ref 10], cK 300 wy, cN 300 fa, cK 300 fw, cN 301 as_, cK 2107 me, cI 401 fb, cI 300 nb, cK 4 wu, cI 200 fk, cI 512 nw, cN nA aw, cN nA at_] 0 0) ∧ (¬ kI ((as_ j37 : Nat) : Int) ≤ kI (k : Int) → WM mX5_countWaysOf 0 0 Post 13 41 [(0, .ref 0), (1, vI (s : Int)), (2, vJ (al : Int)), (4, vI (fz : Int)), (5, vJ (wz : Int)), (7, vI (k : Int))] [] [ob 5 [vI (cnt : Int), .ref 1, .ref 2, .ref 3, .ref 4, .ref 11, .ref 12, vI (arcs : Int), vI (ln : Int), .ref 5, .ref 6, .ref 7, .ref 8, .ref 9, .ref 10], cK 300 wy, cN 300 fa, cK 300 fw, cN 301 as_, cK 2107 me, cI 401 fb, cI 300 nb, cK 4 wu, cI 200 fk, cI 512 nw, cN nA aw, cN nA at_] 0 0)
        refine ⟨(s + 1), ⟨by omega, by omega, by rw [kI_add]; rfl⟩, ?_⟩
        refine ⟨fun c38 => ?_, fun c38 => ?_⟩
        · 
          rw [kI_le (by omega)] at c38
          refine sq_ok rfl [(.aload_n 0, 0, 0, 0), (.getfield 9, 5, 1, 0), (.iload_n 1, 0, 0, 0), (.lload_n 2, 0, 0, 0), (.lastore, 0, 0, 0)] 129 _ _ _ _ _ (by decide +kernel) ?_
          show ∃ (j135 : Nat) (g135 : Nat → Int64), (mj 300 (kI (s : Int)) j135 ∧ g135 = vp_updL (fun q => kL ((wy q : Nat) : Int)) j135 (kL (al : Int))) ∧ WM mX5_countWaysOf 0 0 Post 13 136 [(0, .ref 0), (1, vI (s : Int)), (2, vJ (al : Int)), (4, vI (fz : Int)), (5, vJ (wz : Int)), (7, vI (k : Int))] [] [ob 5 [vI (cnt : Int), .ref 1, .ref 2, .ref 3, .ref 4, .ref 11, .ref 12, vI (arcs : Int), vI (ln : Int), .ref 5, .ref 6, .ref 7, .ref 8, .ref 9, .ref 10], .inl (1, 300, .inr (.inl g135)), cN 300 fa, cK 300 fw, cN 301 as_, cK 2107 me, cI 401 fb, cI 300 nb, cK 4 wu, cI 200 fk, cI 512 nw, cN nA aw, cN nA at_] 0 0
          refine ⟨s, fun q => kL (((va_up wy s al) q : Nat) : Int), ⟨⟨by omega, by omega, rfl⟩, st_K (rfl)⟩, ?_⟩
          refine sq_ok rfl [(.aload_n 0, 0, 0, 0), (.getfield 15, 5, 2, 0), (.iload_n 1, 0, 0, 0), (.iload 4, 0, 0, 0), (.iastore, 0, 0, 0)] 136 _ _ _ _ _ (by decide +kernel) ?_
          show ∃ (j143 : Nat) (g143 : Nat → Int32), (mj 300 (kI (s : Int)) j143 ∧ g143 = upd (fun q => kI ((fa q : Nat) : Int)) j143 (kI (fz : Int))) ∧ WM mX5_countWaysOf 0 0 Post 13 144 [(0, .ref 0), (1, vI (s : Int)), (2, vJ (al : Int)), (4, vI (fz : Int)), (5, vJ (wz : Int)), (7, vI (k : Int))] [] [ob 5 [vI (cnt : Int), .ref 1, .ref 2, .ref 3, .ref 4, .ref 11, .ref 12, vI (arcs : Int), vI (ln : Int), .ref 5, .ref 6, .ref 7, .ref 8, .ref 9, .ref 10], cK 300 (va_up wy s al), .inl (0, 300, .inl g143), cK 300 fw, cN 301 as_, cK 2107 me, cI 401 fb, cI 300 nb, cK 4 wu, cI 200 fk, cI 512 nw, cN nA aw, cN nA at_] 0 0
          refine ⟨s, fun q => kI (((va_up fa s fz) q : Nat) : Int), ⟨⟨by omega, by omega, rfl⟩, st_N (rfl)⟩, ?_⟩
          refine sq_ok rfl [(.aload_n 0, 0, 0, 0), (.getfield 19, 5, 3, 0), (.iload_n 1, 0, 0, 0), (.lload 5, 0, 0, 0), (.lastore, 0, 0, 0)] 144 _ _ _ _ _ (by decide +kernel) ?_
          show ∃ (j151 : Nat) (g151 : Nat → Int64), (mj 300 (kI (s : Int)) j151 ∧ g151 = vp_updL (fun q => kL ((fw q : Nat) : Int)) j151 (kL (wz : Int))) ∧ WM mX5_countWaysOf 0 0 Post 13 152 [(0, .ref 0), (1, vI (s : Int)), (2, vJ (al : Int)), (4, vI (fz : Int)), (5, vJ (wz : Int)), (7, vI (k : Int))] [] [ob 5 [vI (cnt : Int), .ref 1, .ref 2, .ref 3, .ref 4, .ref 11, .ref 12, vI (arcs : Int), vI (ln : Int), .ref 5, .ref 6, .ref 7, .ref 8, .ref 9, .ref 10], cK 300 (va_up wy s al), cN 300 (va_up fa s fz), .inl (1, 300, .inr (.inl g151)), cN 301 as_, cK 2107 me, cI 401 fb, cI 300 nb, cK 4 wu, cI 200 fk, cI 512 nw, cN nA aw, cN nA at_] 0 0
          refine ⟨s, fun q => kL (((va_up fw s wz) q : Nat) : Int), ⟨⟨by omega, by omega, rfl⟩, st_K (rfl)⟩, ?_⟩
          refine sq_ok rfl [(.return_, 0, 0, 0)] 152 _ _ _ _ _ (by decide +kernel) ?_
          show ((0 ≤ 0 ∧ 0 ≤ 0) ∧ Post none [ob 5 [vI (cnt : Int), .ref 1, .ref 2, .ref 3, .ref 4, .ref 11, .ref 12, vI (arcs : Int), vI (ln : Int), .ref 5, .ref 6, .ref 7, .ref 8, .ref 9, .ref 10], cK 300 (va_up wy s al), cN 300 (va_up fa s fz), cK 300 (va_up fw s wz), cN 301 as_, cK 2107 me, cI 401 fb, cI 300 nb, cK 4 wu, cI 200 fk, cI 512 nw, cN nA aw, cN nA at_])
          refine ⟨⟨Nat.le_refl _, Nat.le_refl _⟩, hPo _ _ ?_⟩
          have e : k = as_ (s + 1) := by omega
          rw [e] at ha hf
          have hf1 := congrArg Prod.fst hf
          have hf3 := congrArg Prod.snd hf
          refine ⟨rfl, ?_⟩
          rw [show tl as_ at_ s = (List.range (as_ (s + 1) - as_ s)).map (fun j => at_ (as_ s + j)) from rfl, ← ha, ← hf1, ← hf3]
        · 
          rw [kI_le (by omega)] at c38
          obtain ⟨ht1, ht2⟩ := hat k (by omega) (by omega)
          have hts := tl_step (at_ := at_) hk.1
          have ha2 : al + wy (at_ k) = waS wy (waE me ln s) ((List.range (k + 1 - as_ s)).map (fun j => at_ (as_ s + j))) := by rw [hts]; unfold waS; rw [List.foldl_append]; show _ = List.foldl _ _ _ + _; rw [ha]; rfl
          have hf2 : stF fa fw (fz, wz) (at_ k) = foF fa fw (waE me ln s) ((List.range (k + 1 - as_ s)).map (fun j => at_ (as_ s + j))) := by rw [hts, hf]; unfold foF; rw [List.foldl_append]; rfl
          unfold stF at hf2
          refine sq_ok rfl [(.aload_n 0, 0, 0, 0), (.getfield 28, 5, 6, 0), (.iload 7, 0, 0, 0), (.iaload, 0, 0, 0), (.istore 8, 0, 0, 0), (.lload_n 2, 0, 0, 0), (.aload_n 0, 0, 0, 0), (.getfield 9, 5, 1, 0), (.iload 8, 0, 0, 0), (.laload, 0, 0, 0), (.ladd, 0, 0, 0), (.lstore_n 2, 0, 0, 0), (.aload_n 0, 0, 0, 0), (.getfield 15, 5, 2, 0), (.iload 8, 0, 0, 0), (.iaload, 0, 0, 0), (.iconst 1, 0, 0, 0), (.iadd, 0, 0, 0), (.iload 4, 0, 0, 0), (.if_icmp .le 26, 0, 0, 0)] 41 _ _ _ _ _ (by decide +kernel) ?_
          show ∃ j47 : Nat, mj nA (kI (k : Int)) j47 ∧ ∃ j57 : Nat, mj 300 (kI ((at_ j47 : Nat) : Int)) j57 ∧ ∃ j66 : Nat, mj 300 (kI ((at_ j47 : Nat) : Int)) j66 ∧ (((kI ((fa j66 : Nat) : Int)) + (kI 1)) ≤ kI (fz : Int) → WM mX5_countWaysOf 0 0 Post 13 97 [(0, .ref 0), (1, vI (s : Int)), (2, .long ((kL (al : Int)) + (kL ((wy j57 : Nat) : Int)))), (4, vI (fz : Int)), (5, vJ (wz : Int)), (7, vI (k : Int)), (8, vI ((at_ j47 : Nat) : Int))] [] [ob 5 [vI (cnt : Int), .ref 1, .ref 2, .ref 3, .ref 4, .ref 11, .ref 12, vI (arcs : Int), vI (ln : Int), .ref 5, .ref 6, .ref 7, .ref 8, .ref 9, .ref 10], cK 300 wy, cN 300 fa, cK 300 fw, cN 301 as_, cK 2107 me, cI 401 fb, cI 300 nb, cK 4 wu, cI 200 fk, cI 512 nw, cN nA aw, cN nA at_] 0 0) ∧ (¬ ((kI ((fa j66 : Nat) : Int)) + (kI 1)) ≤ kI (fz : Int) → WM mX5_countWaysOf 0 0 Post 13 74 [(0, .ref 0), (1, vI (s : Int)), (2, .long ((kL (al : Int)) + (kL ((wy j57 : Nat) : Int)))), (4, vI (fz : Int)), (5, vJ (wz : Int)), (7, vI (k : Int)), (8, vI ((at_ j47 : Nat) : Int))] [] [ob 5 [vI (cnt : Int), .ref 1, .ref 2, .ref 3, .ref 4, .ref 11, .ref 12, vI (arcs : Int), vI (ln : Int), .ref 5, .ref 6, .ref 7, .ref 8, .ref 9, .ref 10], cK 300 wy, cN 300 fa, cK 300 fw, cN 301 as_, cK 2107 me, cI 401 fb, cI 300 nb, cK 4 wu, cI 200 fk, cI 512 nw, cN nA aw, cN nA at_] 0 0)
          refine ⟨k, ⟨by omega, by omega, rfl⟩, ?_⟩
          refine ⟨(at_ k), ⟨by omega, by omega, rfl⟩, ?_⟩
          refine ⟨(at_ k), ⟨by omega, by omega, rfl⟩, ?_⟩
          have e3 : ((kL (al : Int)) + (kL ((wy (at_ k) : Nat) : Int))) = kL (((al + (wy (at_ k))) : Nat) : Int) := by first | (simp only [kL_add, kL_sub, kL_mul]; done) | (simp only [kL_add, kL_sub, kL_mul]; rfl)
          rw [e3]
          have e4 : ((kI ((fa (at_ k) : Nat) : Int)) + (kI 1)) = kI ((((fa (at_ k)) + 1) : Nat) : Int) := by first | (simp only [kI_add, kI_sub, kI_mul]; done) | (simp only [kI_add, kI_sub, kI_mul]; rfl)
          rw [e4]
          refine ⟨fun c71 => ?_, fun c71 => ?_⟩
          · 
            rw [kI_le (by omega)] at c71
            refine sq_ok rfl [(.aload_n 0, 0, 0, 0), (.getfield 15, 5, 2, 0), (.iload 8, 0, 0, 0), (.iaload, 0, 0, 0), (.iconst 1, 0, 0, 0), (.iadd, 0, 0, 0), (.iload 4, 0, 0, 0), (.if_icmp .ne 15, 0, 0, 0)] 97 _ _ _ _ _ (by decide +kernel) ?_
            show ∃ j103 : Nat, mj 300 (kI ((at_ k : Nat) : Int)) j103 ∧ (¬ ((kI ((fa j103 : Nat) : Int)) + (kI 1)) = kI (fz : Int) → WM mX5_countWaysOf 0 0 Post 13 123 [(0, .ref 0), (1, vI (s : Int)), (2, vJ (((al + (wy (at_ k))) : Nat) : Int)), (4, vI (fz : Int)), (5, vJ (wz : Int)), (7, vI (k : Int)), (8, vI ((at_ k : Nat) : Int))] [] [ob 5 [vI (cnt : Int), .ref 1, .ref 2, .ref 3, .ref 4, .ref 11, .ref 12, vI (arcs : Int), vI (ln : Int), .ref 5, .ref 6, .ref 7, .ref 8, .ref 9, .ref 10], cK 300 wy, cN 300 fa, cK 300 fw, cN 301 as_, cK 2107 me, cI 401 fb, cI 300 nb, cK 4 wu, cI 200 fk, cI 512 nw, cN nA aw, cN nA at_] 0 0) ∧ (((kI ((fa j103 : Nat) : Int)) + (kI 1)) = kI (fz : Int) → WM mX5_countWaysOf 0 0 Post 13 111 [(0, .ref 0), (1, vI (s : Int)), (2, vJ (((al + (wy (at_ k))) : Nat) : Int)), (4, vI (fz : Int)), (5, vJ (wz : Int)), (7, vI (k : Int)), (8, vI ((at_ k : Nat) : Int))] [] [ob 5 [vI (cnt : Int), .ref 1, .ref 2, .ref 3, .ref 4, .ref 11, .ref 12, vI (arcs : Int), vI (ln : Int), .ref 5, .ref 6, .ref 7, .ref 8, .ref 9, .ref 10], cK 300 wy, cN 300 fa, cK 300 fw, cN 301 as_, cK 2107 me, cI 401 fb, cI 300 nb, cK 4 wu, cI 200 fk, cI 512 nw, cN nA aw, cN nA at_] 0 0)
            refine ⟨(at_ k), ⟨by omega, by omega, rfl⟩, ?_⟩
            have e6 : ((kI ((fa (at_ k) : Nat) : Int)) + (kI 1)) = kI ((((fa (at_ k)) + 1) : Nat) : Int) := by first | (simp only [kI_add, kI_sub, kI_mul]; done) | (simp only [kI_add, kI_sub, kI_mul]; rfl)
            rw [e6]
            refine ⟨fun c108 => ?_, fun c108 => ?_⟩
            · 
              rw [kI_eq (by omega)] at c108
              refine sq_ok rfl [(.iinc 7 1, 0, 0, 0), (.goto (-98), 0, 0, 0)] 123 _ _ _ _ _ (by decide +kernel) ?_
              show WM mX5_countWaysOf 0 0 Post 13 28 [(0, .ref 0), (1, vI (s : Int)), (2, vJ (((al + (wy (at_ k))) : Nat) : Int)), (4, vI (fz : Int)), (5, vJ (wz : Int)), (7, .int ((kI (k : Int)) + (kI 1))), (8, vI ((at_ k : Nat) : Int))] [] [ob 5 [vI (cnt : Int), .ref 1, .ref 2, .ref 3, .ref 4, .ref 11, .ref 12, vI (arcs : Int), vI (ln : Int), .ref 5, .ref 6, .ref 7, .ref 8, .ref 9, .ref 10], cK 300 wy, cN 300 fa, cK 300 fw, cN 301 as_, cK 2107 me, cI 401 fb, cI 300 nb, cK 4 wu, cI 200 fk, cI 512 nw, cN nA aw, cN nA at_] 0 0
              have e8 : ((kI (k : Int)) + (kI 1)) = kI (((k + 1) : Nat) : Int) := by first | (simp only [kI_add, kI_sub, kI_mul]; done) | (simp only [kI_add, kI_sub, kI_mul]; rfl)
              rw [e8]
              exact WM.pick [0, 1, 2, 3, 4, 5] rfl (ih28 (al + (wy (at_ k))) fz wz (k + 1) (by omega) ha2 (by first | (rw [if_pos (by omega)] at hf2; exact hf2) | (rw [if_neg (by omega), if_pos (by omega)] at hf2; exact hf2) | (rw [if_neg (by omega), if_neg (by omega)] at hf2; exact hf2)) (by omega) (by omega))
            · 
              rw [kI_eq (by omega)] at c108
              refine sq_ok rfl [(.lload 5, 0, 0, 0), (.aload_n 0, 0, 0, 0), (.getfield 19, 5, 3, 0), (.iload 8, 0, 0, 0), (.laload, 0, 0, 0), (.ladd, 0, 0, 0), (.lstore 5, 0, 0, 0), (.iinc 7 1, 0, 0, 0), (.goto (-98), 0, 0, 0)] 111 _ _ _ _ _ (by decide +kernel) ?_
              show ∃ j119 : Nat, mj 300 (kI ((at_ k : Nat) : Int)) j119 ∧ WM mX5_countWaysOf 0 0 Post 13 28 [(0, .ref 0), (1, vI (s : Int)), (2, vJ (((al + (wy (at_ k))) : Nat) : Int)), (4, vI (fz : Int)), (5, .long ((kL (wz : Int)) + (kL ((fw j119 : Nat) : Int)))), (7, .int ((kI (k : Int)) + (kI 1))), (8, vI ((at_ k : Nat) : Int))] [] [ob 5 [vI (cnt : Int), .ref 1, .ref 2, .ref 3, .ref 4, .ref 11, .ref 12, vI (arcs : Int), vI (ln : Int), .ref 5, .ref 6, .ref 7, .ref 8, .ref 9, .ref 10], cK 300 wy, cN 300 fa, cK 300 fw, cN 301 as_, cK 2107 me, cI 401 fb, cI 300 nb, cK 4 wu, cI 200 fk, cI 512 nw, cN nA aw, cN nA at_] 0 0
              refine ⟨(at_ k), ⟨by omega, by omega, rfl⟩, ?_⟩
              have e9 : ((kL (wz : Int)) + (kL ((fw (at_ k) : Nat) : Int))) = kL (((wz + (fw (at_ k))) : Nat) : Int) := by first | (simp only [kL_add, kL_sub, kL_mul]; done) | (simp only [kL_add, kL_sub, kL_mul]; rfl)
              rw [e9]
              have e10 : ((kI (k : Int)) + (kI 1)) = kI (((k + 1) : Nat) : Int) := by first | (simp only [kI_add, kI_sub, kI_mul]; done) | (simp only [kI_add, kI_sub, kI_mul]; rfl)
              rw [e10]
              exact WM.pick [0, 1, 2, 3, 4, 5] rfl (ih28 (al + (wy (at_ k))) fz (wz + (fw (at_ k))) (k + 1) (by omega) ha2 (by first | (rw [if_pos (by omega)] at hf2; exact hf2) | (rw [if_neg (by omega), if_pos (by omega)] at hf2; exact hf2) | (rw [if_neg (by omega), if_neg (by omega)] at hf2; exact hf2)) (by omega) (by omega))
          · 
            rw [kI_le (by omega)] at c71
            refine sq_ok rfl [(.aload_n 0, 0, 0, 0), (.getfield 15, 5, 2, 0), (.iload 8, 0, 0, 0), (.iaload, 0, 0, 0), (.iconst 1, 0, 0, 0), (.iadd, 0, 0, 0), (.istore 4, 0, 0, 0), (.aload_n 0, 0, 0, 0), (.getfield 19, 5, 3, 0), (.iload 8, 0, 0, 0), (.laload, 0, 0, 0), (.lstore 5, 0, 0, 0), (.goto 29, 0, 0, 0)] 74 _ _ _ _ _ (by decide +kernel) ?_
            show ∃ j80 : Nat, mj 300 (kI ((at_ k : Nat) : Int)) j80 ∧ ∃ j91 : Nat, mj 300 (kI ((at_ k : Nat) : Int)) j91 ∧ WM mX5_countWaysOf 0 0 Post 13 123 [(0, .ref 0), (1, vI (s : Int)), (2, vJ (((al + (wy (at_ k))) : Nat) : Int)), (4, .int ((kI ((fa j80 : Nat) : Int)) + (kI 1))), (5, vJ ((fw j91 : Nat) : Int)), (7, vI (k : Int)), (8, vI ((at_ k : Nat) : Int))] [] [ob 5 [vI (cnt : Int), .ref 1, .ref 2, .ref 3, .ref 4, .ref 11, .ref 12, vI (arcs : Int), vI (ln : Int), .ref 5, .ref 6, .ref 7, .ref 8, .ref 9, .ref 10], cK 300 wy, cN 300 fa, cK 300 fw, cN 301 as_, cK 2107 me, cI 401 fb, cI 300 nb, cK 4 wu, cI 200 fk, cI 512 nw, cN nA aw, cN nA at_] 0 0
            refine ⟨(at_ k), ⟨by omega, by omega, rfl⟩, ?_⟩
            refine ⟨(at_ k), ⟨by omega, by omega, rfl⟩, ?_⟩
            have e11 : ((kI ((fa (at_ k) : Nat) : Int)) + (kI 1)) = kI ((((fa (at_ k)) + 1) : Nat) : Int) := by first | (simp only [kI_add, kI_sub, kI_mul]; done) | (simp only [kI_add, kI_sub, kI_mul]; rfl)
            rw [e11]
            refine sq_ok rfl [(.iinc 7 1, 0, 0, 0), (.goto (-98), 0, 0, 0)] 123 _ _ _ _ _ (by decide +kernel) ?_
            show WM mX5_countWaysOf 0 0 Post 13 28 [(0, .ref 0), (1, vI (s : Int)), (2, vJ (((al + (wy (at_ k))) : Nat) : Int)), (4, vI ((((fa (at_ k)) + 1) : Nat) : Int)), (5, vJ ((fw (at_ k) : Nat) : Int)), (7, .int ((kI (k : Int)) + (kI 1))), (8, vI ((at_ k : Nat) : Int))] [] [ob 5 [vI (cnt : Int), .ref 1, .ref 2, .ref 3, .ref 4, .ref 11, .ref 12, vI (arcs : Int), vI (ln : Int), .ref 5, .ref 6, .ref 7, .ref 8, .ref 9, .ref 10], cK 300 wy, cN 300 fa, cK 300 fw, cN 301 as_, cK 2107 me, cI 401 fb, cI 300 nb, cK 4 wu, cI 200 fk, cI 512 nw, cN nA aw, cN nA at_] 0 0
            have e12 : ((kI (k : Int)) + (kI 1)) = kI (((k + 1) : Nat) : Int) := by first | (simp only [kI_add, kI_sub, kI_mul]; done) | (simp only [kI_add, kI_sub, kI_mul]; rfl)
            rw [e12]
            exact WM.pick [0, 1, 2, 3, 4, 5] rfl (ih28 (al + (wy (at_ k))) ((fa (at_ k)) + 1) (fw (at_ k)) (k + 1) (by omega) ha2 (by first | (rw [if_pos (by omega)] at hf2; exact hf2) | (rw [if_neg (by omega), if_pos (by omega)] at hf2; exact hf2) | (rw [if_neg (by omega), if_neg (by omega)] at hf2; exact hf2)) (by omega) (by omega))
    exact WM.pick [0, 1, 2, 3, 4, 5] rfl (lp28 _ 0 0 0 (as_ s) (by omega) (by rw [Nat.sub_self]; show _ = waE me ln s; unfold waE; first | rw [if_pos (by simpa using c5)] | rw [if_neg (by simpa using c5)]) (by rw [Nat.sub_self]; show _ = (0, waE me ln s); unfold waE; first | rw [if_pos (by simpa using c5)] | rw [if_neg (by simpa using c5)]) (by omega) (Nat.lt_succ_self _))
  · 
    rw [bI_eq0] at c5
    refine sq_ok rfl [(.lconst 1, 0, 0, 0), (.goto 4, 0, 0, 0)] 8 _ _ _ _ _ (by decide +kernel) ?_
    show WM mX5_countWaysOf 0 0 Post 13 13 [(0, .ref 0), (1, vI (s : Int))] [vJ 1] [ob 5 [vI (cnt : Int), .ref 1, .ref 2, .ref 3, .ref 4, .ref 11, .ref 12, vI (arcs : Int), vI (ln : Int), .ref 5, .ref 6, .ref 7, .ref 8, .ref 9, .ref 10], cK 300 wy, cN 300 fa, cK 300 fw, cN 301 as_, cK 2107 me, cI 401 fb, cI 300 nb, cK 4 wu, cI 200 fk, cI 512 nw, cN nA aw, cN nA at_] 0 0
    refine sq_ok rfl [(.lstore_n 2, 0, 0, 0), (.iconst 0, 0, 0, 0), (.istore 4, 0, 0, 0), (.lload_n 2, 0, 0, 0), (.lstore 5, 0, 0, 0), (.aload_n 0, 0, 0, 0), (.getfield 22, 5, 4, 0), (.iload_n 1, 0, 0, 0), (.iaload, 0, 0, 0), (.istore 7, 0, 0, 0)] 13 _ _ _ _ _ (by decide +kernel) ?_
    show ∃ j25 : Nat, mj 301 (kI (s : Int)) j25 ∧ WM mX5_countWaysOf 0 0 Post 13 28 [(0, .ref 0), (1, vI (s : Int)), (2, vJ 1), (4, vI 0), (5, vJ 1), (7, vI ((as_ j25 : Nat) : Int))] [] [ob 5 [vI (cnt : Int), .ref 1, .ref 2, .ref 3, .ref 4, .ref 11, .ref 12, vI (arcs : Int), vI (ln : Int), .ref 5, .ref 6, .ref 7, .ref 8, .ref 9, .ref 10], cK 300 wy, cN 300 fa, cK 300 fw, cN 301 as_, cK 2107 me, cI 401 fb, cI 300 nb, cK 4 wu, cI 200 fk, cI 512 nw, cN nA aw, cN nA at_] 0 0
    refine ⟨s, ⟨by omega, by omega, rfl⟩, ?_⟩
    have lp28 : ∀ (n28 : Nat) (al : Nat) (fz : Nat) (wz : Nat) (k : Nat), (as_ s ≤ k ∧ k ≤ as_ (s + 1)) → (al = waS wy (waE me ln s) ((List.range (k - as_ s)).map (fun j => at_ (as_ s + j)))) → ((fz, wz) = foF fa fw (waE me ln s) ((List.range (k - as_ s)).map (fun j => at_ (as_ s + j)))) → (fz ≤ 402) → (as_ (s + 1) - k) < n28 → WM mX5_countWaysOf 0 0 Post 13 28 [(0, .ref 0), (1, vI (s : Int)), (2, vJ (al : Int)), (4, vI (fz : Int)), (5, vJ (wz : Int)), (7, vI (k : Int))] [] [ob 5 [vI (cnt : Int), .ref 1, .ref 2, .ref 3, .ref 4, .ref 11, .ref 12, vI (arcs : Int), vI (ln : Int), .ref 5, .ref 6, .ref 7, .ref 8, .ref 9, .ref 10], cK 300 wy, cN 300 fa, cK 300 fw, cN 301 as_, cK 2107 me, cI 401 fb, cI 300 nb, cK 4 wu, cI 200 fk, cI 512 nw, cN nA aw, cN nA at_] 0 0 := by
      intro n28
      induction n28 with
      | zero => intro al fz wz k hk ha hf hfz hm; exact absurd hm (Nat.not_lt_zero _)
      | succ n28 ih28 =>
        intro al fz wz k hk ha hf hfz hm28
        refine sq_ok rfl [(.iload 7, 0, 0, 0), (.aload_n 0, 0, 0, 0), (.getfield 22, 5, 4, 0), (.iload_n 1, 0, 0, 0), (.iconst 1, 0, 0, 0), (.iadd, 0, 0, 0), (.iaload, 0, 0, 0), (.if_icmp .ge 91, 0, 0, 0)] 28 _ _ _ _ _ (by decide +kernel) ?_
        show ∃ j37 : Nat, mj 301 ((kI (s : Int)) + (kI 1)) j37 ∧ (kI ((as_ j37 : Nat) : Int) ≤ kI (k : Int) → WM mX5_countWaysOf 0 0 Post 13 129 [(0, .ref 0), (1, vI (s : Int)), (2, vJ (al : Int)), (4, vI (fz : Int)), (5, vJ (wz : Int)), (7, vI (k : Int))] [] [ob 5 [vI (cnt : Int), .ref 1, .ref 2, .ref 3, .ref 4, .ref 11, .ref 12, vI (arcs : Int), vI (ln : Int), .ref 5, .ref 6, .ref 7, .ref 8, .ref 9, .ref 10], cK 300 wy, cN 300 fa, cK 300 fw, cN 301 as_, cK 2107 me, cI 401 fb, cI 300 nb, cK 4 wu, cI 200 fk, cI 512 nw, cN nA aw, cN nA at_] 0 0) ∧ (¬ kI ((as_ j37 : Nat) : Int) ≤ kI (k : Int) → WM mX5_countWaysOf 0 0 Post 13 41 [(0, .ref 0), (1, vI (s : Int)), (2, vJ (al : Int)), (4, vI (fz : Int)), (5, vJ (wz : Int)), (7, vI (k : Int))] [] [ob 5 [vI (cnt : Int), .ref 1, .ref 2, .ref 3, .ref 4, .ref 11, .ref 12, vI (arcs : Int), vI (ln : Int), .ref 5, .ref 6, .ref 7, .ref 8, .ref 9, .ref 10], cK 300 wy, cN 300 fa, cK 300 fw, cN 301 as_, cK 2107 me, cI 401 fb, cI 300 nb, cK 4 wu, cI 200 fk, cI 512 nw, cN nA aw, cN nA at_] 0 0)
        refine ⟨(s + 1), ⟨by omega, by omega, by rw [kI_add]; rfl⟩, ?_⟩
        refine ⟨fun c38 => ?_, fun c38 => ?_⟩
        · 
          rw [kI_le (by omega)] at c38
          refine sq_ok rfl [(.aload_n 0, 0, 0, 0), (.getfield 9, 5, 1, 0), (.iload_n 1, 0, 0, 0), (.lload_n 2, 0, 0, 0), (.lastore, 0, 0, 0)] 129 _ _ _ _ _ (by decide +kernel) ?_
          show ∃ (j135 : Nat) (g135 : Nat → Int64), (mj 300 (kI (s : Int)) j135 ∧ g135 = vp_updL (fun q => kL ((wy q : Nat) : Int)) j135 (kL (al : Int))) ∧ WM mX5_countWaysOf 0 0 Post 13 136 [(0, .ref 0), (1, vI (s : Int)), (2, vJ (al : Int)), (4, vI (fz : Int)), (5, vJ (wz : Int)), (7, vI (k : Int))] [] [ob 5 [vI (cnt : Int), .ref 1, .ref 2, .ref 3, .ref 4, .ref 11, .ref 12, vI (arcs : Int), vI (ln : Int), .ref 5, .ref 6, .ref 7, .ref 8, .ref 9, .ref 10], .inl (1, 300, .inr (.inl g135)), cN 300 fa, cK 300 fw, cN 301 as_, cK 2107 me, cI 401 fb, cI 300 nb, cK 4 wu, cI 200 fk, cI 512 nw, cN nA aw, cN nA at_] 0 0
          refine ⟨s, fun q => kL (((va_up wy s al) q : Nat) : Int), ⟨⟨by omega, by omega, rfl⟩, st_K (rfl)⟩, ?_⟩
          refine sq_ok rfl [(.aload_n 0, 0, 0, 0), (.getfield 15, 5, 2, 0), (.iload_n 1, 0, 0, 0), (.iload 4, 0, 0, 0), (.iastore, 0, 0, 0)] 136 _ _ _ _ _ (by decide +kernel) ?_
          show ∃ (j143 : Nat) (g143 : Nat → Int32), (mj 300 (kI (s : Int)) j143 ∧ g143 = upd (fun q => kI ((fa q : Nat) : Int)) j143 (kI (fz : Int))) ∧ WM mX5_countWaysOf 0 0 Post 13 144 [(0, .ref 0), (1, vI (s : Int)), (2, vJ (al : Int)), (4, vI (fz : Int)), (5, vJ (wz : Int)), (7, vI (k : Int))] [] [ob 5 [vI (cnt : Int), .ref 1, .ref 2, .ref 3, .ref 4, .ref 11, .ref 12, vI (arcs : Int), vI (ln : Int), .ref 5, .ref 6, .ref 7, .ref 8, .ref 9, .ref 10], cK 300 (va_up wy s al), .inl (0, 300, .inl g143), cK 300 fw, cN 301 as_, cK 2107 me, cI 401 fb, cI 300 nb, cK 4 wu, cI 200 fk, cI 512 nw, cN nA aw, cN nA at_] 0 0
          refine ⟨s, fun q => kI (((va_up fa s fz) q : Nat) : Int), ⟨⟨by omega, by omega, rfl⟩, st_N (rfl)⟩, ?_⟩
          refine sq_ok rfl [(.aload_n 0, 0, 0, 0), (.getfield 19, 5, 3, 0), (.iload_n 1, 0, 0, 0), (.lload 5, 0, 0, 0), (.lastore, 0, 0, 0)] 144 _ _ _ _ _ (by decide +kernel) ?_
          show ∃ (j151 : Nat) (g151 : Nat → Int64), (mj 300 (kI (s : Int)) j151 ∧ g151 = vp_updL (fun q => kL ((fw q : Nat) : Int)) j151 (kL (wz : Int))) ∧ WM mX5_countWaysOf 0 0 Post 13 152 [(0, .ref 0), (1, vI (s : Int)), (2, vJ (al : Int)), (4, vI (fz : Int)), (5, vJ (wz : Int)), (7, vI (k : Int))] [] [ob 5 [vI (cnt : Int), .ref 1, .ref 2, .ref 3, .ref 4, .ref 11, .ref 12, vI (arcs : Int), vI (ln : Int), .ref 5, .ref 6, .ref 7, .ref 8, .ref 9, .ref 10], cK 300 (va_up wy s al), cN 300 (va_up fa s fz), .inl (1, 300, .inr (.inl g151)), cN 301 as_, cK 2107 me, cI 401 fb, cI 300 nb, cK 4 wu, cI 200 fk, cI 512 nw, cN nA aw, cN nA at_] 0 0
          refine ⟨s, fun q => kL (((va_up fw s wz) q : Nat) : Int), ⟨⟨by omega, by omega, rfl⟩, st_K (rfl)⟩, ?_⟩
          refine sq_ok rfl [(.return_, 0, 0, 0)] 152 _ _ _ _ _ (by decide +kernel) ?_
          show ((0 ≤ 0 ∧ 0 ≤ 0) ∧ Post none [ob 5 [vI (cnt : Int), .ref 1, .ref 2, .ref 3, .ref 4, .ref 11, .ref 12, vI (arcs : Int), vI (ln : Int), .ref 5, .ref 6, .ref 7, .ref 8, .ref 9, .ref 10], cK 300 (va_up wy s al), cN 300 (va_up fa s fz), cK 300 (va_up fw s wz), cN 301 as_, cK 2107 me, cI 401 fb, cI 300 nb, cK 4 wu, cI 200 fk, cI 512 nw, cN nA aw, cN nA at_])
          refine ⟨⟨Nat.le_refl _, Nat.le_refl _⟩, hPo _ _ ?_⟩
          have e : k = as_ (s + 1) := by omega
          rw [e] at ha hf
          have hf1 := congrArg Prod.fst hf
          have hf3 := congrArg Prod.snd hf
          refine ⟨rfl, ?_⟩
          rw [show tl as_ at_ s = (List.range (as_ (s + 1) - as_ s)).map (fun j => at_ (as_ s + j)) from rfl, ← ha, ← hf1, ← hf3]
        · 
          rw [kI_le (by omega)] at c38
          obtain ⟨ht1, ht2⟩ := hat k (by omega) (by omega)
          have hts := tl_step (at_ := at_) hk.1
          have ha2 : al + wy (at_ k) = waS wy (waE me ln s) ((List.range (k + 1 - as_ s)).map (fun j => at_ (as_ s + j))) := by rw [hts]; unfold waS; rw [List.foldl_append]; show _ = List.foldl _ _ _ + _; rw [ha]; rfl
          have hf2 : stF fa fw (fz, wz) (at_ k) = foF fa fw (waE me ln s) ((List.range (k + 1 - as_ s)).map (fun j => at_ (as_ s + j))) := by rw [hts, hf]; unfold foF; rw [List.foldl_append]; rfl
          unfold stF at hf2
          refine sq_ok rfl [(.aload_n 0, 0, 0, 0), (.getfield 28, 5, 6, 0), (.iload 7, 0, 0, 0), (.iaload, 0, 0, 0), (.istore 8, 0, 0, 0), (.lload_n 2, 0, 0, 0), (.aload_n 0, 0, 0, 0), (.getfield 9, 5, 1, 0), (.iload 8, 0, 0, 0), (.laload, 0, 0, 0), (.ladd, 0, 0, 0), (.lstore_n 2, 0, 0, 0), (.aload_n 0, 0, 0, 0), (.getfield 15, 5, 2, 0), (.iload 8, 0, 0, 0), (.iaload, 0, 0, 0), (.iconst 1, 0, 0, 0), (.iadd, 0, 0, 0), (.iload 4, 0, 0, 0), (.if_icmp .le 26, 0, 0, 0)] 41 _ _ _ _ _ (by decide +kernel) ?_
          show ∃ j47 : Nat, mj nA (kI (k : Int)) j47 ∧ ∃ j57 : Nat, mj 300 (kI ((at_ j47 : Nat) : Int)) j57 ∧ ∃ j66 : Nat, mj 300 (kI ((at_ j47 : Nat) : Int)) j66 ∧ (((kI ((fa j66 : Nat) : Int)) + (kI 1)) ≤ kI (fz : Int) → WM mX5_countWaysOf 0 0 Post 13 97 [(0, .ref 0), (1, vI (s : Int)), (2, .long ((kL (al : Int)) + (kL ((wy j57 : Nat) : Int)))), (4, vI (fz : Int)), (5, vJ (wz : Int)), (7, vI (k : Int)), (8, vI ((at_ j47 : Nat) : Int))] [] [ob 5 [vI (cnt : Int), .ref 1, .ref 2, .ref 3, .ref 4, .ref 11, .ref 12, vI (arcs : Int), vI (ln : Int), .ref 5, .ref 6, .ref 7, .ref 8, .ref 9, .ref 10], cK 300 wy, cN 300 fa, cK 300 fw, cN 301 as_, cK 2107 me, cI 401 fb, cI 300 nb, cK 4 wu, cI 200 fk, cI 512 nw, cN nA aw, cN nA at_] 0 0) ∧ (¬ ((kI ((fa j66 : Nat) : Int)) + (kI 1)) ≤ kI (fz : Int) → WM mX5_countWaysOf 0 0 Post 13 74 [(0, .ref 0), (1, vI (s : Int)), (2, .long ((kL (al : Int)) + (kL ((wy j57 : Nat) : Int)))), (4, vI (fz : Int)), (5, vJ (wz : Int)), (7, vI (k : Int)), (8, vI ((at_ j47 : Nat) : Int))] [] [ob 5 [vI (cnt : Int), .ref 1, .ref 2, .ref 3, .ref 4, .ref 11, .ref 12, vI (arcs : Int), vI (ln : Int), .ref 5, .ref 6, .ref 7, .ref 8, .ref 9, .ref 10], cK 300 wy, cN 300 fa, cK 300 fw, cN 301 as_, cK 2107 me, cI 401 fb, cI 300 nb, cK 4 wu, cI 200 fk, cI 512 nw, cN nA aw, cN nA at_] 0 0)
          refine ⟨k, ⟨by omega, by omega, rfl⟩, ?_⟩
          refine ⟨(at_ k), ⟨by omega, by omega, rfl⟩, ?_⟩
          refine ⟨(at_ k), ⟨by omega, by omega, rfl⟩, ?_⟩
          have e14 : ((kL (al : Int)) + (kL ((wy (at_ k) : Nat) : Int))) = kL (((al + (wy (at_ k))) : Nat) : Int) := by first | (simp only [kL_add, kL_sub, kL_mul]; done) | (simp only [kL_add, kL_sub, kL_mul]; rfl)
          rw [e14]
          have e15 : ((kI ((fa (at_ k) : Nat) : Int)) + (kI 1)) = kI ((((fa (at_ k)) + 1) : Nat) : Int) := by first | (simp only [kI_add, kI_sub, kI_mul]; done) | (simp only [kI_add, kI_sub, kI_mul]; rfl)
          rw [e15]
          refine ⟨fun c71 => ?_, fun c71 => ?_⟩
          · 
            rw [kI_le (by omega)] at c71
            refine sq_ok rfl [(.aload_n 0, 0, 0, 0), (.getfield 15, 5, 2, 0), (.iload 8, 0, 0, 0), (.iaload, 0, 0, 0), (.iconst 1, 0, 0, 0), (.iadd, 0, 0, 0), (.iload 4, 0, 0, 0), (.if_icmp .ne 15, 0, 0, 0)] 97 _ _ _ _ _ (by decide +kernel) ?_
            show ∃ j103 : Nat, mj 300 (kI ((at_ k : Nat) : Int)) j103 ∧ (¬ ((kI ((fa j103 : Nat) : Int)) + (kI 1)) = kI (fz : Int) → WM mX5_countWaysOf 0 0 Post 13 123 [(0, .ref 0), (1, vI (s : Int)), (2, vJ (((al + (wy (at_ k))) : Nat) : Int)), (4, vI (fz : Int)), (5, vJ (wz : Int)), (7, vI (k : Int)), (8, vI ((at_ k : Nat) : Int))] [] [ob 5 [vI (cnt : Int), .ref 1, .ref 2, .ref 3, .ref 4, .ref 11, .ref 12, vI (arcs : Int), vI (ln : Int), .ref 5, .ref 6, .ref 7, .ref 8, .ref 9, .ref 10], cK 300 wy, cN 300 fa, cK 300 fw, cN 301 as_, cK 2107 me, cI 401 fb, cI 300 nb, cK 4 wu, cI 200 fk, cI 512 nw, cN nA aw, cN nA at_] 0 0) ∧ (((kI ((fa j103 : Nat) : Int)) + (kI 1)) = kI (fz : Int) → WM mX5_countWaysOf 0 0 Post 13 111 [(0, .ref 0), (1, vI (s : Int)), (2, vJ (((al + (wy (at_ k))) : Nat) : Int)), (4, vI (fz : Int)), (5, vJ (wz : Int)), (7, vI (k : Int)), (8, vI ((at_ k : Nat) : Int))] [] [ob 5 [vI (cnt : Int), .ref 1, .ref 2, .ref 3, .ref 4, .ref 11, .ref 12, vI (arcs : Int), vI (ln : Int), .ref 5, .ref 6, .ref 7, .ref 8, .ref 9, .ref 10], cK 300 wy, cN 300 fa, cK 300 fw, cN 301 as_, cK 2107 me, cI 401 fb, cI 300 nb, cK 4 wu, cI 200 fk, cI 512 nw, cN nA aw, cN nA at_] 0 0)
            refine ⟨(at_ k), ⟨by omega, by omega, rfl⟩, ?_⟩
            have e17 : ((kI ((fa (at_ k) : Nat) : Int)) + (kI 1)) = kI ((((fa (at_ k)) + 1) : Nat) : Int) := by first | (simp only [kI_add, kI_sub, kI_mul]; done) | (simp only [kI_add, kI_sub, kI_mul]; rfl)
            rw [e17]
            refine ⟨fun c108 => ?_, fun c108 => ?_⟩
            · 
              rw [kI_eq (by omega)] at c108
              refine sq_ok rfl [(.iinc 7 1, 0, 0, 0), (.goto (-98), 0, 0, 0)] 123 _ _ _ _ _ (by decide +kernel) ?_
              show WM mX5_countWaysOf 0 0 Post 13 28 [(0, .ref 0), (1, vI (s : Int)), (2, vJ (((al + (wy (at_ k))) : Nat) : Int)), (4, vI (fz : Int)), (5, vJ (wz : Int)), (7, .int ((kI (k : Int)) + (kI 1))), (8, vI ((at_ k : Nat) : Int))] [] [ob 5 [vI (cnt : Int), .ref 1, .ref 2, .ref 3, .ref 4, .ref 11, .ref 12, vI (arcs : Int), vI (ln : Int), .ref 5, .ref 6, .ref 7, .ref 8, .ref 9, .ref 10], cK 300 wy, cN 300 fa, cK 300 fw, cN 301 as_, cK 2107 me, cI 401 fb, cI 300 nb, cK 4 wu, cI 200 fk, cI 512 nw, cN nA aw, cN nA at_] 0 0
              have e19 : ((kI (k : Int)) + (kI 1)) = kI (((k + 1) : Nat) : Int) := by first | (simp only [kI_add, kI_sub, kI_mul]; done) | (simp only [kI_add, kI_sub, kI_mul]; rfl)
              rw [e19]
              exact WM.pick [0, 1, 2, 3, 4, 5] rfl (ih28 (al + (wy (at_ k))) fz wz (k + 1) (by omega) ha2 (by first | (rw [if_pos (by omega)] at hf2; exact hf2) | (rw [if_neg (by omega), if_pos (by omega)] at hf2; exact hf2) | (rw [if_neg (by omega), if_neg (by omega)] at hf2; exact hf2)) (by omega) (by omega))
            · 
              rw [kI_eq (by omega)] at c108
              refine sq_ok rfl [(.lload 5, 0, 0, 0), (.aload_n 0, 0, 0, 0), (.getfield 19, 5, 3, 0), (.iload 8, 0, 0, 0), (.laload, 0, 0, 0), (.ladd, 0, 0, 0), (.lstore 5, 0, 0, 0), (.iinc 7 1, 0, 0, 0), (.goto (-98), 0, 0, 0)] 111 _ _ _ _ _ (by decide +kernel) ?_
              show ∃ j119 : Nat, mj 300 (kI ((at_ k : Nat) : Int)) j119 ∧ WM mX5_countWaysOf 0 0 Post 13 28 [(0, .ref 0), (1, vI (s : Int)), (2, vJ (((al + (wy (at_ k))) : Nat) : Int)), (4, vI (fz : Int)), (5, .long ((kL (wz : Int)) + (kL ((fw j119 : Nat) : Int)))), (7, .int ((kI (k : Int)) + (kI 1))), (8, vI ((at_ k : Nat) : Int))] [] [ob 5 [vI (cnt : Int), .ref 1, .ref 2, .ref 3, .ref 4, .ref 11, .ref 12, vI (arcs : Int), vI (ln : Int), .ref 5, .ref 6, .ref 7, .ref 8, .ref 9, .ref 10], cK 300 wy, cN 300 fa, cK 300 fw, cN 301 as_, cK 2107 me, cI 401 fb, cI 300 nb, cK 4 wu, cI 200 fk, cI 512 nw, cN nA aw, cN nA at_] 0 0
              refine ⟨(at_ k), ⟨by omega, by omega, rfl⟩, ?_⟩
              have e20 : ((kL (wz : Int)) + (kL ((fw (at_ k) : Nat) : Int))) = kL (((wz + (fw (at_ k))) : Nat) : Int) := by first | (simp only [kL_add, kL_sub, kL_mul]; done) | (simp only [kL_add, kL_sub, kL_mul]; rfl)
              rw [e20]
              have e21 : ((kI (k : Int)) + (kI 1)) = kI (((k + 1) : Nat) : Int) := by first | (simp only [kI_add, kI_sub, kI_mul]; done) | (simp only [kI_add, kI_sub, kI_mul]; rfl)
              rw [e21]
              exact WM.pick [0, 1, 2, 3, 4, 5] rfl (ih28 (al + (wy (at_ k))) fz (wz + (fw (at_ k))) (k + 1) (by omega) ha2 (by first | (rw [if_pos (by omega)] at hf2; exact hf2) | (rw [if_neg (by omega), if_pos (by omega)] at hf2; exact hf2) | (rw [if_neg (by omega), if_neg (by omega)] at hf2; exact hf2)) (by omega) (by omega))
          · 
            rw [kI_le (by omega)] at c71
            refine sq_ok rfl [(.aload_n 0, 0, 0, 0), (.getfield 15, 5, 2, 0), (.iload 8, 0, 0, 0), (.iaload, 0, 0, 0), (.iconst 1, 0, 0, 0), (.iadd, 0, 0, 0), (.istore 4, 0, 0, 0), (.aload_n 0, 0, 0, 0), (.getfield 19, 5, 3, 0), (.iload 8, 0, 0, 0), (.laload, 0, 0, 0), (.lstore 5, 0, 0, 0), (.goto 29, 0, 0, 0)] 74 _ _ _ _ _ (by decide +kernel) ?_
            show ∃ j80 : Nat, mj 300 (kI ((at_ k : Nat) : Int)) j80 ∧ ∃ j91 : Nat, mj 300 (kI ((at_ k : Nat) : Int)) j91 ∧ WM mX5_countWaysOf 0 0 Post 13 123 [(0, .ref 0), (1, vI (s : Int)), (2, vJ (((al + (wy (at_ k))) : Nat) : Int)), (4, .int ((kI ((fa j80 : Nat) : Int)) + (kI 1))), (5, vJ ((fw j91 : Nat) : Int)), (7, vI (k : Int)), (8, vI ((at_ k : Nat) : Int))] [] [ob 5 [vI (cnt : Int), .ref 1, .ref 2, .ref 3, .ref 4, .ref 11, .ref 12, vI (arcs : Int), vI (ln : Int), .ref 5, .ref 6, .ref 7, .ref 8, .ref 9, .ref 10], cK 300 wy, cN 300 fa, cK 300 fw, cN 301 as_, cK 2107 me, cI 401 fb, cI 300 nb, cK 4 wu, cI 200 fk, cI 512 nw, cN nA aw, cN nA at_] 0 0
            refine ⟨(at_ k), ⟨by omega, by omega, rfl⟩, ?_⟩
            refine ⟨(at_ k), ⟨by omega, by omega, rfl⟩, ?_⟩
            have e22 : ((kI ((fa (at_ k) : Nat) : Int)) + (kI 1)) = kI ((((fa (at_ k)) + 1) : Nat) : Int) := by first | (simp only [kI_add, kI_sub, kI_mul]; done) | (simp only [kI_add, kI_sub, kI_mul]; rfl)
            rw [e22]
            refine sq_ok rfl [(.iinc 7 1, 0, 0, 0), (.goto (-98), 0, 0, 0)] 123 _ _ _ _ _ (by decide +kernel) ?_
            show WM mX5_countWaysOf 0 0 Post 13 28 [(0, .ref 0), (1, vI (s : Int)), (2, vJ (((al + (wy (at_ k))) : Nat) : Int)), (4, vI ((((fa (at_ k)) + 1) : Nat) : Int)), (5, vJ ((fw (at_ k) : Nat) : Int)), (7, .int ((kI (k : Int)) + (kI 1))), (8, vI ((at_ k : Nat) : Int))] [] [ob 5 [vI (cnt : Int), .ref 1, .ref 2, .ref 3, .ref 4, .ref 11, .ref 12, vI (arcs : Int), vI (ln : Int), .ref 5, .ref 6, .ref 7, .ref 8, .ref 9, .ref 10], cK 300 wy, cN 300 fa, cK 300 fw, cN 301 as_, cK 2107 me, cI 401 fb, cI 300 nb, cK 4 wu, cI 200 fk, cI 512 nw, cN nA aw, cN nA at_] 0 0
            have e23 : ((kI (k : Int)) + (kI 1)) = kI (((k + 1) : Nat) : Int) := by first | (simp only [kI_add, kI_sub, kI_mul]; done) | (simp only [kI_add, kI_sub, kI_mul]; rfl)
            rw [e23]
            exact WM.pick [0, 1, 2, 3, 4, 5] rfl (ih28 (al + (wy (at_ k))) ((fa (at_ k)) + 1) (fw (at_ k)) (k + 1) (by omega) ha2 (by first | (rw [if_pos (by omega)] at hf2; exact hf2) | (rw [if_neg (by omega), if_pos (by omega)] at hf2; exact hf2) | (rw [if_neg (by omega), if_neg (by omega)] at hf2; exact hf2)) (by omega) (by omega))
    exact WM.pick [0, 1, 2, 3, 4, 5] rfl (lp28 _ 1 0 1 (as_ s) (by omega) (by rw [Nat.sub_self]; show _ = waE me ln s; unfold waE; first | rw [if_pos (by simpa using c5)] | rw [if_neg (by simpa using c5)]) (by rw [Nat.sub_self]; show _ = (0, waE me ln s); unfold waE; first | rw [if_pos (by simpa using c5)] | rw [if_neg (by simpa using c5)]) (by omega) (Nat.lt_succ_self _))

set_option maxRecDepth 100000 in
set_option maxHeartbeats 500000 in
theorem c_X5_countWays (cnt : Nat) (wy fa fw as_ aw at_ : Nat → Nat) (nA arcs ln : Nat) (me : Nat → Nat) (fb nb : Nat → Int) (wu : Nat → Nat) (fk nw : Nat → Int) (nn : Nat) (hnn : nn ≤ 401) (hln : ln < 401) (hR : sR nn me cnt fb nb) (hnA : nA < 2147483648) (hT : ∀ s, s < cnt → as_ s ≤ as_ (s + 1) ∧ as_ (s + 1) ≤ nA ∧ ∀ k, as_ s ≤ k → k < as_ (s + 1) → at_ k < cnt ∧ lwf (mS me s) < lwf (mS me (at_ k))) : CT mX5_countWays 0 0 [.ref 0, vI (nn : Int)] [ob 5 [vI (cnt : Int), .ref 1, .ref 2, .ref 3, .ref 4, .ref 11, .ref 12, vI (arcs : Int), vI (ln : Int), .ref 5, .ref 6, .ref 7, .ref 8, .ref 9, .ref 10], cK 300 wy, cN 300 fa, cK 300 fw, cN 301 as_, cK 2107 me, cI 401 fb, cI 300 nb, cK 4 wu, cI 200 fk, cI 512 nw, cN nA aw, cN nA at_] (fun r w => ∃ wy2 fa2 fw2 : Nat → Nat, r = none ∧ w = [ob 5 [vI (cnt : Int), .ref 1, .ref 2, .ref 3, .ref 4, .ref 11, .ref 12, vI (arcs : Int), vI (ln : Int), .ref 5, .ref 6, .ref 7, .ref 8, .ref 9, .ref 10], cK 300 wy2, cN 300 fa2, cK 300 fw2, cN 301 as_, cK 2107 me, cI 401 fb, cI 300 nb, cK 4 wu, cI 200 fk, cI 512 nw, cN nA aw, cN nA at_] ∧ ∀ s, s < cnt → eqW me as_ at_ ln nn wy2 fa2 fw2 s) := by
  refine CT.intro rfl (Nat.le_of_ble_eq_true rfl) ?_
  generalize hPost : (fun r w => ∃ wy2 fa2 fw2 : Nat → Nat, r = none ∧ w = [ob 5 [vI (cnt : Int), .ref 1, .ref 2, .ref 3, .ref 4, .ref 11, .ref 12, vI (arcs : Int), vI (ln : Int), .ref 5, .ref 6, .ref 7, .ref 8, .ref 9, .ref 10], cK 300 wy2, cN 300 fa2, cK 300 fw2, cN 301 as_, cK 2107 me, cI 401 fb, cI 300 nb, cK 4 wu, cI 200 fk, cI 512 nw, cN nA aw, cN nA at_] ∧ ∀ s, s < cnt → eqW me as_ at_ ln nn wy2 fa2 fw2 s : MP) = Post
  have hPo : ∀ rr ww, (fun r w => ∃ wy2 fa2 fw2 : Nat → Nat, r = none ∧ w = [ob 5 [vI (cnt : Int), .ref 1, .ref 2, .ref 3, .ref 4, .ref 11, .ref 12, vI (arcs : Int), vI (ln : Int), .ref 5, .ref 6, .ref 7, .ref 8, .ref 9, .ref 10], cK 300 wy2, cN 300 fa2, cK 300 fw2, cN 301 as_, cK 2107 me, cI 401 fb, cI 300 nb, cK 4 wu, cI 200 fk, cI 512 nw, cN nA aw, cN nA at_] ∧ ∀ s, s < cnt → eqW me as_ at_ ln nn wy2 fa2 fw2 s : MP) rr ww → Post rr ww := by rw [← hPost]; exact fun _ _ h => h
  clear hPost
  show WM mX5_countWays 0 0 Post 13 0 [(0, .ref 0), (1, vI (nn : Int))] [] [ob 5 [vI (cnt : Int), .ref 1, .ref 2, .ref 3, .ref 4, .ref 11, .ref 12, vI (arcs : Int), vI (ln : Int), .ref 5, .ref 6, .ref 7, .ref 8, .ref 9, .ref 10], cK 300 wy, cN 300 fa, cK 300 fw, cN 301 as_, cK 2107 me, cI 401 fb, cI 300 nb, cK 4 wu, cI 200 fk, cI 512 nw, cN nA aw, cN nA at_] 0 0
  refine sq_ok rfl [(.iload_n 1, 0, 0, 0), (.iconst 1, 0, 0, 0), (.isub, 0, 0, 0)] 0 _ _ _ _ _ (by decide +kernel) ?_
  show WM mX5_countWays 0 0 Post 13 3 [(0, .ref 0), (1, vI (nn : Int))] [.int ((kI (nn : Int)) - (kI 1))] [ob 5 [vI (cnt : Int), .ref 1, .ref 2, .ref 3, .ref 4, .ref 11, .ref 12, vI (arcs : Int), vI (ln : Int), .ref 5, .ref 6, .ref 7, .ref 8, .ref 9, .ref 10], cK 300 wy, cN 300 fa, cK 300 fw, cN 301 as_, cK 2107 me, cI 401 fb, cI 300 nb, cK 4 wu, cI 200 fk, cI 512 nw, cN nA aw, cN nA at_] 0 0
  have e1 : ((kI (nn : Int)) - (kI 1)) = kI ((nn : Int) - 1) := by rw [kI_sub]
  rw [e1]
  refine sq_ok rfl [(.istore_n 2, 0, 0, 0)] 3 _ _ _ _ _ (by decide +kernel) ?_
  show WM mX5_countWays 0 0 Post 13 4 [(0, .ref 0), (1, vI (nn : Int)), (2, vI ((nn : Int) - 1))] [] [ob 5 [vI (cnt : Int), .ref 1, .ref 2, .ref 3, .ref 4, .ref 11, .ref 12, vI (arcs : Int), vI (ln : Int), .ref 5, .ref 6, .ref 7, .ref 8, .ref 9, .ref 10], cK 300 wy, cN 300 fa, cK 300 fw, cN 301 as_, cK 2107 me, cI 401 fb, cI 300 nb, cK 4 wu, cI 200 fk, cI 512 nw, cN nA aw, cN nA at_] 0 0
  have lp4 : ∀ (n4 : Nat) (v : Nat) (vz : Int) (wy1 : Nat → Nat) (fa1 : Nat → Nat) (fw1 : Nat → Nat), (v ≤ nn) → (vz = (v : Int) - 1) → (∀ s, s < cnt → v ≤ lwf (mS me s) → eqW me as_ at_ ln nn wy1 fa1 fw1 s) → v < n4 → WM mX5_countWays 0 0 Post 13 4 [(0, .ref 0), (1, vI (nn : Int)), (2, vI vz)] [] [ob 5 [vI (cnt : Int), .ref 1, .ref 2, .ref 3, .ref 4, .ref 11, .ref 12, vI (arcs : Int), vI (ln : Int), .ref 5, .ref 6, .ref 7, .ref 8, .ref 9, .ref 10], cK 300 wy1, cN 300 fa1, cK 300 fw1, cN 301 as_, cK 2107 me, cI 401 fb, cI 300 nb, cK 4 wu, cI 200 fk, cI 512 nw, cN nA aw, cN nA at_] 0 0 := by
    intro n4
    induction n4 with
    | zero => intro v vz wy1 fa1 fw1 hv hvz hq hm; exact absurd hm (Nat.not_lt_zero _)
    | succ n4 ih4 =>
      intro v vz wy1 fa1 fw1 hv hvz hq hm4
      refine sq_ok rfl [(.iload_n 2, 0, 0, 0), (.ifCond .lt 49, 0, 0, 0)] 4 _ _ _ _ _ (by decide +kernel) ?_
      show (kI vz < kI 0 → WM mX5_countWays 0 0 Post 13 54 [(0, .ref 0), (1, vI (nn : Int)), (2, vI vz)] [] [ob 5 [vI (cnt : Int), .ref 1, .ref 2, .ref 3, .ref 4, .ref 11, .ref 12, vI (arcs : Int), vI (ln : Int), .ref 5, .ref 6, .ref 7, .ref 8, .ref 9, .ref 10], cK 300 wy1, cN 300 fa1, cK 300 fw1, cN 301 as_, cK 2107 me, cI 401 fb, cI 300 nb, cK 4 wu, cI 200 fk, cI 512 nw, cN nA aw, cN nA at_] 0 0) ∧ (¬ kI vz < kI 0 → WM mX5_countWays 0 0 Post 13 8 [(0, .ref 0), (1, vI (nn : Int)), (2, vI vz)] [] [ob 5 [vI (cnt : Int), .ref 1, .ref 2, .ref 3, .ref 4, .ref 11, .ref 12, vI (arcs : Int), vI (ln : Int), .ref 5, .ref 6, .ref 7, .ref 8, .ref 9, .ref 10], cK 300 wy1, cN 300 fa1, cK 300 fw1, cN 301 as_, cK 2107 me, cI 401 fb, cI 300 nb, cK 4 wu, cI 200 fk, cI 512 nw, cN nA aw, cN nA at_] 0 0)
      refine ⟨fun c5 => ?_, fun c5 => ?_⟩
      · 
        rw [kI_lt (by omega)] at c5
        refine sq_ok rfl [(.return_, 0, 0, 0)] 54 _ _ _ _ _ (by decide +kernel) ?_
        show ((0 ≤ 0 ∧ 0 ≤ 0) ∧ Post none [ob 5 [vI (cnt : Int), .ref 1, .ref 2, .ref 3, .ref 4, .ref 11, .ref 12, vI (arcs : Int), vI (ln : Int), .ref 5, .ref 6, .ref 7, .ref 8, .ref 9, .ref 10], cK 300 wy1, cN 300 fa1, cK 300 fw1, cN 301 as_, cK 2107 me, cI 401 fb, cI 300 nb, cK 4 wu, cI 200 fk, cI 512 nw, cN nA aw, cN nA at_])
        refine ⟨⟨Nat.le_refl _, Nat.le_refl _⟩, hPo _ _ ?_⟩
        exact ⟨wy1, fa1, fw1, rfl, rfl, fun s hs => hq s hs (by omega)⟩
      · 
        rw [kI_lt (by omega)] at c5
        refine sq_ok rfl [(.aload_n 0, 0, 0, 0), (.getfield 34, 5, 10, 0), (.iload_n 2, 0, 0, 0), (.iaload, 0, 0, 0)] 8 _ _ _ _ _ (by decide +kernel) ?_
        show ∃ j13 : Nat, mj 401 (kI vz) j13 ∧ WM mX5_countWays 0 0 Post 13 14 [(0, .ref 0), (1, vI (nn : Int)), (2, vI vz)] [.int (kI (fb j13))] [ob 5 [vI (cnt : Int), .ref 1, .ref 2, .ref 3, .ref 4, .ref 11, .ref 12, vI (arcs : Int), vI (ln : Int), .ref 5, .ref 6, .ref 7, .ref 8, .ref 9, .ref 10], cK 300 wy1, cN 300 fa1, cK 300 fw1, cN 301 as_, cK 2107 me, cI 401 fb, cI 300 nb, cK 4 wu, cI 200 fk, cI 512 nw, cN nA aw, cN nA at_] 0 0
        refine ⟨(v - 1), ⟨by omega, by omega, by congr 1; omega⟩, ?_⟩
        have e3 : kI (fb (v - 1)) = kI (oI (lstE (fun s => lwf (mS me s)) (v - 1) cnt)) := by rw [hR.2.2.2.2.1 (v - 1) (by omega)]
        rw [e3]
        refine sq_ok rfl [(.istore_n 3, 0, 0, 0), (.iconst 0, 0, 0, 0), (.istore 4, 0, 0, 0)] 14 _ _ _ _ _ (by decide +kernel) ?_
        show WM mX5_countWays 0 0 Post 13 18 [(0, .ref 0), (1, vI (nn : Int)), (2, vI vz), (3, vI (oI (lstE (fun s => lwf (mS me s)) (v - 1) cnt))), (4, vI 0)] [] [ob 5 [vI (cnt : Int), .ref 1, .ref 2, .ref 3, .ref 4, .ref 11, .ref 12, vI (arcs : Int), vI (ln : Int), .ref 5, .ref 6, .ref 7, .ref 8, .ref 9, .ref 10], cK 300 wy1, cN 300 fa1, cK 300 fw1, cN 301 as_, cK 2107 me, cI 401 fb, cI 300 nb, cK 4 wu, cI 200 fk, cI 512 nw, cN nA aw, cN nA at_] 0 0
        have lp18 : ∀ (n18 : Nat) (k : Nat) (n : Nat) (wy2 : Nat → Nat) (fa2 : Nat → Nat) (fw2 : Nat → Nat), (k + n ≤ cnt) → (∀ s, s < cnt → (v ≤ lwf (mS me s) ∨ (lwf (mS me s) = v - 1 ∧ k ≤ s)) → eqW me as_ at_ ln nn wy2 fa2 fw2 s) → (300 - n) < n18 → WM mX5_countWays 0 0 Post 13 18 [(0, .ref 0), (1, vI (nn : Int)), (2, vI vz), (3, vI (oI (lstE (fun s => lwf (mS me s)) (v - 1) k))), (4, vI (n : Int))] [] [ob 5 [vI (cnt : Int), .ref 1, .ref 2, .ref 3, .ref 4, .ref 11, .ref 12, vI (arcs : Int), vI (ln : Int), .ref 5, .ref 6, .ref 7, .ref 8, .ref 9, .ref 10], cK 300 wy2, cN 300 fa2, cK 300 fw2, cN 301 as_, cK 2107 me, cI 401 fb, cI 300 nb, cK 4 wu, cI 200 fk, cI 512 nw, cN nA aw, cN nA at_] 0 0 := by
          intro n18
          induction n18 with
          | zero => intro k n wy2 fa2 fw2 hk hq2 hm; exact absurd hm (Nat.not_lt_zero _)
          | succ n18 ih18 =>
            intro k n wy2 fa2 fw2 hk hq2 hm18
            have hzR : -2147483648 ≤ oI (lstE (fun s => lwf (mS me s)) (v - 1) k) ∧ oI (lstE (fun s => lwf (mS me s)) (v - 1) k) ≤ 2147483647 := oI_R (n := k) (fun j hj => (lstE_step hj).1) (by have := hR.2.1; omega)
            have hc3 := hR.2.1
            refine sq_ok rfl [(.iload 4, 0, 0, 0), (.sipush 300, 0, 0, 0), (.if_icmp .ge 25, 0, 0, 0)] 18 _ _ _ _ _ (by decide +kernel) ?_
            show (kI 300 ≤ kI (n : Int) → WM mX5_countWays 0 0 Post 13 48 [(0, .ref 0), (1, vI (nn : Int)), (2, vI vz), (3, vI (oI (lstE (fun s => lwf (mS me s)) (v - 1) k))), (4, vI (n : Int))] [] [ob 5 [vI (cnt : Int), .ref 1, .ref 2, .ref 3, .ref 4, .ref 11, .ref 12, vI (arcs : Int), vI (ln : Int), .ref 5, .ref 6, .ref 7, .ref 8, .ref 9, .ref 10], cK 300 wy2, cN 300 fa2, cK 300 fw2, cN 301 as_, cK 2107 me, cI 401 fb, cI 300 nb, cK 4 wu, cI 200 fk, cI 512 nw, cN nA aw, cN nA at_] 0 0) ∧ (¬ kI 300 ≤ kI (n : Int) → WM mX5_countWays 0 0 Post 13 26 [(0, .ref 0), (1, vI (nn : Int)), (2, vI vz), (3, vI (oI (lstE (fun s => lwf (mS me s)) (v - 1) k))), (4, vI (n : Int))] [] [ob 5 [vI (cnt : Int), .ref 1, .ref 2, .ref 3, .ref 4, .ref 11, .ref 12, vI (arcs : Int), vI (ln : Int), .ref 5, .ref 6, .ref 7, .ref 8, .ref 9, .ref 10], cK 300 wy2, cN 300 fa2, cK 300 fw2, cN 301 as_, cK 2107 me, cI 401 fb, cI 300 nb, cK 4 wu, cI 200 fk, cI 512 nw, cN nA aw, cN nA at_] 0 0)
            refine ⟨fun c23 => ?_, fun c23 => ?_⟩
            · 
              rw [kI_le (by omega)] at c23
              refine sq_ok rfl [(.iinc 2 (-1), 0, 0, 0), (.goto (-47), 0, 0, 0)] 48 _ _ _ _ _ (by decide +kernel) ?_
              show WM mX5_countWays 0 0 Post 13 4 [(0, .ref 0), (1, vI (nn : Int)), (2, .int ((kI vz) + (kI (-1)))), (3, vI (oI (lstE (fun s => lwf (mS me s)) (v - 1) k))), (4, vI (n : Int))] [] [ob 5 [vI (cnt : Int), .ref 1, .ref 2, .ref 3, .ref 4, .ref 11, .ref 12, vI (arcs : Int), vI (ln : Int), .ref 5, .ref 6, .ref 7, .ref 8, .ref 9, .ref 10], cK 300 wy2, cN 300 fa2, cK 300 fw2, cN 301 as_, cK 2107 me, cI 401 fb, cI 300 nb, cK 4 wu, cI 200 fk, cI 512 nw, cN nA aw, cN nA at_] 0 0
              have e5 : ((kI vz) + (kI (-1))) = kI (vz + (-1)) := by first | (simp only [kI_add, kI_sub, kI_mul]; done) | (simp only [kI_add, kI_sub, kI_mul]; rfl)
              rw [e5]
              exact WM.pick [0, 1, 2] rfl (ih4 (v - 1) (vz + (-1)) wy2 fa2 fw2 (by omega) (by omega) (fun s h6 h7 => hq2 s h6 (by
                  rcases Nat.lt_or_ge (lwf (mS me s)) v with h8 | h8
                  · right
                    refine ⟨by omega, ?_⟩
                    rcases Nat.lt_or_ge s k with h9 | h9
                    · by_cases h10 : n < 300
                      · exact absurd (show lwf (mS me s) = v - 1 by omega) (lstE_nil (oI_neg (show ¬ 0 ≤ oI (lstE (fun s => lwf (mS me s)) (v - 1) k) by omega)) s h9)
                      · omega
                    · exact h9
                  · exact Or.inl h8)) (by omega))
            · 
              rw [kI_le (by omega)] at c23
              refine sq_ok rfl [(.iload_n 3, 0, 0, 0), (.ifCond .lt 21, 0, 0, 0)] 26 _ _ _ _ _ (by decide +kernel) ?_
              show (kI (oI (lstE (fun s => lwf (mS me s)) (v - 1) k)) < kI 0 → WM mX5_countWays 0 0 Post 13 48 [(0, .ref 0), (1, vI (nn : Int)), (2, vI vz), (3, vI (oI (lstE (fun s => lwf (mS me s)) (v - 1) k))), (4, vI (n : Int))] [] [ob 5 [vI (cnt : Int), .ref 1, .ref 2, .ref 3, .ref 4, .ref 11, .ref 12, vI (arcs : Int), vI (ln : Int), .ref 5, .ref 6, .ref 7, .ref 8, .ref 9, .ref 10], cK 300 wy2, cN 300 fa2, cK 300 fw2, cN 301 as_, cK 2107 me, cI 401 fb, cI 300 nb, cK 4 wu, cI 200 fk, cI 512 nw, cN nA aw, cN nA at_] 0 0) ∧ (¬ kI (oI (lstE (fun s => lwf (mS me s)) (v - 1) k)) < kI 0 → WM mX5_countWays 0 0 Post 13 30 [(0, .ref 0), (1, vI (nn : Int)), (2, vI vz), (3, vI (oI (lstE (fun s => lwf (mS me s)) (v - 1) k))), (4, vI (n : Int))] [] [ob 5 [vI (cnt : Int), .ref 1, .ref 2, .ref 3, .ref 4, .ref 11, .ref 12, vI (arcs : Int), vI (ln : Int), .ref 5, .ref 6, .ref 7, .ref 8, .ref 9, .ref 10], cK 300 wy2, cN 300 fa2, cK 300 fw2, cN 301 as_, cK 2107 me, cI 401 fb, cI 300 nb, cK 4 wu, cI 200 fk, cI 512 nw, cN nA aw, cN nA at_] 0 0)
              refine ⟨fun c27 => ?_, fun c27 => ?_⟩
              · 
                rw [kI_lt (by omega)] at c27
                refine sq_ok rfl [(.iinc 2 (-1), 0, 0, 0), (.goto (-47), 0, 0, 0)] 48 _ _ _ _ _ (by decide +kernel) ?_
                show WM mX5_countWays 0 0 Post 13 4 [(0, .ref 0), (1, vI (nn : Int)), (2, .int ((kI vz) + (kI (-1)))), (3, vI (oI (lstE (fun s => lwf (mS me s)) (v - 1) k))), (4, vI (n : Int))] [] [ob 5 [vI (cnt : Int), .ref 1, .ref 2, .ref 3, .ref 4, .ref 11, .ref 12, vI (arcs : Int), vI (ln : Int), .ref 5, .ref 6, .ref 7, .ref 8, .ref 9, .ref 10], cK 300 wy2, cN 300 fa2, cK 300 fw2, cN 301 as_, cK 2107 me, cI 401 fb, cI 300 nb, cK 4 wu, cI 200 fk, cI 512 nw, cN nA aw, cN nA at_] 0 0
                have e7 : ((kI vz) + (kI (-1))) = kI (vz + (-1)) := by first | (simp only [kI_add, kI_sub, kI_mul]; done) | (simp only [kI_add, kI_sub, kI_mul]; rfl)
                rw [e7]
                exact WM.pick [0, 1, 2] rfl (ih4 (v - 1) (vz + (-1)) wy2 fa2 fw2 (by omega) (by omega) (fun s h6 h7 => hq2 s h6 (by
                    rcases Nat.lt_or_ge (lwf (mS me s)) v with h8 | h8
                    · right
                      refine ⟨by omega, ?_⟩
                      rcases Nat.lt_or_ge s k with h9 | h9
                      · by_cases h10 : n < 300
                        · exact absurd (show lwf (mS me s) = v - 1 by omega) (lstE_nil (oI_neg (show ¬ 0 ≤ oI (lstE (fun s => lwf (mS me s)) (v - 1) k) by omega)) s h9)
                        · omega
                      · exact h9
                    · exact Or.inl h8)) (by omega))
              · 
                rw [kI_lt (by omega)] at c27
                obtain ⟨s, hs1, hs2⟩ := oI_pos (show 0 ≤ oI (lstE (fun s => lwf (mS me s)) (v - 1) k) by omega)
                rw [hs2]
                obtain ⟨hs3, hs4, hs5⟩ := lstE_step hs1
                obtain ⟨ht1, ht2, ht3⟩ := hT s (by omega)
                have htm : ∀ t ∈ tl as_ at_ s, t < cnt ∧ v ≤ lwf (mS me t) := fun t ht => by
                    obtain ⟨j, g1, g2, g3⟩ := tl_mem.mp ht
                    have := ht3 j g1 g2
                    rw [g3] at this
                    omega
                have hfb : ∀ t ∈ tl as_ at_ s, fa2 t + 1 ≤ nn - 1 - lwf (mS me s) := fun t ht => by
                    have h5 := htm t ht
                    have h6 := (hq2 t h5.1 (Or.inl h5.2)).2.2
                    omega
                have hlt := lowB_lt (hR.lw hnn s (by omega)) (hR.2.2.2.1 s (by omega)).2
                have hfo : (foF fa2 fw2 (waE me ln s) (tl as_ at_ s)).1 ≤ nn - 1 - lwf (mS me s) := foF_le (Nat.zero_le _) hfb
                refine sq_ok rfl [(.aload_n 0, 0, 0, 0), (.iload_n 3, 0, 0, 0)] 30 _ _ _ _ _ (by decide +kernel) ?_
                show WM mX5_countWays 0 0 Post 13 32 [(0, .ref 0), (1, vI (nn : Int)), (2, vI vz), (3, vI (s : Int)), (4, vI (n : Int))] [vI (s : Int), .ref 0] [ob 5 [vI (cnt : Int), .ref 1, .ref 2, .ref 3, .ref 4, .ref 11, .ref 12, vI (arcs : Int), vI (ln : Int), .ref 5, .ref 6, .ref 7, .ref 8, .ref 9, .ref 10], cK 300 wy2, cN 300 fa2, cK 300 fw2, cN 301 as_, cK 2107 me, cI 401 fb, cI 300 nb, cK 4 wu, cI 200 fk, cI 512 nw, cN nA aw, cN nA at_] 0 0
                refine wm_callV (y := mX5_countWays) mX5_countWaysOf [0, 1, 2, 3, 4, 5, 6, 7, 8, 9, 10, 11, 12] (pc := 32) (rest := []) (mc' := 0) (ms' := 0) (by decide +kernel) kX5_159 (c_X5_countWaysOf cnt wy2 fa2 fw2 as_ aw at_ nA arcs ln me fb nb wu fk nw hR.1 s (by omega) hln ⟨ht1, ht2⟩ hnA (fun j g1 g2 => by have h5 := ht3 j g1 g2; have h6 := (hq2 (at_ j) h5.1 (Or.inl (by omega))).2.2; omega)) rfl rfl ⟨_, rfl, rfl⟩ ⟨Nat.le_of_ble_eq_true rfl, Nat.le_of_ble_eq_true rfl⟩ ⟨Nat.le_of_ble_eq_true rfl, Nat.le_of_ble_eq_true rfl⟩ (Nat.le_of_ble_eq_true rfl) rfl rfl (Nat.le_of_ble_eq_true rfl) rfl ?_
                rintro _ _ ⟨rfl, rfl⟩
                show WM mX5_countWays 0 0 Post 13 35 [(0, .ref 0), (1, vI (nn : Int)), (2, vI vz), (3, vI (s : Int)), (4, vI (n : Int))] [] [ob 5 [vI (cnt : Int), .ref 1, .ref 2, .ref 3, .ref 4, .ref 11, .ref 12, vI (arcs : Int), vI (ln : Int), .ref 5, .ref 6, .ref 7, .ref 8, .ref 9, .ref 10], cK 300 (va_up wy2 s (waS wy2 (waE me ln s) (tl as_ at_ s))), cN 300 (va_up fa2 s (foF fa2 fw2 (waE me ln s) (tl as_ at_ s)).1), cK 300 (va_up fw2 s (foF fa2 fw2 (waE me ln s) (tl as_ at_ s)).2), cN 301 as_, cK 2107 me, cI 401 fb, cI 300 nb, cK 4 wu, cI 200 fk, cI 512 nw, cN nA aw, cN nA at_] 0 0
                refine sq_ok rfl [(.aload_n 0, 0, 0, 0), (.getfield 37, 5, 11, 0), (.iload_n 3, 0, 0, 0), (.iaload, 0, 0, 0)] 35 _ _ _ _ _ (by decide +kernel) ?_
                show ∃ j40 : Nat, mj 300 (kI (s : Int)) j40 ∧ WM mX5_countWays 0 0 Post 13 41 [(0, .ref 0), (1, vI (nn : Int)), (2, vI vz), (3, vI (s : Int)), (4, vI (n : Int))] [.int (kI (nb j40))] [ob 5 [vI (cnt : Int), .ref 1, .ref 2, .ref 3, .ref 4, .ref 11, .ref 12, vI (arcs : Int), vI (ln : Int), .ref 5, .ref 6, .ref 7, .ref 8, .ref 9, .ref 10], cK 300 (va_up wy2 s (waS wy2 (waE me ln s) (tl as_ at_ s))), cN 300 (va_up fa2 s (foF fa2 fw2 (waE me ln s) (tl as_ at_ s)).1), cK 300 (va_up fw2 s (foF fa2 fw2 (waE me ln s) (tl as_ at_ s)).2), cN 301 as_, cK 2107 me, cI 401 fb, cI 300 nb, cK 4 wu, cI 200 fk, cI 512 nw, cN nA aw, cN nA at_] 0 0
                refine ⟨s, ⟨by omega, by omega, rfl⟩, ?_⟩
                have e8 : kI (nb s) = kI (oI (lstE (fun s => lwf (mS me s)) (v - 1) s)) := by rw [hR.2.2.2.2.2.1 s (by omega)]; show kI (oI (lstE _ (lwf (mS me s)) s)) = _; rw [hs4]
                rw [e8]
                refine sq_ok rfl [(.istore_n 3, 0, 0, 0), (.iinc 4 1, 0, 0, 0), (.goto (-27), 0, 0, 0)] 41 _ _ _ _ _ (by decide +kernel) ?_
                show WM mX5_countWays 0 0 Post 13 18 [(0, .ref 0), (1, vI (nn : Int)), (2, vI vz), (3, vI (oI (lstE (fun s => lwf (mS me s)) (v - 1) s))), (4, .int ((kI (n : Int)) + (kI 1)))] [] [ob 5 [vI (cnt : Int), .ref 1, .ref 2, .ref 3, .ref 4, .ref 11, .ref 12, vI (arcs : Int), vI (ln : Int), .ref 5, .ref 6, .ref 7, .ref 8, .ref 9, .ref 10], cK 300 (va_up wy2 s (waS wy2 (waE me ln s) (tl as_ at_ s))), cN 300 (va_up fa2 s (foF fa2 fw2 (waE me ln s) (tl as_ at_ s)).1), cK 300 (va_up fw2 s (foF fa2 fw2 (waE me ln s) (tl as_ at_ s)).2), cN 301 as_, cK 2107 me, cI 401 fb, cI 300 nb, cK 4 wu, cI 200 fk, cI 512 nw, cN nA aw, cN nA at_] 0 0
                have e9 : ((kI (n : Int)) + (kI 1)) = kI (((n + 1) : Nat) : Int) := by first | (simp only [kI_add, kI_sub, kI_mul]; done) | (simp only [kI_add, kI_sub, kI_mul]; rfl)
                rw [e9]
                exact WM.pick [0, 1, 2, 3, 4] rfl (ih18 s (n + 1) (va_up wy2 s (waS wy2 (waE me ln s) (tl as_ at_ s))) (va_up fa2 s (foF fa2 fw2 (waE me ln s) (tl as_ at_ s)).1) (va_up fw2 s (foF fa2 fw2 (waE me ln s) (tl as_ at_ s)).2) (by omega) (fun s2 h6 h7 => by
                    by_cases h8 : s2 = s
                    · rw [h8]
                      exact eqW_new (fun t ht he => by have := htm t ht; rw [he] at this; omega) (by omega)
                    · have h9 : v ≤ lwf (mS me s2) ∨ (lwf (mS me s2) = v - 1 ∧ k ≤ s2) := by
                        rcases h7 with h7 | h7
                        · exact Or.inl h7
                        · right
                          refine ⟨h7.1, ?_⟩
                          rcases Nat.lt_or_ge s2 k with h10 | h10
                          · exact absurd h7.1 (hs5 s2 (by omega) h10)
                          · exact h10
                      refine eqW_up (hq2 s2 h6 h9) h8 (fun t ht he => ?_)
                      obtain ⟨j, g1, g2, g3⟩ := tl_mem.mp ht
                      have := (hT s2 h6).2.2 j g1 g2
                      rw [g3, he] at this
                      omega) (by omega))
        exact WM.pick [0, 1, 2, 3, 4] rfl (lp18 _ cnt 0 wy1 fa1 fw1 (by omega) (fun s hs h5 => hq s hs (by rcases h5 with h5 | h5; exact h5; omega)) (Nat.lt_succ_self _))
  exact WM.pick [0, 1, 2] rfl (lp4 _ nn ((nn : Int) - 1) wy fa fw (by omega) (by omega) (fun s hs h5 => by have := lowB_lt (hR.lw hnn s hs) (hR.2.2.2.1 s hs).2; omega) (Nat.lt_succ_self _))
