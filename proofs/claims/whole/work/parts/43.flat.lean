/-! Flat -/
def tmF (c n : Nat) : Nat := if 0 < n ∧ 4000000000000000000 / n < c then 4000000000000000000 else c * n
theorem tmF_le {c n : Nat} (hc : c ≤ 4000000000000000000) : tmF c n ≤ 4000000000000000000 := by
  unfold tmF
  split
  · exact Nat.le_refl _
  · rename_i h
    by_cases hn : 0 < n
    · have h1 : c ≤ 4000000000000000000 / n := by
        rcases Nat.lt_or_ge (4000000000000000000 / n) c with h2 | h2
        · exact absurd ⟨hn, h2⟩ h
        · exact h2
      exact Nat.le_trans (Nat.mul_le_mul_right n h1) (Nat.div_mul_le_self _ _)
    · rw [show n = 0 by omega]; omega
def spG (ch : Nat → Nat) : Nat → Nat → Nat
  | 0, _ => 1
  | j + 1, p => tmF (spG ch j (p + 1)) (ch p)
theorem spG_le {ch : Nat → Nat} : ∀ j p, spG ch j p ≤ 4000000000000000000
  | 0, _ => by show 1 ≤ _; omega
  | j + 1, p => tmF_le (spG_le j (p + 1))
def wP (wa : Nat → Nat) (p : Nat) : List Nat := blk (fun i => wa (4 * p + i)) 4 0
def wLs (f : Nat → List Nat) (n : Nat) : List Nat := (List.range n).flatMap f
theorem wLs_succ (f : Nat → List Nat) (n : Nat) : wLs f (n + 1) = wLs f n ++ f n := by
  unfold wLs
  rw [List.range_succ, List.flatMap_append]
  simp
theorem wLs_mono (f : Nat → List Nat) {a b : Nat} (h : a ≤ b) : (wLs f a).length ≤ (wLs f b).length := by
  induction b with
  | zero => rw [show a = 0 by omega]; exact Nat.le_refl _
  | succ b ih =>
    rcases Nat.lt_or_ge b a with h1 | h1
    · rw [show a = b + 1 by omega]; exact Nat.le_refl _
    · rw [wLs_succ, List.length_append]
      have := ih h1
      omega
theorem lsI_succ {wd : Nat → Nat} {l v : Nat} : (List.range (l + 1)).map (va_up wd l v) = (List.range l).map wd ++ [v] := lsN_succ

set_option maxRecDepth 100000 in
set_option maxHeartbeats 500000 in
theorem c_X0_init  : CT mX0_init 5 1299 [.ref 0] [ob 0 [vI 0, .null, .null, .null, .null, .null]] (fun r w => r = none ∧ w = [ob 0 [vI 0, .ref 1, .ref 2, .ref 3, .ref 4, .ref 5], cN 65 (fun _ => 0), cN 512 (fun _ => 0), cK 65 (fun _ => 0), cN 401 (fun _ => 0), cK 256 (fun _ => 0)]) := by
  refine CT.intro rfl (Nat.le_of_ble_eq_true rfl) ?_
  generalize hPost : (fun r w => r = none ∧ w = [ob 0 [vI 0, .ref 1, .ref 2, .ref 3, .ref 4, .ref 5], cN 65 (fun _ => 0), cN 512 (fun _ => 0), cK 65 (fun _ => 0), cN 401 (fun _ => 0), cK 256 (fun _ => 0)] : MP) = Post
  have hPo : ∀ rr ww, (fun r w => r = none ∧ w = [ob 0 [vI 0, .ref 1, .ref 2, .ref 3, .ref 4, .ref 5], cN 65 (fun _ => 0), cN 512 (fun _ => 0), cK 65 (fun _ => 0), cN 401 (fun _ => 0), cK 256 (fun _ => 0)] : MP) rr ww → Post rr ww := by rw [← hPost]; exact fun _ _ h => h
  clear hPost
  show WM mX0_init 5 1299 Post 1 0 [(0, .ref 0)] [] [ob 0 [vI 0, .null, .null, .null, .null, .null]] 0 0
  refine sq_ok rfl [(.aload_n 0, 0, 0, 0)] 0 _ _ _ _ _ (by decide +kernel) ?_
  show WM mX0_init 5 1299 Post 1 1 [(0, .ref 0)] [.ref 0] [ob 0 [vI 0, .null, .null, .null, .null, .null]] 0 0
  refine wm_obj (by decide +kernel) kX0_3 ⟨Nat.le_of_ble_eq_true rfl, Nat.le_of_ble_eq_true rfl⟩ ?_
  show WM mX0_init 5 1299 Post 1 4 [(0, .ref 0)] [] [ob 0 [vI 0, .null, .null, .null, .null, .null]] 0 0
  refine sq_ok rfl [(.aload_n 0, 0, 0, 0), (.bipush 65, 0, 0, 0), (.newarray .int, 0, 0, 0), (.putfield 9, 0, 1, 0)] 4 _ _ _ _ _ (by decide +kernel) ?_
  show ∃ N7 : Nat, (kI 65 = kI (N7 : Int) ∧ N7 ≤ 1000000 ∧ 0 + 1 ≤ 5 ∧ 0 + N7 ≤ 1299) ∧ WM mX0_init 5 1299 Post 1 12 [(0, .ref 0)] [] [ob 0 [vI 0, .ref 1, .null, .null, .null, .null], cI N7 (fun _ => 0)] 1 (0 + N7)
  refine ⟨65, ⟨rfl, Nat.le_of_ble_eq_true rfl, Nat.le_of_ble_eq_true rfl, Nat.le_of_ble_eq_true rfl⟩, ?_⟩
  refine sq_ok rfl [(.aload_n 0, 0, 0, 0), (.sipush 512, 0, 0, 0), (.newarray .int, 0, 0, 0), (.putfield 15, 0, 2, 0)] 12 _ _ _ _ _ (by decide +kernel) ?_
  show ∃ N16 : Nat, (kI 512 = kI (N16 : Int) ∧ N16 ≤ 1000000 ∧ 1 + 1 ≤ 5 ∧ 0 + 65 + N16 ≤ 1299) ∧ WM mX0_init 5 1299 Post 1 21 [(0, .ref 0)] [] [ob 0 [vI 0, .ref 1, .ref 2, .null, .null, .null], cI 65 (fun _ => 0), cI N16 (fun _ => 0)] 2 (0 + 65 + N16)
  refine ⟨512, ⟨rfl, Nat.le_of_ble_eq_true rfl, Nat.le_of_ble_eq_true rfl, Nat.le_of_ble_eq_true rfl⟩, ?_⟩
  refine sq_ok rfl [(.aload_n 0, 0, 0, 0), (.bipush 65, 0, 0, 0), (.newarray .long, 0, 0, 0), (.putfield 18, 0, 3, 0)] 21 _ _ _ _ _ (by decide +kernel) ?_
  show ∃ N24 : Nat, (kI 65 = kI (N24 : Int) ∧ N24 ≤ 1000000 ∧ 2 + 1 ≤ 5 ∧ 0 + 65 + 512 + N24 ≤ 1299) ∧ WM mX0_init 5 1299 Post 1 29 [(0, .ref 0)] [] [ob 0 [vI 0, .ref 1, .ref 2, .ref 3, .null, .null], cI 65 (fun _ => 0), cI 512 (fun _ => 0), cJ N24 (fun _ => 0)] 3 (0 + 65 + 512 + N24)
  refine ⟨65, ⟨rfl, Nat.le_of_ble_eq_true rfl, Nat.le_of_ble_eq_true rfl, Nat.le_of_ble_eq_true rfl⟩, ?_⟩
  refine sq_ok rfl [(.aload_n 0, 0, 0, 0), (.sipush 401, 0, 0, 0), (.newarray .int, 0, 0, 0), (.putfield 22, 0, 4, 0)] 29 _ _ _ _ _ (by decide +kernel) ?_
  show ∃ N33 : Nat, (kI 401 = kI (N33 : Int) ∧ N33 ≤ 1000000 ∧ 3 + 1 ≤ 5 ∧ 0 + 65 + 512 + 65 + N33 ≤ 1299) ∧ WM mX0_init 5 1299 Post 1 38 [(0, .ref 0)] [] [ob 0 [vI 0, .ref 1, .ref 2, .ref 3, .ref 4, .null], cI 65 (fun _ => 0), cI 512 (fun _ => 0), cJ 65 (fun _ => 0), cI N33 (fun _ => 0)] 4 (0 + 65 + 512 + 65 + N33)
  refine ⟨401, ⟨rfl, Nat.le_of_ble_eq_true rfl, Nat.le_of_ble_eq_true rfl, Nat.le_of_ble_eq_true rfl⟩, ?_⟩
  refine sq_ok rfl [(.aload_n 0, 0, 0, 0), (.sipush 256, 0, 0, 0), (.newarray .long, 0, 0, 0), (.putfield 27, 0, 5, 0)] 38 _ _ _ _ _ (by decide +kernel) ?_
  show ∃ N42 : Nat, (kI 256 = kI (N42 : Int) ∧ N42 ≤ 1000000 ∧ 4 + 1 ≤ 5 ∧ 0 + 65 + 512 + 65 + 401 + N42 ≤ 1299) ∧ WM mX0_init 5 1299 Post 1 47 [(0, .ref 0)] [] [ob 0 [vI 0, .ref 1, .ref 2, .ref 3, .ref 4, .ref 5], cI 65 (fun _ => 0), cI 512 (fun _ => 0), cJ 65 (fun _ => 0), cI 401 (fun _ => 0), cJ N42 (fun _ => 0)] 5 (0 + 65 + 512 + 65 + 401 + N42)
  refine ⟨256, ⟨rfl, Nat.le_of_ble_eq_true rfl, Nat.le_of_ble_eq_true rfl, Nat.le_of_ble_eq_true rfl⟩, ?_⟩
  refine sq_ok rfl [(.return_, 0, 0, 0)] 47 _ _ _ _ _ (by decide +kernel) ?_
  show ((5 ≤ 5 ∧ 0 + 65 + 512 + 65 + 401 + 256 ≤ 1299) ∧ Post none [ob 0 [vI 0, .ref 1, .ref 2, .ref 3, .ref 4, .ref 5], cI 65 (fun _ => 0), cI 512 (fun _ => 0), cJ 65 (fun _ => 0), cI 401 (fun _ => 0), cJ 256 (fun _ => 0)])
  refine ⟨⟨Nat.le_refl _, (by omega)⟩, hPo _ _ ?_⟩
  exact ⟨rfl, rfl⟩

set_option maxRecDepth 100000 in
set_option maxHeartbeats 500000 in
theorem c_X0_choices (ps : Nat) (sv wd sp pl wa : Nat → Nat) (p : Nat) (hp : p < 64) (h : sv p ≤ sv (p + 1)) (h2 : sv (p + 1) < 2147483648) : CT mX0_choices 0 0 [.ref 0, vI (p : Int)] [ob 0 [vI (ps : Int), .ref 1, .ref 2, .ref 3, .ref 4, .ref 5], cN 65 sv, cN 512 wd, cK 65 sp, cN 401 pl, cK 256 wa] (fun r w => r = some (vI ((sv (p + 1) - sv p : Nat) : Int)) ∧ w = [ob 0 [vI (ps : Int), .ref 1, .ref 2, .ref 3, .ref 4, .ref 5], cN 65 sv, cN 512 wd, cK 65 sp, cN 401 pl, cK 256 wa]) := by
  refine CT.intro rfl (Nat.le_of_ble_eq_true rfl) ?_
  generalize hPost : (fun r w => r = some (vI ((sv (p + 1) - sv p : Nat) : Int)) ∧ w = [ob 0 [vI (ps : Int), .ref 1, .ref 2, .ref 3, .ref 4, .ref 5], cN 65 sv, cN 512 wd, cK 65 sp, cN 401 pl, cK 256 wa] : MP) = Post
  have hPo : ∀ rr ww, (fun r w => r = some (vI ((sv (p + 1) - sv p : Nat) : Int)) ∧ w = [ob 0 [vI (ps : Int), .ref 1, .ref 2, .ref 3, .ref 4, .ref 5], cN 65 sv, cN 512 wd, cK 65 sp, cN 401 pl, cK 256 wa] : MP) rr ww → Post rr ww := by rw [← hPost]; exact fun _ _ h => h
  clear hPost
  show WM mX0_choices 0 0 Post 6 0 [(0, .ref 0), (1, vI (p : Int))] [] [ob 0 [vI (ps : Int), .ref 1, .ref 2, .ref 3, .ref 4, .ref 5], cN 65 sv, cN 512 wd, cK 65 sp, cN 401 pl, cK 256 wa] 0 0
  refine sq_ok rfl [(.aload_n 0, 0, 0, 0), (.getfield 9, 0, 1, 0), (.iload_n 1, 0, 0, 0), (.iconst 1, 0, 0, 0), (.iadd, 0, 0, 0), (.iaload, 0, 0, 0), (.aload_n 0, 0, 0, 0), (.getfield 9, 0, 1, 0), (.iload_n 1, 0, 0, 0), (.iaload, 0, 0, 0), (.isub, 0, 0, 0)] 0 _ _ _ _ _ (by decide +kernel) ?_
  show ∃ j7 : Nat, mj 65 ((kI (p : Int)) + (kI 1)) j7 ∧ ∃ j13 : Nat, mj 65 (kI (p : Int)) j13 ∧ WM mX0_choices 0 0 Post 6 15 [(0, .ref 0), (1, vI (p : Int))] [.int ((kI ((sv j7 : Nat) : Int)) - (kI ((sv j13 : Nat) : Int)))] [ob 0 [vI (ps : Int), .ref 1, .ref 2, .ref 3, .ref 4, .ref 5], cN 65 sv, cN 512 wd, cK 65 sp, cN 401 pl, cK 256 wa] 0 0
  refine ⟨(p + 1), ⟨by omega, by omega, by rw [kI_add]; rfl⟩, ?_⟩
  refine ⟨p, ⟨by omega, by omega, rfl⟩, ?_⟩
  have e1 : ((kI ((sv (p + 1) : Nat) : Int)) - (kI ((sv p : Nat) : Int))) = kI (((sv (p + 1) - sv p) : Nat) : Int) := by rw [kI_sub]; congr 1; omega
  rw [e1]
  refine sq_ok rfl [(.ireturn, 0, 0, 0)] 15 _ _ _ _ _ (by decide +kernel) ?_
  show ((0 ≤ 0 ∧ 0 ≤ 0) ∧ Post (some (vI (((sv (p + 1) - sv p) : Nat) : Int))) [ob 0 [vI (ps : Int), .ref 1, .ref 2, .ref 3, .ref 4, .ref 5], cN 65 sv, cN 512 wd, cK 65 sp, cN 401 pl, cK 256 wa])
  refine ⟨⟨Nat.le_refl _, Nat.le_refl _⟩, hPo _ _ ?_⟩
  exact ⟨rfl, rfl⟩

set_option maxRecDepth 100000 in
set_option maxHeartbeats 500000 in
theorem c_X0_times (c n : Nat) (hc : c ≤ 4000000000000000000) (hn : n < 2147483648) : CT mX0_times 0 0 [vJ (c : Int), vI (n : Int)] [] (fun r w => r = some (vJ (tmF c n : Nat)) ∧ w = []) := by
  refine CT.intro rfl (Nat.le_of_ble_eq_true rfl) ?_
  generalize hPost : (fun r w => r = some (vJ (tmF c n : Nat)) ∧ w = [] : MP) = Post
  have hPo : ∀ rr ww, (fun r w => r = some (vJ (tmF c n : Nat)) ∧ w = [] : MP) rr ww → Post rr ww := by rw [← hPost]; exact fun _ _ h => h
  clear hPost
  show WM mX0_times 0 0 Post 0 0 [(0, vJ (c : Int)), (2, vI (n : Int))] [] [] 0 0
  refine sq_ok rfl [(.iload_n 2, 0, 0, 0), (.ifCond .le 18, 0, 0, 0)] 0 _ _ _ _ _ (by decide +kernel) ?_
  show (kI (n : Int) ≤ kI 0 → WM mX0_times 0 0 Post 0 19 [(0, vJ (c : Int)), (2, vI (n : Int))] [] [] 0 0) ∧ (¬ kI (n : Int) ≤ kI 0 → WM mX0_times 0 0 Post 0 4 [(0, vJ (c : Int)), (2, vI (n : Int))] [] [] 0 0)
  refine ⟨fun c1 => ?_, fun c1 => ?_⟩
  · 
    rw [kI_le (by omega)] at c1
    refine sq_ok rfl [(.lload_n 0, 0, 0, 0), (.iload_n 2, 0, 0, 0), (.i2l, 0, 0, 0)] 19 _ _ _ _ _ (by decide +kernel) ?_
    show WM mX0_times 0 0 Post 0 22 [(0, vJ (c : Int)), (2, vI (n : Int))] [.long ((kI (n : Int)).toInt64), vJ (c : Int)] [] 0 0
    have e2 : (kI (n : Int)).toInt64 = kL (n : Int) := by exact kI_i2l (by omega)
    rw [e2]
    refine sq_ok rfl [(.lmul, 0, 0, 0), (.lreturn, 0, 0, 0)] 22 _ _ _ _ _ (by decide +kernel) ?_
    show ((0 ≤ 0 ∧ 0 ≤ 0) ∧ Post (some (.long ((kL (c : Int)) * (kL (n : Int))))) [])
    have e3 : ((kL (c : Int)) * (kL (n : Int))) = kL (((c * n) : Nat) : Int) := by first | (simp only [kL_add, kL_sub, kL_mul]; done) | (simp only [kL_add, kL_sub, kL_mul]; rfl)
    rw [e3]
    refine ⟨⟨Nat.le_refl _, Nat.le_refl _⟩, hPo _ _ ?_⟩
    first
    | exact ⟨by rw [show tmF c n = c * n from if_neg (fun q => by omega)], rfl⟩
    | exact ⟨by rw [show tmF c n = c * n from if_neg (fun q => by rw [← hdq] at q; omega)], rfl⟩
  · 
    rw [kI_le (by omega)] at c1
    have hdv : 4000000000000000000 / n ≤ 4000000000000000000 := Nat.div_le_self _ _
    obtain ⟨dq, hdq⟩ : ∃ dq, dq = 4000000000000000000 / n := ⟨_, rfl⟩
    rw [← hdq] at hdv
    refine sq_ok rfl [(.lload_n 0, 0, 0, 0), (.ldc2_w 90, 0, 0, 4000000000000000000), (.iload_n 2, 0, 0, 0), (.i2l, 0, 0, 0)] 4 _ _ _ _ _ (by decide +kernel) ?_
    show WM mX0_times 0 0 Post 0 10 [(0, vJ (c : Int)), (2, vI (n : Int))] [.long ((kI (n : Int)).toInt64), vJ 4000000000000000000, vJ (c : Int)] [] 0 0
    have e4 : (kI (n : Int)).toInt64 = kL (n : Int) := by exact kI_i2l (by omega)
    rw [e4]
    refine sq_ok rfl [(.ldiv, 0, 0, 0)] 10 _ _ _ _ _ (by decide +kernel) ?_
    show ¬ (kL (n : Int)) = 0 ∧ WM mX0_times 0 0 Post 0 11 [(0, vJ (c : Int)), (2, vI (n : Int))] [.long ((kL 4000000000000000000) / (kL (n : Int))), vJ (c : Int)] [] 0 0
    refine ⟨(fun h => by rw [show (0 : Int64) = kL 0 from rfl, kL_eq (by omega)] at h; omega), ?_⟩
    have e5 : ((kL 4000000000000000000) / (kL (n : Int))) = kL (dq : Int) := by rw [hdq]; exact kL_div (a := 4000000000000000000) (by omega) (by omega) (by omega)
    rw [e5]
    refine sq_ok rfl [(.lcmp, 0, 0, 0), (.ifCond .le 7, 0, 0, 0)] 11 _ _ _ _ _ (by decide +kernel) ?_
    show ((lg_cmp (kL (c : Int)) (kL (dq : Int))) ≤ kI 0 → WM mX0_times 0 0 Post 0 19 [(0, vJ (c : Int)), (2, vI (n : Int))] [] [] 0 0) ∧ (¬ (lg_cmp (kL (c : Int)) (kL (dq : Int))) ≤ kI 0 → WM mX0_times 0 0 Post 0 15 [(0, vJ (c : Int)), (2, vI (n : Int))] [] [] 0 0)
    refine ⟨fun c12 => ?_, fun c12 => ?_⟩
    · 
      rw [lc_le, kL_le (by omega)] at c12
      refine sq_ok rfl [(.lload_n 0, 0, 0, 0), (.iload_n 2, 0, 0, 0), (.i2l, 0, 0, 0)] 19 _ _ _ _ _ (by decide +kernel) ?_
      show WM mX0_times 0 0 Post 0 22 [(0, vJ (c : Int)), (2, vI (n : Int))] [.long ((kI (n : Int)).toInt64), vJ (c : Int)] [] 0 0
      have e7 : (kI (n : Int)).toInt64 = kL (n : Int) := by exact kI_i2l (by omega)
      rw [e7]
      refine sq_ok rfl [(.lmul, 0, 0, 0), (.lreturn, 0, 0, 0)] 22 _ _ _ _ _ (by decide +kernel) ?_
      show ((0 ≤ 0 ∧ 0 ≤ 0) ∧ Post (some (.long ((kL (c : Int)) * (kL (n : Int))))) [])
      have e8 : ((kL (c : Int)) * (kL (n : Int))) = kL (((c * n) : Nat) : Int) := by first | (simp only [kL_add, kL_sub, kL_mul]; done) | (simp only [kL_add, kL_sub, kL_mul]; rfl)
      rw [e8]
      refine ⟨⟨Nat.le_refl _, Nat.le_refl _⟩, hPo _ _ ?_⟩
      first
      | exact ⟨by rw [show tmF c n = c * n from if_neg (fun q => by omega)], rfl⟩
      | exact ⟨by rw [show tmF c n = c * n from if_neg (fun q => by rw [← hdq] at q; omega)], rfl⟩
    · 
      rw [lc_le, kL_le (by omega)] at c12
      refine sq_ok rfl [(.ldc2_w 90, 0, 0, 4000000000000000000), (.lreturn, 0, 0, 0)] 15 _ _ _ _ _ (by decide +kernel) ?_
      show ((0 ≤ 0 ∧ 0 ≤ 0) ∧ Post (some (vJ 4000000000000000000)) [])
      refine ⟨⟨Nat.le_refl _, Nat.le_refl _⟩, hPo _ _ ?_⟩
      exact ⟨by rw [show tmF c n = 4000000000000000000 from if_pos ⟨by omega, by rw [← hdq]; omega⟩]; rfl, rfl⟩

set_option maxRecDepth 100000 in
set_option maxHeartbeats 500000 in
theorem c_X0_listWords (ps : Nat) (sv wd sp pl wa : Nat → Nat) (hps : ps ≤ 64) (hwa : ∀ j, j < 256 → wa j < 18446744073709551616) (hW : (wLs (wP wa) ps).length ≤ 512) : CT mX0_listWords 0 0 [.ref 0] [ob 0 [vI (ps : Int), .ref 1, .ref 2, .ref 3, .ref 4, .ref 5], cN 65 sv, cN 512 wd, cK 65 sp, cN 401 pl, cK 256 wa] (fun r w => ∃ sv2 wd2 : Nat → Nat, r = none ∧ w = [ob 0 [vI (ps : Int), .ref 1, .ref 2, .ref 3, .ref 4, .ref 5], cN 65 sv2, cN 512 wd2, cK 65 sp, cN 401 pl, cK 256 wa] ∧ (∀ p, p ≤ ps → sv2 p = (wLs (wP wa) p).length) ∧ (List.range (wLs (wP wa) ps).length).map wd2 = wLs (wP wa) ps) := by
  refine CT.intro rfl (Nat.le_of_ble_eq_true rfl) ?_
  generalize hPost : (fun r w => ∃ sv2 wd2 : Nat → Nat, r = none ∧ w = [ob 0 [vI (ps : Int), .ref 1, .ref 2, .ref 3, .ref 4, .ref 5], cN 65 sv2, cN 512 wd2, cK 65 sp, cN 401 pl, cK 256 wa] ∧ (∀ p, p ≤ ps → sv2 p = (wLs (wP wa) p).length) ∧ (List.range (wLs (wP wa) ps).length).map wd2 = wLs (wP wa) ps : MP) = Post
  have hPo : ∀ rr ww, (fun r w => ∃ sv2 wd2 : Nat → Nat, r = none ∧ w = [ob 0 [vI (ps : Int), .ref 1, .ref 2, .ref 3, .ref 4, .ref 5], cN 65 sv2, cN 512 wd2, cK 65 sp, cN 401 pl, cK 256 wa] ∧ (∀ p, p ≤ ps → sv2 p = (wLs (wP wa) p).length) ∧ (List.range (wLs (wP wa) ps).length).map wd2 = wLs (wP wa) ps : MP) rr ww → Post rr ww := by rw [← hPost]; exact fun _ _ h => h
  clear hPost
  show WM mX0_listWords 0 0 Post 6 0 [(0, .ref 0)] [] [ob 0 [vI (ps : Int), .ref 1, .ref 2, .ref 3, .ref 4, .ref 5], cN 65 sv, cN 512 wd, cK 65 sp, cN 401 pl, cK 256 wa] 0 0
  refine sq_ok rfl [(.iconst 0, 0, 0, 0), (.istore_n 1, 0, 0, 0), (.iconst 0, 0, 0, 0), (.istore_n 2, 0, 0, 0)] 0 _ _ _ _ _ (by decide +kernel) ?_
  show WM mX0_listWords 0 0 Post 6 4 [(0, .ref 0), (1, vI 0), (2, vI 0)] [] [ob 0 [vI (ps : Int), .ref 1, .ref 2, .ref 3, .ref 4, .ref 5], cN 65 sv, cN 512 wd, cK 65 sp, cN 401 pl, cK 256 wa] 0 0
  have lp4 : ∀ (n4 : Nat) (l : Nat) (p : Nat) (sv1 : Nat → Nat) (wd1 : Nat → Nat), (p ≤ ps) → ((List.range l).map wd1 = wLs (wP wa) p) → (∀ q, q < p → sv1 q = (wLs (wP wa) q).length) → (ps - p) < n4 → WM mX0_listWords 0 0 Post 6 4 [(0, .ref 0), (1, vI (l : Int)), (2, vI (p : Int))] [] [ob 0 [vI (ps : Int), .ref 1, .ref 2, .ref 3, .ref 4, .ref 5], cN 65 sv1, cN 512 wd1, cK 65 sp, cN 401 pl, cK 256 wa] 0 0 := by
    intro n4
    induction n4 with
    | zero => intro l p sv1 wd1 hp hl hs hm; exact absurd hm (Nat.not_lt_zero _)
    | succ n4 ih4 =>
      intro l p sv1 wd1 hp hl hs hm4
      have hl0 := congrArg List.length hl
      rw [List.length_map, List.length_range] at hl0
      have hlm := wLs_mono (wP wa) hp
      refine sq_ok rfl [(.iload_n 2, 0, 0, 0), (.aload_n 0, 0, 0, 0), (.getfield 64, 0, 0, 0), (.if_icmp .ge 96, 0, 0, 0)] 4 _ _ _ _ _ (by decide +kernel) ?_
      show (kI (ps : Int) ≤ kI (p : Int) → WM mX0_listWords 0 0 Post 6 105 [(0, .ref 0), (1, vI (l : Int)), (2, vI (p : Int))] [] [ob 0 [vI (ps : Int), .ref 1, .ref 2, .ref 3, .ref 4, .ref 5], cN 65 sv1, cN 512 wd1, cK 65 sp, cN 401 pl, cK 256 wa] 0 0) ∧ (¬ kI (ps : Int) ≤ kI (p : Int) → WM mX0_listWords 0 0 Post 6 12 [(0, .ref 0), (1, vI (l : Int)), (2, vI (p : Int))] [] [ob 0 [vI (ps : Int), .ref 1, .ref 2, .ref 3, .ref 4, .ref 5], cN 65 sv1, cN 512 wd1, cK 65 sp, cN 401 pl, cK 256 wa] 0 0)
      refine ⟨fun c9 => ?_, fun c9 => ?_⟩
      · 
        rw [kI_le (by omega)] at c9
        refine sq_ok rfl [(.aload_n 0, 0, 0, 0), (.getfield 9, 0, 1, 0), (.aload_n 0, 0, 0, 0), (.getfield 64, 0, 0, 0), (.iload_n 1, 0, 0, 0), (.iastore, 0, 0, 0)] 105 _ _ _ _ _ (by decide +kernel) ?_
        show ∃ (j114 : Nat) (g114 : Nat → Int32), (mj 65 (kI (ps : Int)) j114 ∧ g114 = upd (fun q => kI ((sv1 q : Nat) : Int)) j114 (kI (l : Int))) ∧ WM mX0_listWords 0 0 Post 6 115 [(0, .ref 0), (1, vI (l : Int)), (2, vI (p : Int))] [] [ob 0 [vI (ps : Int), .ref 1, .ref 2, .ref 3, .ref 4, .ref 5], .inl (0, 65, .inl g114), cN 512 wd1, cK 65 sp, cN 401 pl, cK 256 wa] 0 0
        refine ⟨ps, fun q => kI (((va_up sv1 ps l) q : Nat) : Int), ⟨⟨by omega, by omega, rfl⟩, st_N (rfl)⟩, ?_⟩
        refine sq_ok rfl [(.return_, 0, 0, 0)] 115 _ _ _ _ _ (by decide +kernel) ?_
        show ((0 ≤ 0 ∧ 0 ≤ 0) ∧ Post none [ob 0 [vI (ps : Int), .ref 1, .ref 2, .ref 3, .ref 4, .ref 5], cN 65 (va_up sv1 ps l), cN 512 wd1, cK 65 sp, cN 401 pl, cK 256 wa])
        refine ⟨⟨Nat.le_refl _, Nat.le_refl _⟩, hPo _ _ ?_⟩
        have e : p = ps := by omega
        rw [e] at hl hl0 hs
        refine ⟨_, wd1, rfl, rfl, fun q hq => ?_, by rw [← hl0]; exact hl⟩
        by_cases h5 : q = ps
        · rw [h5, up_eq]; exact hl0
        · rw [up_ne _ _ h5]; exact hs q (by omega)
      · 
        rw [kI_le (by omega)] at c9
        refine sq_ok rfl [(.aload_n 0, 0, 0, 0), (.getfield 9, 0, 1, 0), (.iload_n 2, 0, 0, 0), (.iload_n 1, 0, 0, 0), (.iastore, 0, 0, 0)] 12 _ _ _ _ _ (by decide +kernel) ?_
        show ∃ (j18 : Nat) (g18 : Nat → Int32), (mj 65 (kI (p : Int)) j18 ∧ g18 = upd (fun q => kI ((sv1 q : Nat) : Int)) j18 (kI (l : Int))) ∧ WM mX0_listWords 0 0 Post 6 19 [(0, .ref 0), (1, vI (l : Int)), (2, vI (p : Int))] [] [ob 0 [vI (ps : Int), .ref 1, .ref 2, .ref 3, .ref 4, .ref 5], .inl (0, 65, .inl g18), cN 512 wd1, cK 65 sp, cN 401 pl, cK 256 wa] 0 0
        refine ⟨p, fun q => kI (((va_up sv1 p l) q : Nat) : Int), ⟨⟨by omega, by omega, rfl⟩, st_N (rfl)⟩, ?_⟩
        refine sq_ok rfl [(.iconst 0, 0, 0, 0), (.istore_n 3, 0, 0, 0)] 19 _ _ _ _ _ (by decide +kernel) ?_
        show WM mX0_listWords 0 0 Post 6 21 [(0, .ref 0), (1, vI (l : Int)), (2, vI (p : Int)), (3, vI 0)] [] [ob 0 [vI (ps : Int), .ref 1, .ref 2, .ref 3, .ref 4, .ref 5], cN 65 (va_up sv1 p l), cN 512 wd1, cK 65 sp, cN 401 pl, cK 256 wa] 0 0
        have lp21 : ∀ (n21 : Nat) (l1 : Nat) (i : Nat) (wd3 : Nat → Nat), (i ≤ 4) → ((List.range l1).map wd3 ++ blk (fun i => wa (4 * p + i)) (4 - i) i = wLs (wP wa) (p + 1)) → (4 - i) < n21 → WM mX0_listWords 0 0 Post 6 21 [(0, .ref 0), (1, vI (l1 : Int)), (2, vI (p : Int)), (3, vI (i : Int))] [] [ob 0 [vI (ps : Int), .ref 1, .ref 2, .ref 3, .ref 4, .ref 5], cN 65 (va_up sv1 p l), cN 512 wd3, cK 65 sp, cN 401 pl, cK 256 wa] 0 0 := by
          intro n21
          induction n21 with
          | zero => intro l1 i wd3 hi hl1 hm; exact absurd hm (Nat.not_lt_zero _)
          | succ n21 ih21 =>
            intro l1 i wd3 hi hl1 hm21
            have hl1b := congrArg List.length hl1
            rw [List.length_append, List.length_map, List.length_range] at hl1b
            have hm1 := wLs_mono (wP wa) (show p + 1 ≤ ps by omega)
            refine sq_ok rfl [(.iload_n 3, 0, 0, 0), (.iconst 4, 0, 0, 0), (.if_icmp .ge 76, 0, 0, 0)] 21 _ _ _ _ _ (by decide +kernel) ?_
            show (kI 4 ≤ kI (i : Int) → WM mX0_listWords 0 0 Post 6 99 [(0, .ref 0), (1, vI (l1 : Int)), (2, vI (p : Int)), (3, vI (i : Int))] [] [ob 0 [vI (ps : Int), .ref 1, .ref 2, .ref 3, .ref 4, .ref 5], cN 65 (va_up sv1 p l), cN 512 wd3, cK 65 sp, cN 401 pl, cK 256 wa] 0 0) ∧ (¬ kI 4 ≤ kI (i : Int) → WM mX0_listWords 0 0 Post 6 26 [(0, .ref 0), (1, vI (l1 : Int)), (2, vI (p : Int)), (3, vI (i : Int))] [] [ob 0 [vI (ps : Int), .ref 1, .ref 2, .ref 3, .ref 4, .ref 5], cN 65 (va_up sv1 p l), cN 512 wd3, cK 65 sp, cN 401 pl, cK 256 wa] 0 0)
            refine ⟨fun c23 => ?_, fun c23 => ?_⟩
            · 
              rw [kI_le (by omega)] at c23
              refine sq_ok rfl [(.iinc 2 1, 0, 0, 0), (.goto (-98), 0, 0, 0)] 99 _ _ _ _ _ (by decide +kernel) ?_
              show WM mX0_listWords 0 0 Post 6 4 [(0, .ref 0), (1, vI (l1 : Int)), (2, .int ((kI (p : Int)) + (kI 1))), (3, vI (i : Int))] [] [ob 0 [vI (ps : Int), .ref 1, .ref 2, .ref 3, .ref 4, .ref 5], cN 65 (va_up sv1 p l), cN 512 wd3, cK 65 sp, cN 401 pl, cK 256 wa] 0 0
              have e3 : ((kI (p : Int)) + (kI 1)) = kI (((p + 1) : Nat) : Int) := by first | (simp only [kI_add, kI_sub, kI_mul]; done) | (simp only [kI_add, kI_sub, kI_mul]; rfl)
              rw [e3]
              exact WM.pick [0, 1, 2] rfl (ih4 l1 (p + 1) (va_up sv1 p l) wd3 (by omega) (by rw [show i = 4 by omega] at hl1; rw [← hl1]; exact (List.append_nil _).symm) (fun q hq => by by_cases h5 : q = p; (rw [h5, up_eq]; exact hl0); (rw [up_ne _ _ h5]; exact hs q (by omega))) (by omega))
            · 
              rw [kI_le (by omega)] at c23
              refine sq_ok rfl [(.aload_n 0, 0, 0, 0), (.getfield 27, 0, 5, 0), (.iload_n 2, 0, 0, 0), (.iconst 4, 0, 0, 0), (.imul, 0, 0, 0), (.iload_n 3, 0, 0, 0), (.iadd, 0, 0, 0), (.laload, 0, 0, 0), (.lstore 4, 0, 0, 0), (.lload 4, 0, 0, 0)] 26 _ _ _ _ _ (by decide +kernel) ?_
              show ∃ j35 : Nat, mj 256 (((kI (p : Int)) * (kI 4)) + (kI (i : Int))) j35 ∧ WM mX0_listWords 0 0 Post 6 40 [(0, .ref 0), (1, vI (l1 : Int)), (2, vI (p : Int)), (3, vI (i : Int)), (4, vJ ((wa j35 : Nat) : Int))] [vJ ((wa j35 : Nat) : Int)] [ob 0 [vI (ps : Int), .ref 1, .ref 2, .ref 3, .ref 4, .ref 5], cN 65 (va_up sv1 p l), cN 512 wd3, cK 65 sp, cN 401 pl, cK 256 wa] 0 0
              refine ⟨(4 * p + i), ⟨by omega, by omega, by rw [kI_mul, kI_add]; congr 1; omega⟩, ?_⟩
              refine wm_callS (y := mX0_listWords) mJ13_bitCount_95d88 [] (pc := 40) (rest := []) (mc' := 0) (ms' := 0) (by decide +kernel) kX0_73 (c_bitCount (wa (4 * p + i)) (hwa _ (by omega))) rfl ⟨Nat.le_of_ble_eq_true rfl, Nat.le_of_ble_eq_true rfl⟩ ⟨Nat.le_of_ble_eq_true rfl, Nat.le_of_ble_eq_true rfl⟩ (Nat.le_of_ble_eq_true rfl) rfl rfl (Nat.le_of_ble_eq_true rfl) rfl ?_
              rintro _ _ ⟨rfl, rfl⟩
              show WM mX0_listWords 0 0 Post 6 43 [(0, .ref 0), (1, vI (l1 : Int)), (2, vI (p : Int)), (3, vI (i : Int)), (4, vJ ((wa (4 * p + i) : Nat) : Int))] [vI (((bl (wa (4 * p + i))).length : Nat) : Int)] [ob 0 [vI (ps : Int), .ref 1, .ref 2, .ref 3, .ref 4, .ref 5], cN 65 (va_up sv1 p l), cN 512 wd3, cK 65 sp, cN 401 pl, cK 256 wa] 0 0
              refine sq_ok rfl [(.istore 6, 0, 0, 0)] 43 _ _ _ _ _ (by decide +kernel) ?_
              show WM mX0_listWords 0 0 Post 6 45 [(0, .ref 0), (1, vI (l1 : Int)), (2, vI (p : Int)), (3, vI (i : Int)), (4, vJ ((wa (4 * p + i) : Nat) : Int)), (6, vI (((bl (wa (4 * p + i))).length : Nat) : Int))] [] [ob 0 [vI (ps : Int), .ref 1, .ref 2, .ref 3, .ref 4, .ref 5], cN 65 (va_up sv1 p l), cN 512 wd3, cK 65 sp, cN 401 pl, cK 256 wa] 0 0
              have lp45 : ∀ (n45 : Nat) (l2 : Nat) (rest : Nat) (nz : Int) (wd4 : Nat → Nat), (rest < 18446744073709551616) → (nz = ((bl rest).length : Int)) → ((List.range l2).map wd4 ++ ((bl rest).map (fun b => 64 * i + b) ++ blk (fun i => wa (4 * p + i)) (3 - i) (i + 1)) = wLs (wP wa) (p + 1)) → ((bl rest).length) < n45 → WM mX0_listWords 0 0 Post 6 45 [(0, .ref 0), (1, vI (l2 : Int)), (2, vI (p : Int)), (3, vI (i : Int)), (4, vJ (rest : Int)), (6, vI nz)] [] [ob 0 [vI (ps : Int), .ref 1, .ref 2, .ref 3, .ref 4, .ref 5], cN 65 (va_up sv1 p l), cN 512 wd4, cK 65 sp, cN 401 pl, cK 256 wa] 0 0 := by
                intro n45
                induction n45 with
                | zero => intro l2 rest nz wd4 hr hn hl2 hm; exact absurd hm (Nat.not_lt_zero _)
                | succ n45 ih45 =>
                  intro l2 rest nz wd4 hr hn hl2 hm45
                  have hbl : (bl rest).length ≤ 64 := Nat.le_trans (List.length_filter_le _ _) (by rw [List.length_range]; exact Nat.le_refl _)
                  have hl2b := congrArg List.length hl2
                  rw [List.length_append, List.length_map, List.length_range, List.length_append, List.length_map] at hl2b
                  refine sq_ok rfl [(.iload 6, 0, 0, 0), (.ifCond .le 46, 0, 0, 0)] 45 _ _ _ _ _ (by decide +kernel) ?_
                  show (kI nz ≤ kI 0 → WM mX0_listWords 0 0 Post 6 93 [(0, .ref 0), (1, vI (l2 : Int)), (2, vI (p : Int)), (3, vI (i : Int)), (4, vJ (rest : Int)), (6, vI nz)] [] [ob 0 [vI (ps : Int), .ref 1, .ref 2, .ref 3, .ref 4, .ref 5], cN 65 (va_up sv1 p l), cN 512 wd4, cK 65 sp, cN 401 pl, cK 256 wa] 0 0) ∧ (¬ kI nz ≤ kI 0 → WM mX0_listWords 0 0 Post 6 50 [(0, .ref 0), (1, vI (l2 : Int)), (2, vI (p : Int)), (3, vI (i : Int)), (4, vJ (rest : Int)), (6, vI nz)] [] [ob 0 [vI (ps : Int), .ref 1, .ref 2, .ref 3, .ref 4, .ref 5], cN 65 (va_up sv1 p l), cN 512 wd4, cK 65 sp, cN 401 pl, cK 256 wa] 0 0)
                  refine ⟨fun c47 => ?_, fun c47 => ?_⟩
                  · 
                    rw [kI_le (by omega)] at c47
                    refine sq_ok rfl [(.iinc 3 1, 0, 0, 0), (.goto (-75), 0, 0, 0)] 93 _ _ _ _ _ (by decide +kernel) ?_
                    show WM mX0_listWords 0 0 Post 6 21 [(0, .ref 0), (1, vI (l2 : Int)), (2, vI (p : Int)), (3, .int ((kI (i : Int)) + (kI 1))), (4, vJ (rest : Int)), (6, vI nz)] [] [ob 0 [vI (ps : Int), .ref 1, .ref 2, .ref 3, .ref 4, .ref 5], cN 65 (va_up sv1 p l), cN 512 wd4, cK 65 sp, cN 401 pl, cK 256 wa] 0 0
                    have e5 : ((kI (i : Int)) + (kI 1)) = kI (((i + 1) : Nat) : Int) := by first | (simp only [kI_add, kI_sub, kI_mul]; done) | (simp only [kI_add, kI_sub, kI_mul]; rfl)
                    rw [e5]
                    have hz : rest = 0 := bl_0 hr (List.eq_nil_of_length_eq_zero (by omega))
                    exact WM.pick [0, 1, 2, 3] rfl (ih21 l2 (i + 1) wd4 (by omega) (by rw [hz, bl_z0, List.map_nil, List.nil_append] at hl2; rw [show 4 - (i + 1) = 3 - i by omega]; exact hl2) (by omega))
                  · 
                    rw [kI_le (by omega)] at c47
                    refine sq_ok rfl [(.iload_n 1, 0, 0, 0), (.aload_n 0, 0, 0, 0), (.getfield 15, 0, 2, 0), (.arraylength, 0, 0, 0), (.if_icmp .ge 37, 0, 0, 0)] 50 _ _ _ _ _ (by decide +kernel) ?_
                    show (kI 512 ≤ kI (l2 : Int) → WM mX0_listWords 0 0 Post 6 93 [(0, .ref 0), (1, vI (l2 : Int)), (2, vI (p : Int)), (3, vI (i : Int)), (4, vJ (rest : Int)), (6, vI nz)] [] [ob 0 [vI (ps : Int), .ref 1, .ref 2, .ref 3, .ref 4, .ref 5], cN 65 (va_up sv1 p l), cN 512 wd4, cK 65 sp, cN 401 pl, cK 256 wa] 0 0) ∧ (¬ kI 512 ≤ kI (l2 : Int) → WM mX0_listWords 0 0 Post 6 59 [(0, .ref 0), (1, vI (l2 : Int)), (2, vI (p : Int)), (3, vI (i : Int)), (4, vJ (rest : Int)), (6, vI nz)] [] [ob 0 [vI (ps : Int), .ref 1, .ref 2, .ref 3, .ref 4, .ref 5], cN 65 (va_up sv1 p l), cN 512 wd4, cK 65 sp, cN 401 pl, cK 256 wa] 0 0)
                    refine ⟨fun c56 => ?_, fun c56 => ?_⟩
                    · 
                      rw [kI_le (by omega)] at c56
                      refine sq_ok rfl [(.iinc 3 1, 0, 0, 0), (.goto (-75), 0, 0, 0)] 93 _ _ _ _ _ (by decide +kernel) ?_
                      show WM mX0_listWords 0 0 Post 6 21 [(0, .ref 0), (1, vI (l2 : Int)), (2, vI (p : Int)), (3, .int ((kI (i : Int)) + (kI 1))), (4, vJ (rest : Int)), (6, vI nz)] [] [ob 0 [vI (ps : Int), .ref 1, .ref 2, .ref 3, .ref 4, .ref 5], cN 65 (va_up sv1 p l), cN 512 wd4, cK 65 sp, cN 401 pl, cK 256 wa] 0 0
                      have e7 : ((kI (i : Int)) + (kI 1)) = kI (((i + 1) : Nat) : Int) := by first | (simp only [kI_add, kI_sub, kI_mul]; done) | (simp only [kI_add, kI_sub, kI_mul]; rfl)
                      rw [e7]
                      have hz : rest = 0 := bl_0 hr (List.eq_nil_of_length_eq_zero (by omega))
                      exact WM.pick [0, 1, 2, 3] rfl (ih21 l2 (i + 1) wd4 (by omega) (by rw [hz, bl_z0, List.map_nil, List.nil_append] at hl2; rw [show 4 - (i + 1) = 3 - i by omega]; exact hl2) (by omega))
                    · 
                      rw [kI_le (by omega)] at c56
                      have hr0 : ¬ rest = 0 := fun h => by rw [h, bl_z] at hn; omega
                      obtain ⟨u, hu, hlw⟩ := bl_low hr hr0
                      have hbc0 := bl_cons hlw hu
                      have hbc := congrArg List.length hbc0
                      rw [List.length_cons] at hbc
                      refine sq_ok rfl [(.aload_n 0, 0, 0, 0), (.getfield 15, 0, 2, 0), (.iload_n 1, 0, 0, 0), (.bipush 64, 0, 0, 0), (.iload_n 3, 0, 0, 0), (.imul, 0, 0, 0), (.lload 4, 0, 0, 0)] 59 _ _ _ _ _ (by decide +kernel) ?_
                      show WM mX0_listWords 0 0 Post 6 70 [(0, .ref 0), (1, vI (l2 : Int)), (2, vI (p : Int)), (3, vI (i : Int)), (4, vJ (rest : Int)), (6, vI nz)] [vJ (rest : Int), .int ((kI 64) * (kI (i : Int))), vI (l2 : Int), .ref 2] [ob 0 [vI (ps : Int), .ref 1, .ref 2, .ref 3, .ref 4, .ref 5], cN 65 (va_up sv1 p l), cN 512 wd4, cK 65 sp, cN 401 pl, cK 256 wa] 0 0
                      have e8 : ((kI 64) * (kI (i : Int))) = kI (((64 * i) : Nat) : Int) := by first | (simp only [kI_add, kI_sub, kI_mul]; done) | (simp only [kI_add, kI_sub, kI_mul]; rfl)
                      rw [e8]
                      refine wm_callS (y := mX0_listWords) mJ13_numberOfTrailingZeros_95d88 [] (pc := 70) (rest := [vI (((64 * i) : Nat) : Int), vI (l2 : Int), .ref 2]) (mc' := 0) (ms' := 0) (by decide +kernel) kX0_79 (c_ntz rest u hr hu hlw) rfl ⟨Nat.le_of_ble_eq_true rfl, Nat.le_of_ble_eq_true rfl⟩ ⟨Nat.le_of_ble_eq_true rfl, Nat.le_of_ble_eq_true rfl⟩ (Nat.le_of_ble_eq_true rfl) rfl rfl (Nat.le_of_ble_eq_true rfl) rfl ?_
                      rintro _ _ ⟨rfl, rfl⟩
                      show WM mX0_listWords 0 0 Post 6 73 [(0, .ref 0), (1, vI (l2 : Int)), (2, vI (p : Int)), (3, vI (i : Int)), (4, vJ (rest : Int)), (6, vI nz)] [vI (u : Int), vI (((64 * i) : Nat) : Int), vI (l2 : Int), .ref 2] [ob 0 [vI (ps : Int), .ref 1, .ref 2, .ref 3, .ref 4, .ref 5], cN 65 (va_up sv1 p l), cN 512 wd4, cK 65 sp, cN 401 pl, cK 256 wa] 0 0
                      refine sq_ok rfl [(.iadd, 0, 0, 0)] 73 _ _ _ _ _ (by decide +kernel) ?_
                      show WM mX0_listWords 0 0 Post 6 74 [(0, .ref 0), (1, vI (l2 : Int)), (2, vI (p : Int)), (3, vI (i : Int)), (4, vJ (rest : Int)), (6, vI nz)] [.int ((kI (((64 * i) : Nat) : Int)) + (kI (u : Int))), vI (l2 : Int), .ref 2] [ob 0 [vI (ps : Int), .ref 1, .ref 2, .ref 3, .ref 4, .ref 5], cN 65 (va_up sv1 p l), cN 512 wd4, cK 65 sp, cN 401 pl, cK 256 wa] 0 0
                      have e9 : ((kI (((64 * i) : Nat) : Int)) + (kI (u : Int))) = kI (((64 * i + u) : Nat) : Int) := by rw [kI_add]; rfl
                      rw [e9]
                      refine sq_ok rfl [(.iastore, 0, 0, 0)] 74 _ _ _ _ _ (by decide +kernel) ?_
                      show ∃ (j74 : Nat) (g74 : Nat → Int32), (mj 512 (kI (l2 : Int)) j74 ∧ g74 = upd (fun q => kI ((wd4 q : Nat) : Int)) j74 (kI (((64 * i + u) : Nat) : Int))) ∧ WM mX0_listWords 0 0 Post 6 75 [(0, .ref 0), (1, vI (l2 : Int)), (2, vI (p : Int)), (3, vI (i : Int)), (4, vJ (rest : Int)), (6, vI nz)] [] [ob 0 [vI (ps : Int), .ref 1, .ref 2, .ref 3, .ref 4, .ref 5], cN 65 (va_up sv1 p l), .inl (0, 512, .inl g74), cK 65 sp, cN 401 pl, cK 256 wa] 0 0
                      refine ⟨l2, fun q => kI (((va_up wd4 l2 (64 * i + u)) q : Nat) : Int), ⟨⟨by omega, by omega, rfl⟩, st_N (rfl)⟩, ?_⟩
                      refine sq_ok rfl [(.lload 4, 0, 0, 0), (.lload 4, 0, 0, 0), (.lconst 1, 0, 0, 0), (.lsub, 0, 0, 0)] 75 _ _ _ _ _ (by decide +kernel) ?_
                      show WM mX0_listWords 0 0 Post 6 81 [(0, .ref 0), (1, vI (l2 : Int)), (2, vI (p : Int)), (3, vI (i : Int)), (4, vJ (rest : Int)), (6, vI nz)] [.long ((kL (rest : Int)) - (kL 1)), vJ (rest : Int)] [ob 0 [vI (ps : Int), .ref 1, .ref 2, .ref 3, .ref 4, .ref 5], cN 65 (va_up sv1 p l), cN 512 (va_up wd4 l2 (64 * i + u)), cK 65 sp, cN 401 pl, cK 256 wa] 0 0
                      have e10 : ((kL (rest : Int)) - (kL 1)) = kL (((rest - 1) : Nat) : Int) := by rw [kL_sub]; congr 1; omega
                      rw [e10]
                      refine sq_ok rfl [(.land, 0, 0, 0)] 81 _ _ _ _ _ (by decide +kernel) ?_
                      show WM mX0_listWords 0 0 Post 6 82 [(0, .ref 0), (1, vI (l2 : Int)), (2, vI (p : Int)), (3, vI (i : Int)), (4, vJ (rest : Int)), (6, vI nz)] [.long ((kL (rest : Int)) &&& (kL (((rest - 1) : Nat) : Int)))] [ob 0 [vI (ps : Int), .ref 1, .ref 2, .ref 3, .ref 4, .ref 5], cN 65 (va_up sv1 p l), cN 512 (va_up wd4 l2 (64 * i + u)), cK 65 sp, cN 401 pl, cK 256 wa] 0 0
                      have e11 : ((kL (rest : Int)) &&& (kL (((rest - 1) : Nat) : Int))) = kL (((rest &&& (rest - 1)) : Nat) : Int) := by exact kL_and hr (by omega)
                      rw [e11]
                      refine sq_ok rfl [(.lstore 4, 0, 0, 0), (.iinc 1 1, 0, 0, 0), (.iinc 6 (-1), 0, 0, 0), (.goto (-45), 0, 0, 0)] 82 _ _ _ _ _ (by decide +kernel) ?_
                      show WM mX0_listWords 0 0 Post 6 45 [(0, .ref 0), (1, .int ((kI (l2 : Int)) + (kI 1))), (2, vI (p : Int)), (3, vI (i : Int)), (4, vJ (((rest &&& (rest - 1)) : Nat) : Int)), (6, .int ((kI nz) + (kI (-1))))] [] [ob 0 [vI (ps : Int), .ref 1, .ref 2, .ref 3, .ref 4, .ref 5], cN 65 (va_up sv1 p l), cN 512 (va_up wd4 l2 (64 * i + u)), cK 65 sp, cN 401 pl, cK 256 wa] 0 0
                      have e12 : ((kI (l2 : Int)) + (kI 1)) = kI (((l2 + 1) : Nat) : Int) := by first | (simp only [kI_add, kI_sub, kI_mul]; done) | (simp only [kI_add, kI_sub, kI_mul]; rfl)
                      rw [e12]
                      have e13 : ((kI nz) + (kI (-1))) = kI (nz + (-1)) := by first | (simp only [kI_add, kI_sub, kI_mul]; done) | (simp only [kI_add, kI_sub, kI_mul]; rfl)
                      rw [e13]
                      exact WM.pick [0, 1, 2, 3, 4, 5] rfl (ih45 (l2 + 1) (rest &&& (rest - 1)) (nz + (-1)) (va_up wd4 l2 (64 * i + u)) (and_lt hr) (by omega) (by rw [lsI_succ, List.append_assoc]; rw [hbc0] at hl2; exact hl2) (by omega))
              exact WM.pick [0, 1, 2, 3, 4, 5] rfl (lp45 _ l1 (wa (4 * p + i)) ((bl (wa (4 * p + i))).length : Int) wd3 (hwa _ (by omega)) rfl (by rw [show 4 - i = (3 - i) + 1 by omega] at hl1; exact hl1) (Nat.lt_succ_self _))
        exact WM.pick [0, 1, 2, 3] rfl (lp21 _ l 0 wd1 (by omega) (by rw [hl, wLs_succ]; rfl) (Nat.lt_succ_self _))
  exact WM.pick [0, 1, 2] rfl (lp4 _ 0 0 sv wd (by omega) rfl (fun q hq => absurd hq (Nat.not_lt_zero _)) (Nat.lt_succ_self _))

set_option maxRecDepth 100000 in
set_option maxHeartbeats 500000 in
theorem c_X0_countSpelled (ps : Nat) (sv wd sp pl wa : Nat → Nat) (hps : ps ≤ 64) (hsv : ∀ p, p < ps → sv p ≤ sv (p + 1)) (hs2 : ∀ p, p ≤ ps → sv p ≤ 512) : CT mX0_countSpelled 0 0 [.ref 0] [ob 0 [vI (ps : Int), .ref 1, .ref 2, .ref 3, .ref 4, .ref 5], cN 65 sv, cN 512 wd, cK 65 sp, cN 401 pl, cK 256 wa] (fun r w => ∃ sp2 : Nat → Nat, r = none ∧ w = [ob 0 [vI (ps : Int), .ref 1, .ref 2, .ref 3, .ref 4, .ref 5], cN 65 sv, cN 512 wd, cK 65 sp2, cN 401 pl, cK 256 wa] ∧ ∀ p, p ≤ ps → sp2 p = spG (fun p => sv (p + 1) - sv p) (ps - p) p) := by
  refine CT.intro rfl (Nat.le_of_ble_eq_true rfl) ?_
  generalize hPost : (fun r w => ∃ sp2 : Nat → Nat, r = none ∧ w = [ob 0 [vI (ps : Int), .ref 1, .ref 2, .ref 3, .ref 4, .ref 5], cN 65 sv, cN 512 wd, cK 65 sp2, cN 401 pl, cK 256 wa] ∧ ∀ p, p ≤ ps → sp2 p = spG (fun p => sv (p + 1) - sv p) (ps - p) p : MP) = Post
  have hPo : ∀ rr ww, (fun r w => ∃ sp2 : Nat → Nat, r = none ∧ w = [ob 0 [vI (ps : Int), .ref 1, .ref 2, .ref 3, .ref 4, .ref 5], cN 65 sv, cN 512 wd, cK 65 sp2, cN 401 pl, cK 256 wa] ∧ ∀ p, p ≤ ps → sp2 p = spG (fun p => sv (p + 1) - sv p) (ps - p) p : MP) rr ww → Post rr ww := by rw [← hPost]; exact fun _ _ h => h
  clear hPost
  show WM mX0_countSpelled 0 0 Post 6 0 [(0, .ref 0)] [] [ob 0 [vI (ps : Int), .ref 1, .ref 2, .ref 3, .ref 4, .ref 5], cN 65 sv, cN 512 wd, cK 65 sp, cN 401 pl, cK 256 wa] 0 0
  refine sq_ok rfl [(.aload_n 0, 0, 0, 0), (.getfield 18, 0, 3, 0), (.aload_n 0, 0, 0, 0), (.getfield 64, 0, 0, 0), (.lconst 1, 0, 0, 0), (.lastore, 0, 0, 0)] 0 _ _ _ _ _ (by decide +kernel) ?_
  show ∃ (j9 : Nat) (g9 : Nat → Int64), (mj 65 (kI (ps : Int)) j9 ∧ g9 = vp_updL (fun q => kL ((sp q : Nat) : Int)) j9 (kL 1)) ∧ WM mX0_countSpelled 0 0 Post 6 10 [(0, .ref 0)] [] [ob 0 [vI (ps : Int), .ref 1, .ref 2, .ref 3, .ref 4, .ref 5], cN 65 sv, cN 512 wd, .inl (1, 65, .inr (.inl g9)), cN 401 pl, cK 256 wa] 0 0
  refine ⟨ps, fun q => kL (((va_up sp ps 1) q : Nat) : Int), ⟨⟨by omega, by omega, rfl⟩, st_K (rfl)⟩, ?_⟩
  refine sq_ok rfl [(.aload_n 0, 0, 0, 0), (.getfield 64, 0, 0, 0), (.iconst 1, 0, 0, 0), (.isub, 0, 0, 0)] 10 _ _ _ _ _ (by decide +kernel) ?_
  show WM mX0_countSpelled 0 0 Post 6 16 [(0, .ref 0)] [.int ((kI (ps : Int)) - (kI 1))] [ob 0 [vI (ps : Int), .ref 1, .ref 2, .ref 3, .ref 4, .ref 5], cN 65 sv, cN 512 wd, cK 65 (va_up sp ps 1), cN 401 pl, cK 256 wa] 0 0
  have e1 : ((kI (ps : Int)) - (kI 1)) = kI ((ps : Int) - 1) := by rw [kI_sub]
  rw [e1]
  refine sq_ok rfl [(.istore_n 1, 0, 0, 0)] 16 _ _ _ _ _ (by decide +kernel) ?_
  show WM mX0_countSpelled 0 0 Post 6 17 [(0, .ref 0), (1, vI ((ps : Int) - 1))] [] [ob 0 [vI (ps : Int), .ref 1, .ref 2, .ref 3, .ref 4, .ref 5], cN 65 sv, cN 512 wd, cK 65 (va_up sp ps 1), cN 401 pl, cK 256 wa] 0 0
  have lp17 : ∀ (n17 : Nat) (v : Nat) (vz : Int) (sp1 : Nat → Nat), (v ≤ ps) → (vz = (v : Int) - 1) → (∀ p, p ≤ ps → v ≤ p → sp1 p = spG (fun p => sv (p + 1) - sv p) (ps - p) p) → v < n17 → WM mX0_countSpelled 0 0 Post 6 17 [(0, .ref 0), (1, vI vz)] [] [ob 0 [vI (ps : Int), .ref 1, .ref 2, .ref 3, .ref 4, .ref 5], cN 65 sv, cN 512 wd, cK 65 sp1, cN 401 pl, cK 256 wa] 0 0 := by
    intro n17
    induction n17 with
    | zero => intro v vz sp1 hv hvz hq hm; exact absurd hm (Nat.not_lt_zero _)
    | succ n17 ih17 =>
      intro v vz sp1 hv hvz hq hm17
      refine sq_ok rfl [(.iload_n 1, 0, 0, 0), (.ifCond .lt 31, 0, 0, 0)] 17 _ _ _ _ _ (by decide +kernel) ?_
      show (kI vz < kI 0 → WM mX0_countSpelled 0 0 Post 6 49 [(0, .ref 0), (1, vI vz)] [] [ob 0 [vI (ps : Int), .ref 1, .ref 2, .ref 3, .ref 4, .ref 5], cN 65 sv, cN 512 wd, cK 65 sp1, cN 401 pl, cK 256 wa] 0 0) ∧ (¬ kI vz < kI 0 → WM mX0_countSpelled 0 0 Post 6 21 [(0, .ref 0), (1, vI vz)] [] [ob 0 [vI (ps : Int), .ref 1, .ref 2, .ref 3, .ref 4, .ref 5], cN 65 sv, cN 512 wd, cK 65 sp1, cN 401 pl, cK 256 wa] 0 0)
      refine ⟨fun c18 => ?_, fun c18 => ?_⟩
      · 
        rw [kI_lt (by omega)] at c18
        refine sq_ok rfl [(.return_, 0, 0, 0)] 49 _ _ _ _ _ (by decide +kernel) ?_
        show ((0 ≤ 0 ∧ 0 ≤ 0) ∧ Post none [ob 0 [vI (ps : Int), .ref 1, .ref 2, .ref 3, .ref 4, .ref 5], cN 65 sv, cN 512 wd, cK 65 sp1, cN 401 pl, cK 256 wa])
        refine ⟨⟨Nat.le_refl _, Nat.le_refl _⟩, hPo _ _ ?_⟩
        exact ⟨sp1, rfl, rfl, fun p hp => hq p hp (by omega)⟩
      · 
        rw [kI_lt (by omega)] at c18
        obtain ⟨e, he⟩ : ∃ e, e = v - 1 := ⟨_, rfl⟩
        have hvz2 : vz = ((v - 1 : Nat) : Int) := by omega
        rw [hvz2]
        have h1 := hsv (v - 1) (by omega)
        have h2 := hs2 ((v - 1) + 1) (by omega)
        have h3 := hq ((v - 1) + 1) (by omega) (by omega)
        have h4 := @spG_le (fun p => sv (p + 1) - sv p) (ps - ((v - 1) + 1)) ((v - 1) + 1)
        refine sq_ok rfl [(.aload_n 0, 0, 0, 0), (.getfield 18, 0, 3, 0), (.iload_n 1, 0, 0, 0), (.aload_n 0, 0, 0, 0), (.getfield 18, 0, 3, 0), (.iload_n 1, 0, 0, 0), (.iconst 1, 0, 0, 0), (.iadd, 0, 0, 0), (.laload, 0, 0, 0), (.aload_n 0, 0, 0, 0), (.iload_n 1, 0, 0, 0)] 21 _ _ _ _ _ (by decide +kernel) ?_
        show ∃ j33 : Nat, mj 65 ((kI (((v - 1) : Nat) : Int)) + (kI 1)) j33 ∧ WM mX0_countSpelled 0 0 Post 6 36 [(0, .ref 0), (1, vI (((v - 1) : Nat) : Int))] [vI (((v - 1) : Nat) : Int), .ref 0, vJ ((sp1 j33 : Nat) : Int), vI (((v - 1) : Nat) : Int), .ref 3] [ob 0 [vI (ps : Int), .ref 1, .ref 2, .ref 3, .ref 4, .ref 5], cN 65 sv, cN 512 wd, cK 65 sp1, cN 401 pl, cK 256 wa] 0 0
        refine ⟨((v - 1) + 1), ⟨by omega, by omega, by rw [kI_add]; rfl⟩, ?_⟩
        refine wm_callV (y := mX0_countSpelled) mX0_choices [0, 1, 2, 3, 4, 5] (pc := 36) (rest := [vJ ((sp1 ((v - 1) + 1) : Nat) : Int), vI (((v - 1) : Nat) : Int), .ref 3]) (mc' := 0) (ms' := 0) (by decide +kernel) kX0_82 (c_X0_choices ps sv wd sp1 pl wa (v - 1) (by omega) h1 (by omega)) rfl rfl ⟨_, rfl, rfl⟩ ⟨Nat.le_of_ble_eq_true rfl, Nat.le_of_ble_eq_true rfl⟩ ⟨Nat.le_of_ble_eq_true rfl, Nat.le_of_ble_eq_true rfl⟩ (Nat.le_of_ble_eq_true rfl) rfl rfl (Nat.le_of_ble_eq_true rfl) rfl ?_
        rintro _ _ ⟨rfl, rfl⟩
        show WM mX0_countSpelled 0 0 Post 6 39 [(0, .ref 0), (1, vI (((v - 1) : Nat) : Int))] [vI (((sv ((v - 1) + 1) - sv (v - 1)) : Nat) : Int), vJ ((sp1 ((v - 1) + 1) : Nat) : Int), vI (((v - 1) : Nat) : Int), .ref 3] [ob 0 [vI (ps : Int), .ref 1, .ref 2, .ref 3, .ref 4, .ref 5], cN 65 sv, cN 512 wd, cK 65 sp1, cN 401 pl, cK 256 wa] 0 0
        refine wm_callS (y := mX0_countSpelled) mX0_times [] (pc := 39) (rest := [vI (((v - 1) : Nat) : Int), .ref 3]) (mc' := 0) (ms' := 0) (by decide +kernel) kX0_86 (c_X0_times (sp1 ((v - 1) + 1)) (sv ((v - 1) + 1) - sv (v - 1)) (by rw [h3]; exact h4) (by omega)) rfl ⟨Nat.le_of_ble_eq_true rfl, Nat.le_of_ble_eq_true rfl⟩ ⟨Nat.le_of_ble_eq_true rfl, Nat.le_of_ble_eq_true rfl⟩ (Nat.le_of_ble_eq_true rfl) rfl rfl (Nat.le_of_ble_eq_true rfl) rfl ?_
        rintro _ _ ⟨rfl, rfl⟩
        show WM mX0_countSpelled 0 0 Post 6 42 [(0, .ref 0), (1, vI (((v - 1) : Nat) : Int))] [vJ (((tmF (sp1 ((v - 1) + 1)) (sv ((v - 1) + 1) - sv (v - 1))) : Nat) : Int), vI (((v - 1) : Nat) : Int), .ref 3] [ob 0 [vI (ps : Int), .ref 1, .ref 2, .ref 3, .ref 4, .ref 5], cN 65 sv, cN 512 wd, cK 65 sp1, cN 401 pl, cK 256 wa] 0 0
        refine sq_ok rfl [(.lastore, 0, 0, 0)] 42 _ _ _ _ _ (by decide +kernel) ?_
        show ∃ (j42 : Nat) (g42 : Nat → Int64), (mj 65 (kI (((v - 1) : Nat) : Int)) j42 ∧ g42 = vp_updL (fun q => kL ((sp1 q : Nat) : Int)) j42 (kL (((tmF (sp1 ((v - 1) + 1)) (sv ((v - 1) + 1) - sv (v - 1))) : Nat) : Int))) ∧ WM mX0_countSpelled 0 0 Post 6 43 [(0, .ref 0), (1, vI (((v - 1) : Nat) : Int))] [] [ob 0 [vI (ps : Int), .ref 1, .ref 2, .ref 3, .ref 4, .ref 5], cN 65 sv, cN 512 wd, .inl (1, 65, .inr (.inl g42)), cN 401 pl, cK 256 wa] 0 0
        refine ⟨(v - 1), fun q => kL (((va_up sp1 (v - 1) (tmF (sp1 ((v - 1) + 1)) (sv ((v - 1) + 1) - sv (v - 1)))) q : Nat) : Int), ⟨⟨by omega, by omega, rfl⟩, st_K (rfl)⟩, ?_⟩
        refine sq_ok rfl [(.iinc 1 (-1), 0, 0, 0), (.goto (-29), 0, 0, 0)] 43 _ _ _ _ _ (by decide +kernel) ?_
        show WM mX0_countSpelled 0 0 Post 6 17 [(0, .ref 0), (1, .int ((kI (((v - 1) : Nat) : Int)) + (kI (-1))))] [] [ob 0 [vI (ps : Int), .ref 1, .ref 2, .ref 3, .ref 4, .ref 5], cN 65 sv, cN 512 wd, cK 65 (va_up sp1 (v - 1) (tmF (sp1 ((v - 1) + 1)) (sv ((v - 1) + 1) - sv (v - 1)))), cN 401 pl, cK 256 wa] 0 0
        have e3 : ((kI (((v - 1) : Nat) : Int)) + (kI (-1))) = kI ((((v - 1) : Nat) : Int) + (-1)) := by first | (simp only [kI_add, kI_sub, kI_mul]; done) | (simp only [kI_add, kI_sub, kI_mul]; rfl)
        rw [e3]
        exact WM.pick [0, 1] rfl (ih17 (v - 1) ((((v - 1) : Nat) : Int) + (-1)) (va_up sp1 (v - 1) (tmF (sp1 ((v - 1) + 1)) (sv ((v - 1) + 1) - sv (v - 1)))) (by omega) (by omega) (fun p h5 h6 => by by_cases h7 : p = v - 1; (rw [h7, up_eq, h3, show ps - (v - 1) = (ps - ((v - 1) + 1)) + 1 by omega]; rfl); (rw [up_ne _ _ h7]; exact hq p h5 (by omega))) (by omega))
  exact WM.pick [0, 1] rfl (lp17 _ ps ((ps : Int) - 1) (va_up sp ps 1) (by omega) (by omega) (fun p h5 h6 => by rw [show p = ps by omega, up_eq, Nat.sub_self]; rfl) (Nat.lt_succ_self _))
