/-! RuleReader -/
abbrev Pst : Type := Nat × List (Nat × Nat) × Nat × Bool × List Nat
def pTen (p : Pst) (c : Nat) : Option Pst := if tenW c = 0 ∨ p.2.1 = [] then none else some (4, p.2.1.dropLast ++ [((p.2.1.getLast?.getD (0, 0)).1, tenW c)], p.2.2)
def pOpen (p : Pst) : Option Pst := if 8 ≤ (if p.2.2.2.1 then p.2.1.length - p.2.2.1 else p.2.1.length) ∨ 16 ≤ p.2.1.length then none else some (2, p.2.1 ++ [(0, 10)], p.2.2)
def pAdd (p : Pst) (c : Nat) : Option Pst := if 4 ≤ (p.2.1.getLast?.getD (0, 0)).1 then none else some (p.1, p.2.1.dropLast ++ [((p.2.1.getLast?.getD (0, 0)).1 + 1, (p.2.1.getLast?.getD (0, 0)).2)], p.2.2.1, p.2.2.2.1, p.2.2.2.2 ++ [c])
def pWord (p : Pst) (c : Nat) : Option Pst := if p.1 = 4 then none else if p.1 = 2 then pAdd p c else (pOpen p).bind (fun p => pAdd p c)
def pArr (p : Pst) : Option Pst := if p.2.2.2.1 = true then none else some (1, p.2.1, p.2.1.length, true, p.2.2.2.2)
def pstep (p : Pst) (k c : Nat) : Option Pst :=
  if k = 0 then (if p.1 = 3 then pTen p c else pWord p c) else if k = 1 then (if p.1 = 2 ∨ p.1 = 4 then some (0, p.2) else none) else if k = 2 then (if p.1 = 2 then some (3, p.2) else none)
  else if k = 3 then (if p.1 = 2 ∨ p.1 = 4 then pArr p else none) else if k = 4 then (if p.1 = 2 ∨ p.1 = 4 ∨ p.1 = 1 then some p else none) else none
abbrev sd (lens tens : Nat → Nat) (s : Nat) : List (Nat × Nat) := lst (fun q => (lens q, tens q)) s
abbrev pabs (lens tens : Nat → Nat) (s ah : Nat) (ar : Bool) (q : Nat) (g : Nat → Nat) (d : Nat) : Pst := (q, sd lens tens s, ah, ar, lst g d)
def pInv (lens : Nat → Nat) (s ah q d : Nat) : Prop := q ≤ 4 ∧ s ≤ 16 ∧ ah ≤ s ∧ (2 ≤ q → 1 ≤ s) ∧ (∀ j, j < s → lens j ≤ 4) ∧ (1 ≤ s → d ≤ 4 * (s - 1) + lens (s - 1)) ∧ (s = 0 → d = 0)
theorem sd_up (lens tens : Nat → Nat) (s a b : Nat) : sd (va_up lens s a) (va_up tens s b) (s + 1) = sd lens tens s ++ [(a, b)] := by
  rw [← lst_up (fun q => (lens q, tens q)) s (a, b)]
  refine lst_ext fun j hj => ?_
  simp only [va_up]
  split <;> rfl
theorem sd_last (lens tens : Nat → Nat) {s : Nat} (h : 1 ≤ s) : (sd lens tens s).getLast?.getD (0, 0) = (lens (s - 1), tens (s - 1)) := by
  obtain ⟨u, rfl⟩ : ∃ u, s = u + 1 := ⟨s - 1, by omega⟩
  unfold sd
  rw [lst_succ]
  simp
theorem sd_set {lens tens lens' tens' : Nat → Nat} {s : Nat} (h : 1 ≤ s) (h1 : ∀ j, j < s - 1 → lens' j = lens j) (h2 : ∀ j, j < s - 1 → tens' j = tens j) : sd lens' tens' s = (sd lens tens s).dropLast ++ [(lens' (s - 1), tens' (s - 1))] := by
  obtain ⟨u, rfl⟩ : ∃ u, s = u + 1 := ⟨s - 1, by omega⟩
  unfold sd
  rw [lst_succ, lst_succ]
  simp only [List.dropLast_concat]
  congr 1
  exact lst_ext fun j hj => by rw [h1 j (by omega), h2 j (by omega)]
theorem sd_ne (lens tens : Nat → Nat) {s : Nat} : sd lens tens s = [] ↔ s = 0 := by
  constructor
  · intro e
    have := congrArg List.length e
    rw [lst_len] at this
    simpa using this
  · intro e
    rw [e]
    rfl
theorem up_ne {α : Type} (f : Nat → α) {k j : Nat} (v : α) (h : j ≠ k) : va_up f k v j = f j := by simp [va_up, h]
theorem up_eq {α : Type} (f : Nat → α) (k : Nat) (v : α) : va_up f k v k = v := by simp [va_up]

set_option maxRecDepth 100000 in
set_option maxHeartbeats 4000000 in
theorem c_X3_init  : CT mX3_init 3 48 [.ref 0] [ob 3 [.null, .null, .null, vI 0, vI 0, vZ false, vI 0]] (fun r w => r = none ∧ w = [ob 3 [.ref 1, .ref 2, .ref 3, vI 0, vI 0, vZ false, vI 0], cN 16 (fun _ => 0), cN 16 (fun _ => 0), cN 16 (fun _ => 0)]) := by
  refine CT.intro rfl (Nat.le_of_ble_eq_true rfl) ?_
  generalize hPost : (fun r w => r = none ∧ w = [ob 3 [.ref 1, .ref 2, .ref 3, vI 0, vI 0, vZ false, vI 0], cN 16 (fun _ => 0), cN 16 (fun _ => 0), cN 16 (fun _ => 0)] : MP) = Post
  have hp : ∀ r w', (fun r w => r = none ∧ w = [ob 3 [.ref 1, .ref 2, .ref 3, vI 0, vI 0, vZ false, vI 0], cN 16 (fun _ => 0), cN 16 (fun _ => 0), cN 16 (fun _ => 0)] : MP) r w' → Post r w' := by rw [← hPost]; exact fun _ _ h => h
  clear hPost
  show WM mX3_init 3 48 Post 1 0 [(0, .ref 0)] [] [ob 3 [.null, .null, .null, vI 0, vI 0, vZ false, vI 0]] 0 0
  refine sq_ok rfl [(.aload_n 0, 0, 0, 0)] 0 _ _ _ _ _ (by decide +kernel) ?_
  show WM mX3_init 3 48 Post 1 1 [(0, .ref 0)] [.ref 0] [ob 3 [.null, .null, .null, vI 0, vI 0, vZ false, vI 0]] 0 0
  refine wm_obj (by decide +kernel) kX3_3 ⟨Nat.le_of_ble_eq_true rfl, Nat.le_of_ble_eq_true rfl⟩ ?_
  show WM mX3_init 3 48 Post 1 4 [(0, .ref 0)] [] [ob 3 [.null, .null, .null, vI 0, vI 0, vZ false, vI 0]] 0 0
  refine sq_ok rfl [(.aload_n 0, 0, 0, 0), (.bipush 16, 0, 0, 0), (.newarray .int, 0, 0, 0), (.putfield 9, 3, 0, 0), (.aload_n 0, 0, 0, 0), (.bipush 16, 0, 0, 0), (.newarray .int, 0, 0, 0), (.putfield 15, 3, 1, 0), (.aload_n 0, 0, 0, 0), (.bipush 16, 0, 0, 0), (.newarray .int, 0, 0, 0), (.putfield 18, 3, 2, 0), (.return_, 0, 0, 0)] 4 _ _ _ _ _ (by decide +kernel) ?_
  show ∃ N7 : Nat, (kI 16 = kI (N7 : Int) ∧ N7 ≤ 1000000 ∧ 0 + 1 ≤ 3 ∧ 0 + N7 ≤ 48) ∧ ∃ N15 : Nat, (kI 16 = kI (N15 : Int) ∧ N15 ≤ 1000000 ∧ 1 + 1 ≤ 3 ∧ 0 + N7 + N15 ≤ 48) ∧ ∃ N23 : Nat, (kI 16 = kI (N23 : Int) ∧ N23 ≤ 1000000 ∧ 2 + 1 ≤ 3 ∧ 0 + N7 + N15 + N23 ≤ 48) ∧ ((3 ≤ 3 ∧ 0 + N7 + N15 + N23 ≤ 48) ∧ Post none [ob 3 [.ref 1, .ref 2, .ref 3, vI 0, vI 0, vZ false, vI 0], cI N7 (fun _ => 0), cI N15 (fun _ => 0), cI N23 (fun _ => 0)])
  refine ⟨16, ⟨rfl, Nat.le_of_ble_eq_true rfl, Nat.le_of_ble_eq_true rfl, Nat.le_of_ble_eq_true rfl⟩, ?_⟩
  refine ⟨16, ⟨rfl, Nat.le_of_ble_eq_true rfl, Nat.le_of_ble_eq_true rfl, Nat.le_of_ble_eq_true rfl⟩, ?_⟩
  refine ⟨16, ⟨rfl, Nat.le_of_ble_eq_true rfl, Nat.le_of_ble_eq_true rfl, Nat.le_of_ble_eq_true rfl⟩, ?_⟩
  refine ⟨⟨Nat.le_refl _, Nat.le_of_ble_eq_true rfl⟩, hp _ _ ?_⟩
  exact ⟨rfl, rfl⟩

set_option maxRecDepth 100000 in
set_option maxHeartbeats 4000000 in
theorem c_X3_opensSide (lens tens phr : Nat → Nat) (s ah : Nat) (ar : Bool) (q : Nat) (hs : s ≤ 16) (hah : ah ≤ s) : CT mX3_opensSide 0 0 [.ref 0] [ob 3 [.ref 1, .ref 2, .ref 3, vI (s : Int), vI (ah : Int), vZ ar, vI (q : Int)], cN 16 lens, cN 16 tens, cN 16 phr] (fun r w => ∃ b : Bool, r = some (vZ b) ∧ ((b = false ∧ w = [ob 3 [.ref 1, .ref 2, .ref 3, vI (s : Int), vI (ah : Int), vZ ar, vI (q : Int)], cN 16 lens, cN 16 tens, cN 16 phr] ∧ (8 ≤ (if ar then s - ah else s) ∨ 16 ≤ s)) ∨ (b = true ∧ w = [ob 3 [.ref 1, .ref 2, .ref 3, vI (((s + 1) : Nat) : Int), vI (ah : Int), vZ ar, vI 2], cN 16 (va_up lens s 0), cN 16 (va_up tens s 10), cN 16 phr] ∧ ¬ (8 ≤ (if ar then s - ah else s) ∨ 16 ≤ s)))) := by
  refine CT.intro rfl (Nat.le_of_ble_eq_true rfl) ?_
  generalize hPost : (fun r w => ∃ b : Bool, r = some (vZ b) ∧ ((b = false ∧ w = [ob 3 [.ref 1, .ref 2, .ref 3, vI (s : Int), vI (ah : Int), vZ ar, vI (q : Int)], cN 16 lens, cN 16 tens, cN 16 phr] ∧ (8 ≤ (if ar then s - ah else s) ∨ 16 ≤ s)) ∨ (b = true ∧ w = [ob 3 [.ref 1, .ref 2, .ref 3, vI (((s + 1) : Nat) : Int), vI (ah : Int), vZ ar, vI 2], cN 16 (va_up lens s 0), cN 16 (va_up tens s 10), cN 16 phr] ∧ ¬ (8 ≤ (if ar then s - ah else s) ∨ 16 ≤ s))) : MP) = Post
  have hp : ∀ r w', (fun r w => ∃ b : Bool, r = some (vZ b) ∧ ((b = false ∧ w = [ob 3 [.ref 1, .ref 2, .ref 3, vI (s : Int), vI (ah : Int), vZ ar, vI (q : Int)], cN 16 lens, cN 16 tens, cN 16 phr] ∧ (8 ≤ (if ar then s - ah else s) ∨ 16 ≤ s)) ∨ (b = true ∧ w = [ob 3 [.ref 1, .ref 2, .ref 3, vI (((s + 1) : Nat) : Int), vI (ah : Int), vZ ar, vI 2], cN 16 (va_up lens s 0), cN 16 (va_up tens s 10), cN 16 phr] ∧ ¬ (8 ≤ (if ar then s - ah else s) ∨ 16 ≤ s))) : MP) r w' → Post r w' := by rw [← hPost]; exact fun _ _ h => h
  clear hPost
  show WM mX3_opensSide 0 0 Post 4 0 [(0, .ref 0)] [] [ob 3 [.ref 1, .ref 2, .ref 3, vI (s : Int), vI (ah : Int), vZ ar, vI (q : Int)], cN 16 lens, cN 16 tens, cN 16 phr] 0 0
  refine sq_ok rfl [(.aload_n 0, 0, 0, 0), (.getfield 28, 3, 5, 0), (.ifCond .eq 15, 0, 0, 0)] 0 _ _ _ _ _ (by decide +kernel) ?_
  show ((bI ar) = kI 0 → WM mX3_opensSide 0 0 Post 4 19 [(0, .ref 0)] [] [ob 3 [.ref 1, .ref 2, .ref 3, vI (s : Int), vI (ah : Int), vZ ar, vI (q : Int)], cN 16 lens, cN 16 tens, cN 16 phr] 0 0) ∧ (¬ (bI ar) = kI 0 → WM mX3_opensSide 0 0 Post 4 7 [(0, .ref 0)] [] [ob 3 [.ref 1, .ref 2, .ref 3, vI (s : Int), vI (ah : Int), vZ ar, vI (q : Int)], cN 16 lens, cN 16 tens, cN 16 phr] 0 0)
  refine ⟨fun c4 => ?_, fun c4 => ?_⟩
  · 
    rw [bI_eq0] at c4
    refine sq_ok rfl [(.aload_n 0, 0, 0, 0), (.getfield 21, 3, 3, 0), (.istore_n 1, 0, 0, 0), (.iload_n 1, 0, 0, 0), (.bipush 8, 0, 0, 0), (.if_icmp .ge 15, 0, 0, 0)] 19 _ _ _ _ _ (by decide +kernel) ?_
    show (kI 8 ≤ kI (s : Int) → WM mX3_opensSide 0 0 Post 4 42 [(0, .ref 0), (1, vI (s : Int))] [] [ob 3 [.ref 1, .ref 2, .ref 3, vI (s : Int), vI (ah : Int), vZ ar, vI (q : Int)], cN 16 lens, cN 16 tens, cN 16 phr] 0 0) ∧ (¬ kI 8 ≤ kI (s : Int) → WM mX3_opensSide 0 0 Post 4 30 [(0, .ref 0), (1, vI (s : Int))] [] [ob 3 [.ref 1, .ref 2, .ref 3, vI (s : Int), vI (ah : Int), vZ ar, vI (q : Int)], cN 16 lens, cN 16 tens, cN 16 phr] 0 0)
    refine ⟨fun c27 => ?_, fun c27 => ?_⟩
    · 
      rw [kI_le (by omega)] at c27
      refine sq_ok rfl [(.iconst 0, 0, 0, 0), (.ireturn, 0, 0, 0)] 42 _ _ _ _ _ (by decide +kernel) ?_
      show narrow .boolean (.int (kI 0)) = .int (kI 0) ∧ ((0 ≤ 0 ∧ 0 ≤ 0) ∧ Post (some (vI 0)) [ob 3 [.ref 1, .ref 2, .ref 3, vI (s : Int), vI (ah : Int), vZ ar, vI (q : Int)], cN 16 lens, cN 16 tens, cN 16 phr])
      refine ⟨(bI_fits false).1, ?_⟩
      refine ⟨⟨Nat.le_refl _, Nat.le_refl _⟩, hp _ _ ?_⟩
      refine ⟨false, rfl, Or.inl ⟨rfl, rfl, ?_⟩⟩
      simp only [c4, if_true, Bool.false_eq_true, if_false]
      omega
    · 
      rw [kI_le (by omega)] at c27
      refine sq_ok rfl [(.aload_n 0, 0, 0, 0), (.getfield 21, 3, 3, 0), (.aload_n 0, 0, 0, 0), (.getfield 9, 3, 0, 0), (.arraylength, 0, 0, 0), (.if_icmp .lt 5, 0, 0, 0)] 30 _ _ _ _ _ (by decide +kernel) ?_
      show (kI (s : Int) < kI 16 → WM mX3_opensSide 0 0 Post 4 44 [(0, .ref 0), (1, vI (s : Int))] [] [ob 3 [.ref 1, .ref 2, .ref 3, vI (s : Int), vI (ah : Int), vZ ar, vI (q : Int)], cN 16 lens, cN 16 tens, cN 16 phr] 0 0) ∧ (¬ kI (s : Int) < kI 16 → WM mX3_opensSide 0 0 Post 4 42 [(0, .ref 0), (1, vI (s : Int))] [] [ob 3 [.ref 1, .ref 2, .ref 3, vI (s : Int), vI (ah : Int), vZ ar, vI (q : Int)], cN 16 lens, cN 16 tens, cN 16 phr] 0 0)
      refine ⟨fun c39 => ?_, fun c39 => ?_⟩
      · 
        rw [kI_lt (by omega)] at c39
        refine sq_ok rfl [(.aload_n 0, 0, 0, 0), (.getfield 9, 3, 0, 0), (.aload_n 0, 0, 0, 0), (.getfield 21, 3, 3, 0), (.iconst 0, 0, 0, 0), (.iastore, 0, 0, 0)] 44 _ _ _ _ _ (by decide +kernel) ?_
        show ∃ (j53 : Nat) (g53 : Nat → Int32), (mj 16 (kI (s : Int)) j53 ∧ g53 = upd (fun q => kI ((lens q : Nat) : Int)) j53 (kI 0)) ∧ WM mX3_opensSide 0 0 Post 4 54 [(0, .ref 0), (1, vI (s : Int))] [] [ob 3 [.ref 1, .ref 2, .ref 3, vI (s : Int), vI (ah : Int), vZ ar, vI (q : Int)], .inl (0, 16, .inl g53), cN 16 tens, cN 16 phr] 0 0
        refine ⟨s, fun q => kI (((va_up lens s 0) q : Nat) : Int), ⟨⟨by omega, by omega, rfl⟩, st_N (rfl)⟩, ?_⟩
        refine sq_ok rfl [(.aload_n 0, 0, 0, 0), (.getfield 15, 3, 1, 0), (.aload_n 0, 0, 0, 0), (.getfield 21, 3, 3, 0), (.bipush 10, 0, 0, 0), (.iastore, 0, 0, 0)] 54 _ _ _ _ _ (by decide +kernel) ?_
        show ∃ (j64 : Nat) (g64 : Nat → Int32), (mj 16 (kI (s : Int)) j64 ∧ g64 = upd (fun q => kI ((tens q : Nat) : Int)) j64 (kI 10)) ∧ WM mX3_opensSide 0 0 Post 4 65 [(0, .ref 0), (1, vI (s : Int))] [] [ob 3 [.ref 1, .ref 2, .ref 3, vI (s : Int), vI (ah : Int), vZ ar, vI (q : Int)], cN 16 (va_up lens s 0), .inl (0, 16, .inl g64), cN 16 phr] 0 0
        refine ⟨s, fun q => kI (((va_up tens s 10) q : Nat) : Int), ⟨⟨by omega, by omega, rfl⟩, st_N (rfl)⟩, ?_⟩
        refine sq_ok rfl [(.aload_n 0, 0, 0, 0), (.dup, 0, 0, 0), (.getfield 21, 3, 3, 0), (.iconst 1, 0, 0, 0), (.iadd, 0, 0, 0), (.putfield 21, 3, 3, 0), (.aload_n 0, 0, 0, 0), (.iconst 2, 0, 0, 0), (.putfield 32, 3, 6, 0), (.iconst 1, 0, 0, 0), (.ireturn, 0, 0, 0)] 65 _ _ _ _ _ (by decide +kernel) ?_
        show narrow .boolean (.int (kI 1)) = .int (kI 1) ∧ ((0 ≤ 0 ∧ 0 ≤ 0) ∧ Post (some (vI 1)) [ob 3 [.ref 1, .ref 2, .ref 3, .int ((kI (s : Int)) + (kI 1)), vI (ah : Int), vZ ar, vI 2], cN 16 (va_up lens s 0), cN 16 (va_up tens s 10), cN 16 phr])
        have e4 : ((kI (s : Int)) + (kI 1)) = kI ((s : Int) + 1) := by simp only [kI_add, kI_sub, kI_mul]
        rw [e4]
        refine ⟨(bI_fits true).1, ?_⟩
        refine ⟨⟨Nat.le_refl _, Nat.le_refl _⟩, hp _ _ ?_⟩
        refine ⟨true, rfl, Or.inr ⟨rfl, rfl, ?_⟩⟩
        simp only [c4, if_true, Bool.false_eq_true, if_false]
        omega
      · 
        rw [kI_lt (by omega)] at c39
        refine sq_ok rfl [(.iconst 0, 0, 0, 0), (.ireturn, 0, 0, 0)] 42 _ _ _ _ _ (by decide +kernel) ?_
        show narrow .boolean (.int (kI 0)) = .int (kI 0) ∧ ((0 ≤ 0 ∧ 0 ≤ 0) ∧ Post (some (vI 0)) [ob 3 [.ref 1, .ref 2, .ref 3, vI (s : Int), vI (ah : Int), vZ ar, vI (q : Int)], cN 16 lens, cN 16 tens, cN 16 phr])
        refine ⟨(bI_fits false).1, ?_⟩
        refine ⟨⟨Nat.le_refl _, Nat.le_refl _⟩, hp _ _ ?_⟩
        refine ⟨false, rfl, Or.inl ⟨rfl, rfl, ?_⟩⟩
        simp only [c4, if_true, Bool.false_eq_true, if_false]
        omega
  · 
    rw [bI_eq0] at c4
    have c4 : ar = true := by cases ar <;> simp_all
    refine sq_ok rfl [(.aload_n 0, 0, 0, 0), (.getfield 21, 3, 3, 0), (.aload_n 0, 0, 0, 0), (.getfield 25, 3, 4, 0), (.isub, 0, 0, 0), (.goto 7, 0, 0, 0)] 7 _ _ _ _ _ (by decide +kernel) ?_
    show WM mX3_opensSide 0 0 Post 4 23 [(0, .ref 0)] [.int ((kI (s : Int)) - (kI (ah : Int)))] [ob 3 [.ref 1, .ref 2, .ref 3, vI (s : Int), vI (ah : Int), vZ ar, vI (q : Int)], cN 16 lens, cN 16 tens, cN 16 phr] 0 0
    have e5 : ((kI (s : Int)) - (kI (ah : Int))) = kI ((s : Int) - (ah : Int)) := by simp only [kI_add, kI_sub, kI_mul]
    rw [e5]
    refine sq_ok rfl [(.istore_n 1, 0, 0, 0), (.iload_n 1, 0, 0, 0), (.bipush 8, 0, 0, 0), (.if_icmp .ge 15, 0, 0, 0)] 23 _ _ _ _ _ (by decide +kernel) ?_
    show (kI 8 ≤ kI ((s : Int) - (ah : Int)) → WM mX3_opensSide 0 0 Post 4 42 [(0, .ref 0), (1, vI ((s : Int) - (ah : Int)))] [] [ob 3 [.ref 1, .ref 2, .ref 3, vI (s : Int), vI (ah : Int), vZ ar, vI (q : Int)], cN 16 lens, cN 16 tens, cN 16 phr] 0 0) ∧ (¬ kI 8 ≤ kI ((s : Int) - (ah : Int)) → WM mX3_opensSide 0 0 Post 4 30 [(0, .ref 0), (1, vI ((s : Int) - (ah : Int)))] [] [ob 3 [.ref 1, .ref 2, .ref 3, vI (s : Int), vI (ah : Int), vZ ar, vI (q : Int)], cN 16 lens, cN 16 tens, cN 16 phr] 0 0)
    refine ⟨fun c27 => ?_, fun c27 => ?_⟩
    · 
      rw [kI_le (by omega)] at c27
      refine sq_ok rfl [(.iconst 0, 0, 0, 0), (.ireturn, 0, 0, 0)] 42 _ _ _ _ _ (by decide +kernel) ?_
      show narrow .boolean (.int (kI 0)) = .int (kI 0) ∧ ((0 ≤ 0 ∧ 0 ≤ 0) ∧ Post (some (vI 0)) [ob 3 [.ref 1, .ref 2, .ref 3, vI (s : Int), vI (ah : Int), vZ ar, vI (q : Int)], cN 16 lens, cN 16 tens, cN 16 phr])
      refine ⟨(bI_fits false).1, ?_⟩
      refine ⟨⟨Nat.le_refl _, Nat.le_refl _⟩, hp _ _ ?_⟩
      refine ⟨false, rfl, Or.inl ⟨rfl, rfl, ?_⟩⟩
      simp only [c4, if_true, Bool.false_eq_true, if_false]
      omega
    · 
      rw [kI_le (by omega)] at c27
      refine sq_ok rfl [(.aload_n 0, 0, 0, 0), (.getfield 21, 3, 3, 0), (.aload_n 0, 0, 0, 0), (.getfield 9, 3, 0, 0), (.arraylength, 0, 0, 0), (.if_icmp .lt 5, 0, 0, 0)] 30 _ _ _ _ _ (by decide +kernel) ?_
      show (kI (s : Int) < kI 16 → WM mX3_opensSide 0 0 Post 4 44 [(0, .ref 0), (1, vI ((s : Int) - (ah : Int)))] [] [ob 3 [.ref 1, .ref 2, .ref 3, vI (s : Int), vI (ah : Int), vZ ar, vI (q : Int)], cN 16 lens, cN 16 tens, cN 16 phr] 0 0) ∧ (¬ kI (s : Int) < kI 16 → WM mX3_opensSide 0 0 Post 4 42 [(0, .ref 0), (1, vI ((s : Int) - (ah : Int)))] [] [ob 3 [.ref 1, .ref 2, .ref 3, vI (s : Int), vI (ah : Int), vZ ar, vI (q : Int)], cN 16 lens, cN 16 tens, cN 16 phr] 0 0)
      refine ⟨fun c39 => ?_, fun c39 => ?_⟩
      · 
        rw [kI_lt (by omega)] at c39
        refine sq_ok rfl [(.aload_n 0, 0, 0, 0), (.getfield 9, 3, 0, 0), (.aload_n 0, 0, 0, 0), (.getfield 21, 3, 3, 0), (.iconst 0, 0, 0, 0), (.iastore, 0, 0, 0)] 44 _ _ _ _ _ (by decide +kernel) ?_
        show ∃ (j53 : Nat) (g53 : Nat → Int32), (mj 16 (kI (s : Int)) j53 ∧ g53 = upd (fun q => kI ((lens q : Nat) : Int)) j53 (kI 0)) ∧ WM mX3_opensSide 0 0 Post 4 54 [(0, .ref 0), (1, vI ((s : Int) - (ah : Int)))] [] [ob 3 [.ref 1, .ref 2, .ref 3, vI (s : Int), vI (ah : Int), vZ ar, vI (q : Int)], .inl (0, 16, .inl g53), cN 16 tens, cN 16 phr] 0 0
        refine ⟨s, fun q => kI (((va_up lens s 0) q : Nat) : Int), ⟨⟨by omega, by omega, rfl⟩, st_N (rfl)⟩, ?_⟩
        refine sq_ok rfl [(.aload_n 0, 0, 0, 0), (.getfield 15, 3, 1, 0), (.aload_n 0, 0, 0, 0), (.getfield 21, 3, 3, 0), (.bipush 10, 0, 0, 0), (.iastore, 0, 0, 0)] 54 _ _ _ _ _ (by decide +kernel) ?_
        show ∃ (j64 : Nat) (g64 : Nat → Int32), (mj 16 (kI (s : Int)) j64 ∧ g64 = upd (fun q => kI ((tens q : Nat) : Int)) j64 (kI 10)) ∧ WM mX3_opensSide 0 0 Post 4 65 [(0, .ref 0), (1, vI ((s : Int) - (ah : Int)))] [] [ob 3 [.ref 1, .ref 2, .ref 3, vI (s : Int), vI (ah : Int), vZ ar, vI (q : Int)], cN 16 (va_up lens s 0), .inl (0, 16, .inl g64), cN 16 phr] 0 0
        refine ⟨s, fun q => kI (((va_up tens s 10) q : Nat) : Int), ⟨⟨by omega, by omega, rfl⟩, st_N (rfl)⟩, ?_⟩
        refine sq_ok rfl [(.aload_n 0, 0, 0, 0), (.dup, 0, 0, 0), (.getfield 21, 3, 3, 0), (.iconst 1, 0, 0, 0), (.iadd, 0, 0, 0), (.putfield 21, 3, 3, 0), (.aload_n 0, 0, 0, 0), (.iconst 2, 0, 0, 0), (.putfield 32, 3, 6, 0), (.iconst 1, 0, 0, 0), (.ireturn, 0, 0, 0)] 65 _ _ _ _ _ (by decide +kernel) ?_
        show narrow .boolean (.int (kI 1)) = .int (kI 1) ∧ ((0 ≤ 0 ∧ 0 ≤ 0) ∧ Post (some (vI 1)) [ob 3 [.ref 1, .ref 2, .ref 3, .int ((kI (s : Int)) + (kI 1)), vI (ah : Int), vZ ar, vI 2], cN 16 (va_up lens s 0), cN 16 (va_up tens s 10), cN 16 phr])
        have e8 : ((kI (s : Int)) + (kI 1)) = kI ((s : Int) + 1) := by simp only [kI_add, kI_sub, kI_mul]
        rw [e8]
        refine ⟨(bI_fits true).1, ?_⟩
        refine ⟨⟨Nat.le_refl _, Nat.le_refl _⟩, hp _ _ ?_⟩
        refine ⟨true, rfl, Or.inr ⟨rfl, rfl, ?_⟩⟩
        simp only [c4, if_true, Bool.false_eq_true, if_false]
        omega
      · 
        rw [kI_lt (by omega)] at c39
        refine sq_ok rfl [(.iconst 0, 0, 0, 0), (.ireturn, 0, 0, 0)] 42 _ _ _ _ _ (by decide +kernel) ?_
        show narrow .boolean (.int (kI 0)) = .int (kI 0) ∧ ((0 ≤ 0 ∧ 0 ≤ 0) ∧ Post (some (vI 0)) [ob 3 [.ref 1, .ref 2, .ref 3, vI (s : Int), vI (ah : Int), vZ ar, vI (q : Int)], cN 16 lens, cN 16 tens, cN 16 phr])
        refine ⟨(bI_fits false).1, ?_⟩
        refine ⟨⟨Nat.le_refl _, Nat.le_refl _⟩, hp _ _ ?_⟩
        refine ⟨false, rfl, Or.inl ⟨rfl, rfl, ?_⟩⟩
        simp only [c4, if_true, Bool.false_eq_true, if_false]
        omega

set_option maxRecDepth 100000 in
set_option maxHeartbeats 4000000 in
theorem c_X3_takesTenths (lens tens phr : Nat → Nat) (s ah : Nat) (ar : Bool) (q : Nat) (hs : s ≤ 16) (c : Nat) (hc : c < 9223372036854775808) : CT mX3_takesTenths 0 0 [.ref 0, vJ (c : Int)] [ob 3 [.ref 1, .ref 2, .ref 3, vI (s : Int), vI (ah : Int), vZ ar, vI (q : Int)], cN 16 lens, cN 16 tens, cN 16 phr] (fun r w => ∃ b : Bool, r = some (vZ b) ∧ ((b = false ∧ w = [ob 3 [.ref 1, .ref 2, .ref 3, vI (s : Int), vI (ah : Int), vZ ar, vI (q : Int)], cN 16 lens, cN 16 tens, cN 16 phr] ∧ (tenW c = 0 ∨ s = 0)) ∨ (b = true ∧ w = [ob 3 [.ref 1, .ref 2, .ref 3, vI (s : Int), vI (ah : Int), vZ ar, vI 4], cN 16 lens, cN 16 (va_up tens (s - 1) (tenW c)), cN 16 phr] ∧ ¬ (tenW c = 0 ∨ s = 0)))) := by
  refine CT.intro rfl (Nat.le_of_ble_eq_true rfl) ?_
  generalize hPost : (fun r w => ∃ b : Bool, r = some (vZ b) ∧ ((b = false ∧ w = [ob 3 [.ref 1, .ref 2, .ref 3, vI (s : Int), vI (ah : Int), vZ ar, vI (q : Int)], cN 16 lens, cN 16 tens, cN 16 phr] ∧ (tenW c = 0 ∨ s = 0)) ∨ (b = true ∧ w = [ob 3 [.ref 1, .ref 2, .ref 3, vI (s : Int), vI (ah : Int), vZ ar, vI 4], cN 16 lens, cN 16 (va_up tens (s - 1) (tenW c)), cN 16 phr] ∧ ¬ (tenW c = 0 ∨ s = 0))) : MP) = Post
  have hp : ∀ r w', (fun r w => ∃ b : Bool, r = some (vZ b) ∧ ((b = false ∧ w = [ob 3 [.ref 1, .ref 2, .ref 3, vI (s : Int), vI (ah : Int), vZ ar, vI (q : Int)], cN 16 lens, cN 16 tens, cN 16 phr] ∧ (tenW c = 0 ∨ s = 0)) ∨ (b = true ∧ w = [ob 3 [.ref 1, .ref 2, .ref 3, vI (s : Int), vI (ah : Int), vZ ar, vI 4], cN 16 lens, cN 16 (va_up tens (s - 1) (tenW c)), cN 16 phr] ∧ ¬ (tenW c = 0 ∨ s = 0))) : MP) r w' → Post r w' := by rw [← hPost]; exact fun _ _ h => h
  clear hPost
  show WM mX3_takesTenths 0 0 Post 4 0 [(0, .ref 0), (1, vJ (c : Int))] [] [ob 3 [.ref 1, .ref 2, .ref 3, vI (s : Int), vI (ah : Int), vZ ar, vI (q : Int)], cN 16 lens, cN 16 tens, cN 16 phr] 0 0
  refine sq_ok rfl [(.lload_n 1, 0, 0, 0)] 0 _ _ _ _ _ (by decide +kernel) ?_
  show WM mX3_takesTenths 0 0 Post 4 1 [(0, .ref 0), (1, vJ (c : Int))] [vJ (c : Int)] [ob 3 [.ref 1, .ref 2, .ref 3, vI (s : Int), vI (ah : Int), vZ ar, vI (q : Int)], cN 16 lens, cN 16 tens, cN 16 phr] 0 0
  refine wm_callS mX10_tenthsOf [] (pc := 1) (rest := []) (mc' := 0) (ms' := 0) (by decide +kernel) kX3_72 (c_X10_tenthsOf c hc) rfl ⟨Nat.le_of_ble_eq_true rfl, Nat.le_of_ble_eq_true rfl⟩ ⟨Nat.le_of_ble_eq_true rfl, Nat.le_of_ble_eq_true rfl⟩ (Nat.le_of_ble_eq_true rfl) rfl rfl (Nat.le_of_ble_eq_true rfl) rfl ?_
  rintro _ _ ⟨rfl, rfl⟩
  show WM mX3_takesTenths 0 0 Post 4 4 [(0, .ref 0), (1, vJ (c : Int))] [vI (((tenW c) : Nat) : Int)] [ob 3 [.ref 1, .ref 2, .ref 3, vI (s : Int), vI (ah : Int), vZ ar, vI (q : Int)], cN 16 lens, cN 16 tens, cN 16 phr] 0 0
  refine sq_ok rfl [(.istore_n 3, 0, 0, 0)] 4 _ _ _ _ _ (by decide +kernel) ?_
  show WM mX3_takesTenths 0 0 Post 4 5 [(0, .ref 0), (1, vJ (c : Int)), (3, vI (((tenW c) : Nat) : Int))] [] [ob 3 [.ref 1, .ref 2, .ref 3, vI (s : Int), vI (ah : Int), vZ ar, vI (q : Int)], cN 16 lens, cN 16 tens, cN 16 phr] 0 0
  have htl : tenW c ≤ 10 := by unfold tenW; split; omega; split <;> omega
  refine sq_ok rfl [(.iload_n 3, 0, 0, 0), (.ifCond .eq 10, 0, 0, 0)] 5 _ _ _ _ _ (by decide +kernel) ?_
  show (kI (((tenW c) : Nat) : Int) = kI 0 → WM mX3_takesTenths 0 0 Post 4 16 [(0, .ref 0), (1, vJ (c : Int)), (3, vI (((tenW c) : Nat) : Int))] [] [ob 3 [.ref 1, .ref 2, .ref 3, vI (s : Int), vI (ah : Int), vZ ar, vI (q : Int)], cN 16 lens, cN 16 tens, cN 16 phr] 0 0) ∧ (¬ kI (((tenW c) : Nat) : Int) = kI 0 → WM mX3_takesTenths 0 0 Post 4 9 [(0, .ref 0), (1, vJ (c : Int)), (3, vI (((tenW c) : Nat) : Int))] [] [ob 3 [.ref 1, .ref 2, .ref 3, vI (s : Int), vI (ah : Int), vZ ar, vI (q : Int)], cN 16 lens, cN 16 tens, cN 16 phr] 0 0)
  refine ⟨fun c6 => ?_, fun c6 => ?_⟩
  · 
    rw [kI_eq (by omega)] at c6
    refine sq_ok rfl [(.iconst 0, 0, 0, 0), (.ireturn, 0, 0, 0)] 16 _ _ _ _ _ (by decide +kernel) ?_
    show narrow .boolean (.int (kI 0)) = .int (kI 0) ∧ ((0 ≤ 0 ∧ 0 ≤ 0) ∧ Post (some (vI 0)) [ob 3 [.ref 1, .ref 2, .ref 3, vI (s : Int), vI (ah : Int), vZ ar, vI (q : Int)], cN 16 lens, cN 16 tens, cN 16 phr])
    refine ⟨(bI_fits false).1, ?_⟩
    refine ⟨⟨Nat.le_refl _, Nat.le_refl _⟩, hp _ _ ?_⟩
    exact ⟨false, rfl, Or.inl ⟨rfl, rfl, by omega⟩⟩
  · 
    rw [kI_eq (by omega)] at c6
    refine sq_ok rfl [(.aload_n 0, 0, 0, 0), (.getfield 21, 3, 3, 0), (.ifCond .ne 5, 0, 0, 0)] 9 _ _ _ _ _ (by decide +kernel) ?_
    show (¬ kI (s : Int) = kI 0 → WM mX3_takesTenths 0 0 Post 4 18 [(0, .ref 0), (1, vJ (c : Int)), (3, vI (((tenW c) : Nat) : Int))] [] [ob 3 [.ref 1, .ref 2, .ref 3, vI (s : Int), vI (ah : Int), vZ ar, vI (q : Int)], cN 16 lens, cN 16 tens, cN 16 phr] 0 0) ∧ (kI (s : Int) = kI 0 → WM mX3_takesTenths 0 0 Post 4 16 [(0, .ref 0), (1, vJ (c : Int)), (3, vI (((tenW c) : Nat) : Int))] [] [ob 3 [.ref 1, .ref 2, .ref 3, vI (s : Int), vI (ah : Int), vZ ar, vI (q : Int)], cN 16 lens, cN 16 tens, cN 16 phr] 0 0)
    refine ⟨fun c13 => ?_, fun c13 => ?_⟩
    · 
      rw [kI_eq (by omega)] at c13
      refine sq_ok rfl [(.aload_n 0, 0, 0, 0), (.getfield 15, 3, 1, 0), (.aload_n 0, 0, 0, 0), (.getfield 21, 3, 3, 0), (.iconst 1, 0, 0, 0), (.isub, 0, 0, 0), (.iload_n 3, 0, 0, 0), (.iastore, 0, 0, 0)] 18 _ _ _ _ _ (by decide +kernel) ?_
      show ∃ (j29 : Nat) (g29 : Nat → Int32), (mj 16 ((kI (s : Int)) - (kI 1)) j29 ∧ g29 = upd (fun q => kI ((tens q : Nat) : Int)) j29 (kI (((tenW c) : Nat) : Int))) ∧ WM mX3_takesTenths 0 0 Post 4 30 [(0, .ref 0), (1, vJ (c : Int)), (3, vI (((tenW c) : Nat) : Int))] [] [ob 3 [.ref 1, .ref 2, .ref 3, vI (s : Int), vI (ah : Int), vZ ar, vI (q : Int)], cN 16 lens, .inl (0, 16, .inl g29), cN 16 phr] 0 0
      refine ⟨(s - 1), fun q => kI (((va_up tens (s - 1) (tenW c)) q : Nat) : Int), ⟨⟨by omega, by omega, by rw [kI_sub]; congr 1; omega⟩, st_N (rfl)⟩, ?_⟩
      refine sq_ok rfl [(.aload_n 0, 0, 0, 0), (.iconst 4, 0, 0, 0), (.putfield 32, 3, 6, 0), (.iconst 1, 0, 0, 0), (.ireturn, 0, 0, 0)] 30 _ _ _ _ _ (by decide +kernel) ?_
      show narrow .boolean (.int (kI 1)) = .int (kI 1) ∧ ((0 ≤ 0 ∧ 0 ≤ 0) ∧ Post (some (vI 1)) [ob 3 [.ref 1, .ref 2, .ref 3, vI (s : Int), vI (ah : Int), vZ ar, vI 4], cN 16 lens, cN 16 (va_up tens (s - 1) (tenW c)), cN 16 phr])
      refine ⟨(bI_fits true).1, ?_⟩
      refine ⟨⟨Nat.le_refl _, Nat.le_refl _⟩, hp _ _ ?_⟩
      exact ⟨true, rfl, Or.inr ⟨rfl, rfl, by omega⟩⟩
    · 
      rw [kI_eq (by omega)] at c13
      refine sq_ok rfl [(.iconst 0, 0, 0, 0), (.ireturn, 0, 0, 0)] 16 _ _ _ _ _ (by decide +kernel) ?_
      show narrow .boolean (.int (kI 0)) = .int (kI 0) ∧ ((0 ≤ 0 ∧ 0 ≤ 0) ∧ Post (some (vI 0)) [ob 3 [.ref 1, .ref 2, .ref 3, vI (s : Int), vI (ah : Int), vZ ar, vI (q : Int)], cN 16 lens, cN 16 tens, cN 16 phr])
      refine ⟨(bI_fits false).1, ?_⟩
      refine ⟨⟨Nat.le_refl _, Nat.le_refl _⟩, hp _ _ ?_⟩
      exact ⟨false, rfl, Or.inl ⟨rfl, rfl, by omega⟩⟩

set_option maxRecDepth 100000 in
set_option maxHeartbeats 4000000 in
theorem c_X3_takesArrow (lens tens phr : Nat → Nat) (s ah : Nat) (ar : Bool) (q : Nat) : CT mX3_takesArrow 0 0 [.ref 0] [ob 3 [.ref 1, .ref 2, .ref 3, vI (s : Int), vI (ah : Int), vZ ar, vI (q : Int)], cN 16 lens, cN 16 tens, cN 16 phr] (fun r w => ∃ b : Bool, r = some (vZ b) ∧ ((b = false ∧ w = [ob 3 [.ref 1, .ref 2, .ref 3, vI (s : Int), vI (ah : Int), vZ ar, vI (q : Int)], cN 16 lens, cN 16 tens, cN 16 phr] ∧ ar = true) ∨ (b = true ∧ w = [ob 3 [.ref 1, .ref 2, .ref 3, vI (s : Int), vI (s : Int), vZ true, vI 1], cN 16 lens, cN 16 tens, cN 16 phr] ∧ ar = false))) := by
  refine CT.intro rfl (Nat.le_of_ble_eq_true rfl) ?_
  generalize hPost : (fun r w => ∃ b : Bool, r = some (vZ b) ∧ ((b = false ∧ w = [ob 3 [.ref 1, .ref 2, .ref 3, vI (s : Int), vI (ah : Int), vZ ar, vI (q : Int)], cN 16 lens, cN 16 tens, cN 16 phr] ∧ ar = true) ∨ (b = true ∧ w = [ob 3 [.ref 1, .ref 2, .ref 3, vI (s : Int), vI (s : Int), vZ true, vI 1], cN 16 lens, cN 16 tens, cN 16 phr] ∧ ar = false)) : MP) = Post
  have hp : ∀ r w', (fun r w => ∃ b : Bool, r = some (vZ b) ∧ ((b = false ∧ w = [ob 3 [.ref 1, .ref 2, .ref 3, vI (s : Int), vI (ah : Int), vZ ar, vI (q : Int)], cN 16 lens, cN 16 tens, cN 16 phr] ∧ ar = true) ∨ (b = true ∧ w = [ob 3 [.ref 1, .ref 2, .ref 3, vI (s : Int), vI (s : Int), vZ true, vI 1], cN 16 lens, cN 16 tens, cN 16 phr] ∧ ar = false)) : MP) r w' → Post r w' := by rw [← hPost]; exact fun _ _ h => h
  clear hPost
  show WM mX3_takesArrow 0 0 Post 4 0 [(0, .ref 0)] [] [ob 3 [.ref 1, .ref 2, .ref 3, vI (s : Int), vI (ah : Int), vZ ar, vI (q : Int)], cN 16 lens, cN 16 tens, cN 16 phr] 0 0
  refine sq_ok rfl [(.aload_n 0, 0, 0, 0), (.getfield 28, 3, 5, 0), (.ifCond .eq 5, 0, 0, 0)] 0 _ _ _ _ _ (by decide +kernel) ?_
  show ((bI ar) = kI 0 → WM mX3_takesArrow 0 0 Post 4 9 [(0, .ref 0)] [] [ob 3 [.ref 1, .ref 2, .ref 3, vI (s : Int), vI (ah : Int), vZ ar, vI (q : Int)], cN 16 lens, cN 16 tens, cN 16 phr] 0 0) ∧ (¬ (bI ar) = kI 0 → WM mX3_takesArrow 0 0 Post 4 7 [(0, .ref 0)] [] [ob 3 [.ref 1, .ref 2, .ref 3, vI (s : Int), vI (ah : Int), vZ ar, vI (q : Int)], cN 16 lens, cN 16 tens, cN 16 phr] 0 0)
  refine ⟨fun c4 => ?_, fun c4 => ?_⟩
  · 
    rw [bI_eq0] at c4
    refine sq_ok rfl [(.aload_n 0, 0, 0, 0), (.iconst 1, 0, 0, 0), (.putfield 28, 3, 5, 0), (.aload_n 0, 0, 0, 0), (.aload_n 0, 0, 0, 0), (.getfield 21, 3, 3, 0), (.putfield 25, 3, 4, 0), (.aload_n 0, 0, 0, 0), (.iconst 1, 0, 0, 0), (.putfield 32, 3, 6, 0), (.iconst 1, 0, 0, 0), (.ireturn, 0, 0, 0)] 9 _ _ _ _ _ (by decide +kernel) ?_
    show (narrow .boolean (.int (kI 1)) = .int (kI 1) ∧ fits .boolean (.int (kI 1)) = true) ∧ narrow .boolean (.int (kI 1)) = .int (kI 1) ∧ ((0 ≤ 0 ∧ 0 ≤ 0) ∧ Post (some (vI 1)) [ob 3 [.ref 1, .ref 2, .ref 3, vI (s : Int), vI (s : Int), vZ true, vI 1], cN 16 lens, cN 16 tens, cN 16 phr])
    refine ⟨bI_fits true, ?_⟩
    refine ⟨(bI_fits true).1, ?_⟩
    refine ⟨⟨Nat.le_refl _, Nat.le_refl _⟩, hp _ _ ?_⟩
    exact ⟨true, rfl, Or.inr ⟨rfl, rfl, c4⟩⟩
  · 
    rw [bI_eq0] at c4
    refine sq_ok rfl [(.iconst 0, 0, 0, 0), (.ireturn, 0, 0, 0)] 7 _ _ _ _ _ (by decide +kernel) ?_
    show narrow .boolean (.int (kI 0)) = .int (kI 0) ∧ ((0 ≤ 0 ∧ 0 ≤ 0) ∧ Post (some (vI 0)) [ob 3 [.ref 1, .ref 2, .ref 3, vI (s : Int), vI (ah : Int), vZ ar, vI (q : Int)], cN 16 lens, cN 16 tens, cN 16 phr])
    refine ⟨(bI_fits false).1, ?_⟩
    refine ⟨⟨Nat.le_refl _, Nat.le_refl _⟩, hp _ _ ?_⟩
    exact ⟨false, rfl, Or.inl ⟨rfl, rfl, by cases ar <;> simp_all⟩⟩

set_option maxRecDepth 100000 in
set_option maxHeartbeats 4000000 in
theorem c_X3_takesWord (lens tens phr : Nat → Nat) (s ah : Nat) (ar : Bool) (q : Nat) (mo d : Nat) (hmo : 64 ≤ mo ∧ mo < 2147483648) (nums : Nat → Int) (g : Nat → Nat) (c : Nat) (hI : pInv lens s ah q d) : CT mX3_takesWord 0 0 [.ref 0, vJ (c : Int), .ref 4] [ob 3 [.ref 1, .ref 2, .ref 3, vI (s : Int), vI (ah : Int), vZ ar, vI (q : Int)], cN 16 lens, cN 16 tens, cN 16 phr, ob 9 [vI (mo : Int), .ref 5, .ref 6, vI (d : Int)], cI mo nums, cK mo g] (fun r w => ∃ (lens2 tens2 : Nat → Nat) (s2 q2 : Nat) (g2 : Nat → Nat) (d2 : Nat) (b : Bool), r = some (vZ b) ∧ w = [ob 3 [.ref 1, .ref 2, .ref 3, vI (s2 : Int), vI (ah : Int), vZ ar, vI (q2 : Int)], cN 16 lens2, cN 16 tens2, cN 16 phr, ob 9 [vI (mo : Int), .ref 5, .ref 6, vI (d2 : Int)], cI mo nums, cK mo g2] ∧ if b then pWord (pabs lens tens s ah ar q g d) c = some (pabs lens2 tens2 s2 ah ar q2 g2 d2) ∧ pInv lens2 s2 ah q2 d2 else pWord (pabs lens tens s ah ar q g d) c = none) := by
  refine CT.intro rfl (Nat.le_of_ble_eq_true rfl) ?_
  generalize hPost : (fun r w => ∃ (lens2 tens2 : Nat → Nat) (s2 q2 : Nat) (g2 : Nat → Nat) (d2 : Nat) (b : Bool), r = some (vZ b) ∧ w = [ob 3 [.ref 1, .ref 2, .ref 3, vI (s2 : Int), vI (ah : Int), vZ ar, vI (q2 : Int)], cN 16 lens2, cN 16 tens2, cN 16 phr, ob 9 [vI (mo : Int), .ref 5, .ref 6, vI (d2 : Int)], cI mo nums, cK mo g2] ∧ if b then pWord (pabs lens tens s ah ar q g d) c = some (pabs lens2 tens2 s2 ah ar q2 g2 d2) ∧ pInv lens2 s2 ah q2 d2 else pWord (pabs lens tens s ah ar q g d) c = none : MP) = Post
  have hp : ∀ r w', (fun r w => ∃ (lens2 tens2 : Nat → Nat) (s2 q2 : Nat) (g2 : Nat → Nat) (d2 : Nat) (b : Bool), r = some (vZ b) ∧ w = [ob 3 [.ref 1, .ref 2, .ref 3, vI (s2 : Int), vI (ah : Int), vZ ar, vI (q2 : Int)], cN 16 lens2, cN 16 tens2, cN 16 phr, ob 9 [vI (mo : Int), .ref 5, .ref 6, vI (d2 : Int)], cI mo nums, cK mo g2] ∧ if b then pWord (pabs lens tens s ah ar q g d) c = some (pabs lens2 tens2 s2 ah ar q2 g2 d2) ∧ pInv lens2 s2 ah q2 d2 else pWord (pabs lens tens s ah ar q g d) c = none : MP) r w' → Post r w' := by rw [← hPost]; exact fun _ _ h => h
  clear hPost
  obtain ⟨i1, i2, i3, i4, i5, i6, i7⟩ := id hI
  show WM mX3_takesWord 0 0 Post 7 0 [(0, .ref 0), (1, vJ (c : Int)), (3, .ref 4)] [] [ob 3 [.ref 1, .ref 2, .ref 3, vI (s : Int), vI (ah : Int), vZ ar, vI (q : Int)], cN 16 lens, cN 16 tens, cN 16 phr, ob 9 [vI (mo : Int), .ref 5, .ref 6, vI (d : Int)], cI mo nums, cK mo g] 0 0
  refine sq_ok rfl [(.aload_n 0, 0, 0, 0), (.getfield 32, 3, 6, 0), (.iconst 4, 0, 0, 0), (.if_icmp .ne 5, 0, 0, 0)] 0 _ _ _ _ _ (by decide +kernel) ?_
  show (¬ kI (q : Int) = kI 4 → WM mX3_takesWord 0 0 Post 7 10 [(0, .ref 0), (1, vJ (c : Int)), (3, .ref 4)] [] [ob 3 [.ref 1, .ref 2, .ref 3, vI (s : Int), vI (ah : Int), vZ ar, vI (q : Int)], cN 16 lens, cN 16 tens, cN 16 phr, ob 9 [vI (mo : Int), .ref 5, .ref 6, vI (d : Int)], cI mo nums, cK mo g] 0 0) ∧ (kI (q : Int) = kI 4 → WM mX3_takesWord 0 0 Post 7 8 [(0, .ref 0), (1, vJ (c : Int)), (3, .ref 4)] [] [ob 3 [.ref 1, .ref 2, .ref 3, vI (s : Int), vI (ah : Int), vZ ar, vI (q : Int)], cN 16 lens, cN 16 tens, cN 16 phr, ob 9 [vI (mo : Int), .ref 5, .ref 6, vI (d : Int)], cI mo nums, cK mo g] 0 0)
  refine ⟨fun c5 => ?_, fun c5 => ?_⟩
  · 
    rw [kI_eq (by omega)] at c5
    refine sq_ok rfl [(.aload_n 0, 0, 0, 0), (.getfield 32, 3, 6, 0), (.iconst 2, 0, 0, 0), (.if_icmp .eq 12, 0, 0, 0)] 10 _ _ _ _ _ (by decide +kernel) ?_
    show (kI (q : Int) = kI 2 → WM mX3_takesWord 0 0 Post 7 27 [(0, .ref 0), (1, vJ (c : Int)), (3, .ref 4)] [] [ob 3 [.ref 1, .ref 2, .ref 3, vI (s : Int), vI (ah : Int), vZ ar, vI (q : Int)], cN 16 lens, cN 16 tens, cN 16 phr, ob 9 [vI (mo : Int), .ref 5, .ref 6, vI (d : Int)], cI mo nums, cK mo g] 0 0) ∧ (¬ kI (q : Int) = kI 2 → WM mX3_takesWord 0 0 Post 7 18 [(0, .ref 0), (1, vJ (c : Int)), (3, .ref 4)] [] [ob 3 [.ref 1, .ref 2, .ref 3, vI (s : Int), vI (ah : Int), vZ ar, vI (q : Int)], cN 16 lens, cN 16 tens, cN 16 phr, ob 9 [vI (mo : Int), .ref 5, .ref 6, vI (d : Int)], cI mo nums, cK mo g] 0 0)
    refine ⟨fun c15 => ?_, fun c15 => ?_⟩
    · 
      rw [kI_eq (by omega)] at c15
      have lp27 : ∀ (n27 : Nat) (lens1 : Nat → Nat) (tens1 : Nat → Nat) (s1 : Nat) (q1 : Nat) (g1 : Nat → Nat) (d1 : Nat), (pInv lens1 s1 ah q1 d1 ∧ 1 ≤ s1) → (pWord (pabs lens tens s ah ar q g d) c = pAdd (pabs lens1 tens1 s1 ah ar q1 g1 d1) c) → 0 < n27 → WM mX3_takesWord 0 0 Post 7 27 [(0, .ref 0), (1, vJ (c : Int)), (3, .ref 4)] [] [ob 3 [.ref 1, .ref 2, .ref 3, vI (s1 : Int), vI (ah : Int), vZ ar, vI (q1 : Int)], cN 16 lens1, cN 16 tens1, cN 16 phr, ob 9 [vI (mo : Int), .ref 5, .ref 6, vI (d1 : Int)], cI mo nums, cK mo g1] 0 0 := by
        intro n27
        induction n27 with
        | zero => intro lens1 tens1 s1 q1 g1 d1 hJ hq hm; exact absurd hm (Nat.not_lt_zero _)
        | succ n27 ih27 =>
          intro lens1 tens1 s1 q1 g1 d1 hJ hq hm27
          obtain ⟨⟨j1, j2, j3, j4, j5, j6, j7⟩, hs1⟩ := hJ
          have j8 := j5 (s1 - 1) (by omega)
          have j9 := j6 hs1
          unfold pAdd at hq
          rw [sd_last lens1 tens1 hs1] at hq
          dsimp only at hq
          refine sq_ok rfl [(.aload_n 0, 0, 0, 0), (.getfield 9, 3, 0, 0), (.aload_n 0, 0, 0, 0), (.getfield 21, 3, 3, 0), (.iconst 1, 0, 0, 0), (.isub, 0, 0, 0), (.iaload, 0, 0, 0), (.iconst 4, 0, 0, 0), (.if_icmp .lt 5, 0, 0, 0)] 27 _ _ _ _ _ (by decide +kernel) ?_
          show ∃ j37 : Nat, mj 16 ((kI (s1 : Int)) - (kI 1)) j37 ∧ (kI ((lens1 j37 : Nat) : Int) < kI 4 → WM mX3_takesWord 0 0 Post 7 44 [(0, .ref 0), (1, vJ (c : Int)), (3, .ref 4)] [] [ob 3 [.ref 1, .ref 2, .ref 3, vI (s1 : Int), vI (ah : Int), vZ ar, vI (q1 : Int)], cN 16 lens1, cN 16 tens1, cN 16 phr, ob 9 [vI (mo : Int), .ref 5, .ref 6, vI (d1 : Int)], cI mo nums, cK mo g1] 0 0) ∧ (¬ kI ((lens1 j37 : Nat) : Int) < kI 4 → WM mX3_takesWord 0 0 Post 7 42 [(0, .ref 0), (1, vJ (c : Int)), (3, .ref 4)] [] [ob 3 [.ref 1, .ref 2, .ref 3, vI (s1 : Int), vI (ah : Int), vZ ar, vI (q1 : Int)], cN 16 lens1, cN 16 tens1, cN 16 phr, ob 9 [vI (mo : Int), .ref 5, .ref 6, vI (d1 : Int)], cI mo nums, cK mo g1] 0 0)
          refine ⟨(s1 - 1), ⟨by omega, by omega, by rw [kI_sub]; congr 1; omega⟩, ?_⟩
          refine ⟨fun c39 => ?_, fun c39 => ?_⟩
          · 
            rw [kI_lt (by omega)] at c39
            refine sq_ok rfl [(.aload_n 0, 0, 0, 0), (.getfield 9, 3, 0, 0), (.aload_n 0, 0, 0, 0), (.getfield 21, 3, 3, 0), (.iconst 1, 0, 0, 0), (.isub, 0, 0, 0), (.dup2, 0, 0, 0), (.iaload, 0, 0, 0), (.iconst 1, 0, 0, 0), (.iadd, 0, 0, 0), (.iastore, 0, 0, 0)] 44 _ _ _ _ _ (by decide +kernel) ?_
            show ∃ j55 : Nat, mj 16 ((kI (s1 : Int)) - (kI 1)) j55 ∧ ∃ (j58 : Nat) (g58 : Nat → Int32), (mj 16 ((kI (s1 : Int)) - (kI 1)) j58 ∧ g58 = upd (fun q => kI ((lens1 q : Nat) : Int)) j58 ((kI ((lens1 j55 : Nat) : Int)) + (kI 1))) ∧ WM mX3_takesWord 0 0 Post 7 59 [(0, .ref 0), (1, vJ (c : Int)), (3, .ref 4)] [] [ob 3 [.ref 1, .ref 2, .ref 3, vI (s1 : Int), vI (ah : Int), vZ ar, vI (q1 : Int)], .inl (0, 16, .inl g58), cN 16 tens1, cN 16 phr, ob 9 [vI (mo : Int), .ref 5, .ref 6, vI (d1 : Int)], cI mo nums, cK mo g1] 0 0
            refine ⟨(s1 - 1), ⟨by omega, by omega, by rw [kI_sub]; congr 1; omega⟩, ?_⟩
            refine ⟨(s1 - 1), fun q => kI (((va_up lens1 (s1 - 1) ((lens1 (s1 - 1)) + 1)) q : Nat) : Int), ⟨⟨by omega, by omega, by first | (congr 1; omega) | (rw [kI_sub]; congr 1; omega)⟩, st_N (by first | rfl | (simp only [kI_add, kI_sub, kI_mul, kL_add, kL_sub, kL_mul]; done) | (simp only [kI_add, kI_sub, kI_mul, kL_add, kL_sub, kL_mul]; rfl))⟩, ?_⟩
            refine sq_ok rfl [(.aload_n 3, 0, 0, 0), (.lload_n 1, 0, 0, 0)] 59 _ _ _ _ _ (by decide +kernel) ?_
            show WM mX3_takesWord 0 0 Post 7 61 [(0, .ref 0), (1, vJ (c : Int)), (3, .ref 4)] [vJ (c : Int), .ref 4] [ob 3 [.ref 1, .ref 2, .ref 3, vI (s1 : Int), vI (ah : Int), vZ ar, vI (q1 : Int)], cN 16 (va_up lens1 (s1 - 1) ((lens1 (s1 - 1)) + 1)), cN 16 tens1, cN 16 phr, ob 9 [vI (mo : Int), .ref 5, .ref 6, vI (d1 : Int)], cI mo nums, cK mo g1] 0 0
            refine wm_callV mX9_addCode [4, 5, 6] (pc := 61) (rest := []) (mc' := 0) (ms' := 0) (by decide +kernel) kX3_81 (c_X9_addCode mo d1 hmo.2 (by omega) nums g1 c) rfl rfl ⟨_, rfl, rfl⟩ ⟨Nat.le_of_ble_eq_true rfl, Nat.le_of_ble_eq_true rfl⟩ ⟨Nat.le_of_ble_eq_true rfl, Nat.le_of_ble_eq_true rfl⟩ (Nat.le_of_ble_eq_true rfl) rfl rfl (Nat.le_of_ble_eq_true rfl) rfl ?_
            rintro _ _ ⟨rfl, hw⟩
            rw [if_pos (by omega)] at hw
            subst hw
            show WM mX3_takesWord 0 0 Post 7 64 [(0, .ref 0), (1, vJ (c : Int)), (3, .ref 4)] [] [ob 3 [.ref 1, .ref 2, .ref 3, vI (s1 : Int), vI (ah : Int), vZ ar, vI (q1 : Int)], cN 16 (va_up lens1 (s1 - 1) ((lens1 (s1 - 1)) + 1)), cN 16 tens1, cN 16 phr, ob 9 [vI (mo : Int), .ref 5, .ref 6, vI (((d1 + 1) : Nat) : Int)], cI mo nums, cK mo (va_up g1 d1 c)] 0 0
            refine sq_ok rfl [(.iconst 1, 0, 0, 0), (.ireturn, 0, 0, 0)] 64 _ _ _ _ _ (by decide +kernel) ?_
            show narrow .boolean (.int (kI 1)) = .int (kI 1) ∧ ((0 ≤ 0 ∧ 0 ≤ 0) ∧ Post (some (vI 1)) [ob 3 [.ref 1, .ref 2, .ref 3, vI (s1 : Int), vI (ah : Int), vZ ar, vI (q1 : Int)], cN 16 (va_up lens1 (s1 - 1) ((lens1 (s1 - 1)) + 1)), cN 16 tens1, cN 16 phr, ob 9 [vI (mo : Int), .ref 5, .ref 6, vI (((d1 + 1) : Nat) : Int)], cI mo nums, cK mo (va_up g1 d1 c)])
            refine ⟨(bI_fits true).1, ?_⟩
            refine ⟨⟨Nat.le_refl _, Nat.le_refl _⟩, hp _ _ ?_⟩
            rw [if_neg (by omega)] at hq
            refine ⟨va_up lens1 (s1 - 1) (lens1 (s1 - 1) + 1), tens1, s1, q1, va_up g1 d1 c, d1 + 1, true, rfl, rfl, ?_⟩
            rw [if_pos rfl]
            refine ⟨?_, j1, j2, j3, j4, fun j hj => ?_, fun _ => ?_, fun h => by omega⟩
            · rw [hq]
              unfold pabs
              rw [sd_set (lens := lens1) (tens := tens1) hs1 (fun j hj => up_ne _ _ (by omega)) (fun _ _ => rfl), up_eq, lst_up]
            · by_cases h : j = s1 - 1
              · rw [h, up_eq]; omega
              · rw [up_ne _ _ h]; exact j5 j hj
            · rw [up_eq]; omega
          · 
            rw [kI_lt (by omega)] at c39
            refine sq_ok rfl [(.iconst 0, 0, 0, 0), (.ireturn, 0, 0, 0)] 42 _ _ _ _ _ (by decide +kernel) ?_
            show narrow .boolean (.int (kI 0)) = .int (kI 0) ∧ ((0 ≤ 0 ∧ 0 ≤ 0) ∧ Post (some (vI 0)) [ob 3 [.ref 1, .ref 2, .ref 3, vI (s1 : Int), vI (ah : Int), vZ ar, vI (q1 : Int)], cN 16 lens1, cN 16 tens1, cN 16 phr, ob 9 [vI (mo : Int), .ref 5, .ref 6, vI (d1 : Int)], cI mo nums, cK mo g1])
            refine ⟨(bI_fits false).1, ?_⟩
            refine ⟨⟨Nat.le_refl _, Nat.le_refl _⟩, hp _ _ ?_⟩
            rw [if_pos (by omega)] at hq
            exact ⟨lens1, tens1, s1, q1, g1, d1, false, rfl, rfl, hq⟩
      exact WM.pick [0, 1, 2] rfl (lp27 _ lens tens s q g d ⟨hI, i4 (by omega)⟩ (by simp only [pWord]; rw [if_neg (show ¬ q = 4 by omega), if_pos (show q = 2 by omega)]) (Nat.lt_succ_self _))
    · 
      rw [kI_eq (by omega)] at c15
      refine sq_ok rfl [(.aload_n 0, 0, 0, 0)] 18 _ _ _ _ _ (by decide +kernel) ?_
      show WM mX3_takesWord 0 0 Post 7 19 [(0, .ref 0), (1, vJ (c : Int)), (3, .ref 4)] [.ref 0] [ob 3 [.ref 1, .ref 2, .ref 3, vI (s : Int), vI (ah : Int), vZ ar, vI (q : Int)], cN 16 lens, cN 16 tens, cN 16 phr, ob 9 [vI (mo : Int), .ref 5, .ref 6, vI (d : Int)], cI mo nums, cK mo g] 0 0
      refine wm_callV mX3_opensSide [0, 1, 2, 3] (pc := 19) (rest := []) (mc' := 0) (ms' := 0) (by decide +kernel) kX3_78 (c_X3_opensSide lens tens phr s ah ar q i2 i3) rfl rfl ⟨_, rfl, rfl⟩ ⟨Nat.le_of_ble_eq_true rfl, Nat.le_of_ble_eq_true rfl⟩ ⟨Nat.le_of_ble_eq_true rfl, Nat.le_of_ble_eq_true rfl⟩ (Nat.le_of_ble_eq_true rfl) rfl rfl (Nat.le_of_ble_eq_true rfl) rfl ?_
      rintro _ _ ⟨b, rfl, ⟨rfl, rfl, hb2⟩ | ⟨rfl, rfl, hb2⟩⟩
      · 
        show WM mX3_takesWord 0 0 Post 7 22 [(0, .ref 0), (1, vJ (c : Int)), (3, .ref 4)] [vZ false] [ob 3 [.ref 1, .ref 2, .ref 3, vI (s : Int), vI (ah : Int), vZ ar, vI (q : Int)], cN 16 lens, cN 16 tens, cN 16 phr, ob 9 [vI (mo : Int), .ref 5, .ref 6, vI (d : Int)], cI mo nums, cK mo g] 0 0
        refine sq_ok rfl [(.ifCond .ne 5, 0, 0, 0)] 22 _ _ _ _ _ (by decide +kernel) ?_
        show (¬ (bI false) = kI 0 → WM mX3_takesWord 0 0 Post 7 27 [(0, .ref 0), (1, vJ (c : Int)), (3, .ref 4)] [] [ob 3 [.ref 1, .ref 2, .ref 3, vI (s : Int), vI (ah : Int), vZ ar, vI (q : Int)], cN 16 lens, cN 16 tens, cN 16 phr, ob 9 [vI (mo : Int), .ref 5, .ref 6, vI (d : Int)], cI mo nums, cK mo g] 0 0) ∧ ((bI false) = kI 0 → WM mX3_takesWord 0 0 Post 7 25 [(0, .ref 0), (1, vJ (c : Int)), (3, .ref 4)] [] [ob 3 [.ref 1, .ref 2, .ref 3, vI (s : Int), vI (ah : Int), vZ ar, vI (q : Int)], cN 16 lens, cN 16 tens, cN 16 phr, ob 9 [vI (mo : Int), .ref 5, .ref 6, vI (d : Int)], cI mo nums, cK mo g] 0 0)
        refine ⟨fun c22 => ?_, fun c22 => ?_⟩
        · 
          exact absurd c22 (by decide)
        · 
          rw [bI_eq0] at c22
          refine sq_ok rfl [(.iconst 0, 0, 0, 0), (.ireturn, 0, 0, 0)] 25 _ _ _ _ _ (by decide +kernel) ?_
          show narrow .boolean (.int (kI 0)) = .int (kI 0) ∧ ((0 ≤ 0 ∧ 0 ≤ 0) ∧ Post (some (vI 0)) [ob 3 [.ref 1, .ref 2, .ref 3, vI (s : Int), vI (ah : Int), vZ ar, vI (q : Int)], cN 16 lens, cN 16 tens, cN 16 phr, ob 9 [vI (mo : Int), .ref 5, .ref 6, vI (d : Int)], cI mo nums, cK mo g])
          refine ⟨(bI_fits false).1, ?_⟩
          refine ⟨⟨Nat.le_refl _, Nat.le_refl _⟩, hp _ _ ?_⟩
          exact ⟨lens, tens, s, q, g, d, false, rfl, rfl, by simp only [pWord, pOpen, lst_len]; rw [if_neg (show ¬ q = 4 by omega), if_neg (show ¬ q = 2 by omega), if_pos hb2]; rfl⟩
      · 
        show WM mX3_takesWord 0 0 Post 7 22 [(0, .ref 0), (1, vJ (c : Int)), (3, .ref 4)] [vZ true] [ob 3 [.ref 1, .ref 2, .ref 3, vI (((s + 1) : Nat) : Int), vI (ah : Int), vZ ar, vI 2], cN 16 (va_up lens s 0), cN 16 (va_up tens s 10), cN 16 phr, ob 9 [vI (mo : Int), .ref 5, .ref 6, vI (d : Int)], cI mo nums, cK mo g] 0 0
        refine sq_ok rfl [(.ifCond .ne 5, 0, 0, 0)] 22 _ _ _ _ _ (by decide +kernel) ?_
        show (¬ (bI true) = kI 0 → WM mX3_takesWord 0 0 Post 7 27 [(0, .ref 0), (1, vJ (c : Int)), (3, .ref 4)] [] [ob 3 [.ref 1, .ref 2, .ref 3, vI (((s + 1) : Nat) : Int), vI (ah : Int), vZ ar, vI 2], cN 16 (va_up lens s 0), cN 16 (va_up tens s 10), cN 16 phr, ob 9 [vI (mo : Int), .ref 5, .ref 6, vI (d : Int)], cI mo nums, cK mo g] 0 0) ∧ ((bI true) = kI 0 → WM mX3_takesWord 0 0 Post 7 25 [(0, .ref 0), (1, vJ (c : Int)), (3, .ref 4)] [] [ob 3 [.ref 1, .ref 2, .ref 3, vI (((s + 1) : Nat) : Int), vI (ah : Int), vZ ar, vI 2], cN 16 (va_up lens s 0), cN 16 (va_up tens s 10), cN 16 phr, ob 9 [vI (mo : Int), .ref 5, .ref 6, vI (d : Int)], cI mo nums, cK mo g] 0 0)
        refine ⟨fun c22 => ?_, fun c22 => ?_⟩
        · 
          rw [bI_eq0] at c22
          have lp27 : ∀ (n27 : Nat) (lens1 : Nat → Nat) (tens1 : Nat → Nat) (s1 : Nat) (q1 : Nat) (g1 : Nat → Nat) (d1 : Nat), (pInv lens1 s1 ah q1 d1 ∧ 1 ≤ s1) → (pWord (pabs lens tens s ah ar q g d) c = pAdd (pabs lens1 tens1 s1 ah ar q1 g1 d1) c) → 0 < n27 → WM mX3_takesWord 0 0 Post 7 27 [(0, .ref 0), (1, vJ (c : Int)), (3, .ref 4)] [] [ob 3 [.ref 1, .ref 2, .ref 3, vI (s1 : Int), vI (ah : Int), vZ ar, vI (q1 : Int)], cN 16 lens1, cN 16 tens1, cN 16 phr, ob 9 [vI (mo : Int), .ref 5, .ref 6, vI (d1 : Int)], cI mo nums, cK mo g1] 0 0 := by
            intro n27
            induction n27 with
            | zero => intro lens1 tens1 s1 q1 g1 d1 hJ hq hm; exact absurd hm (Nat.not_lt_zero _)
            | succ n27 ih27 =>
              intro lens1 tens1 s1 q1 g1 d1 hJ hq hm27
              obtain ⟨⟨j1, j2, j3, j4, j5, j6, j7⟩, hs1⟩ := hJ
              have j8 := j5 (s1 - 1) (by omega)
              have j9 := j6 hs1
              unfold pAdd at hq
              rw [sd_last lens1 tens1 hs1] at hq
              dsimp only at hq
              refine sq_ok rfl [(.aload_n 0, 0, 0, 0), (.getfield 9, 3, 0, 0), (.aload_n 0, 0, 0, 0), (.getfield 21, 3, 3, 0), (.iconst 1, 0, 0, 0), (.isub, 0, 0, 0), (.iaload, 0, 0, 0), (.iconst 4, 0, 0, 0), (.if_icmp .lt 5, 0, 0, 0)] 27 _ _ _ _ _ (by decide +kernel) ?_
              show ∃ j37 : Nat, mj 16 ((kI (s1 : Int)) - (kI 1)) j37 ∧ (kI ((lens1 j37 : Nat) : Int) < kI 4 → WM mX3_takesWord 0 0 Post 7 44 [(0, .ref 0), (1, vJ (c : Int)), (3, .ref 4)] [] [ob 3 [.ref 1, .ref 2, .ref 3, vI (s1 : Int), vI (ah : Int), vZ ar, vI (q1 : Int)], cN 16 lens1, cN 16 tens1, cN 16 phr, ob 9 [vI (mo : Int), .ref 5, .ref 6, vI (d1 : Int)], cI mo nums, cK mo g1] 0 0) ∧ (¬ kI ((lens1 j37 : Nat) : Int) < kI 4 → WM mX3_takesWord 0 0 Post 7 42 [(0, .ref 0), (1, vJ (c : Int)), (3, .ref 4)] [] [ob 3 [.ref 1, .ref 2, .ref 3, vI (s1 : Int), vI (ah : Int), vZ ar, vI (q1 : Int)], cN 16 lens1, cN 16 tens1, cN 16 phr, ob 9 [vI (mo : Int), .ref 5, .ref 6, vI (d1 : Int)], cI mo nums, cK mo g1] 0 0)
              refine ⟨(s1 - 1), ⟨by omega, by omega, by rw [kI_sub]; congr 1; omega⟩, ?_⟩
              refine ⟨fun c39 => ?_, fun c39 => ?_⟩
              · 
                rw [kI_lt (by omega)] at c39
                refine sq_ok rfl [(.aload_n 0, 0, 0, 0), (.getfield 9, 3, 0, 0), (.aload_n 0, 0, 0, 0), (.getfield 21, 3, 3, 0), (.iconst 1, 0, 0, 0), (.isub, 0, 0, 0), (.dup2, 0, 0, 0), (.iaload, 0, 0, 0), (.iconst 1, 0, 0, 0), (.iadd, 0, 0, 0), (.iastore, 0, 0, 0)] 44 _ _ _ _ _ (by decide +kernel) ?_
                show ∃ j55 : Nat, mj 16 ((kI (s1 : Int)) - (kI 1)) j55 ∧ ∃ (j58 : Nat) (g58 : Nat → Int32), (mj 16 ((kI (s1 : Int)) - (kI 1)) j58 ∧ g58 = upd (fun q => kI ((lens1 q : Nat) : Int)) j58 ((kI ((lens1 j55 : Nat) : Int)) + (kI 1))) ∧ WM mX3_takesWord 0 0 Post 7 59 [(0, .ref 0), (1, vJ (c : Int)), (3, .ref 4)] [] [ob 3 [.ref 1, .ref 2, .ref 3, vI (s1 : Int), vI (ah : Int), vZ ar, vI (q1 : Int)], .inl (0, 16, .inl g58), cN 16 tens1, cN 16 phr, ob 9 [vI (mo : Int), .ref 5, .ref 6, vI (d1 : Int)], cI mo nums, cK mo g1] 0 0
                refine ⟨(s1 - 1), ⟨by omega, by omega, by rw [kI_sub]; congr 1; omega⟩, ?_⟩
                refine ⟨(s1 - 1), fun q => kI (((va_up lens1 (s1 - 1) ((lens1 (s1 - 1)) + 1)) q : Nat) : Int), ⟨⟨by omega, by omega, by first | (congr 1; omega) | (rw [kI_sub]; congr 1; omega)⟩, st_N (by first | rfl | (simp only [kI_add, kI_sub, kI_mul, kL_add, kL_sub, kL_mul]; done) | (simp only [kI_add, kI_sub, kI_mul, kL_add, kL_sub, kL_mul]; rfl))⟩, ?_⟩
                refine sq_ok rfl [(.aload_n 3, 0, 0, 0), (.lload_n 1, 0, 0, 0)] 59 _ _ _ _ _ (by decide +kernel) ?_
                show WM mX3_takesWord 0 0 Post 7 61 [(0, .ref 0), (1, vJ (c : Int)), (3, .ref 4)] [vJ (c : Int), .ref 4] [ob 3 [.ref 1, .ref 2, .ref 3, vI (s1 : Int), vI (ah : Int), vZ ar, vI (q1 : Int)], cN 16 (va_up lens1 (s1 - 1) ((lens1 (s1 - 1)) + 1)), cN 16 tens1, cN 16 phr, ob 9 [vI (mo : Int), .ref 5, .ref 6, vI (d1 : Int)], cI mo nums, cK mo g1] 0 0
                refine wm_callV mX9_addCode [4, 5, 6] (pc := 61) (rest := []) (mc' := 0) (ms' := 0) (by decide +kernel) kX3_81 (c_X9_addCode mo d1 hmo.2 (by omega) nums g1 c) rfl rfl ⟨_, rfl, rfl⟩ ⟨Nat.le_of_ble_eq_true rfl, Nat.le_of_ble_eq_true rfl⟩ ⟨Nat.le_of_ble_eq_true rfl, Nat.le_of_ble_eq_true rfl⟩ (Nat.le_of_ble_eq_true rfl) rfl rfl (Nat.le_of_ble_eq_true rfl) rfl ?_
                rintro _ _ ⟨rfl, hw⟩
                rw [if_pos (by omega)] at hw
                subst hw
                show WM mX3_takesWord 0 0 Post 7 64 [(0, .ref 0), (1, vJ (c : Int)), (3, .ref 4)] [] [ob 3 [.ref 1, .ref 2, .ref 3, vI (s1 : Int), vI (ah : Int), vZ ar, vI (q1 : Int)], cN 16 (va_up lens1 (s1 - 1) ((lens1 (s1 - 1)) + 1)), cN 16 tens1, cN 16 phr, ob 9 [vI (mo : Int), .ref 5, .ref 6, vI (((d1 + 1) : Nat) : Int)], cI mo nums, cK mo (va_up g1 d1 c)] 0 0
                refine sq_ok rfl [(.iconst 1, 0, 0, 0), (.ireturn, 0, 0, 0)] 64 _ _ _ _ _ (by decide +kernel) ?_
                show narrow .boolean (.int (kI 1)) = .int (kI 1) ∧ ((0 ≤ 0 ∧ 0 ≤ 0) ∧ Post (some (vI 1)) [ob 3 [.ref 1, .ref 2, .ref 3, vI (s1 : Int), vI (ah : Int), vZ ar, vI (q1 : Int)], cN 16 (va_up lens1 (s1 - 1) ((lens1 (s1 - 1)) + 1)), cN 16 tens1, cN 16 phr, ob 9 [vI (mo : Int), .ref 5, .ref 6, vI (((d1 + 1) : Nat) : Int)], cI mo nums, cK mo (va_up g1 d1 c)])
                refine ⟨(bI_fits true).1, ?_⟩
                refine ⟨⟨Nat.le_refl _, Nat.le_refl _⟩, hp _ _ ?_⟩
                rw [if_neg (by omega)] at hq
                refine ⟨va_up lens1 (s1 - 1) (lens1 (s1 - 1) + 1), tens1, s1, q1, va_up g1 d1 c, d1 + 1, true, rfl, rfl, ?_⟩
                rw [if_pos rfl]
                refine ⟨?_, j1, j2, j3, j4, fun j hj => ?_, fun _ => ?_, fun h => by omega⟩
                · rw [hq]
                  unfold pabs
                  rw [sd_set (lens := lens1) (tens := tens1) hs1 (fun j hj => up_ne _ _ (by omega)) (fun _ _ => rfl), up_eq, lst_up]
                · by_cases h : j = s1 - 1
                  · rw [h, up_eq]; omega
                  · rw [up_ne _ _ h]; exact j5 j hj
                · rw [up_eq]; omega
              · 
                rw [kI_lt (by omega)] at c39
                refine sq_ok rfl [(.iconst 0, 0, 0, 0), (.ireturn, 0, 0, 0)] 42 _ _ _ _ _ (by decide +kernel) ?_
                show narrow .boolean (.int (kI 0)) = .int (kI 0) ∧ ((0 ≤ 0 ∧ 0 ≤ 0) ∧ Post (some (vI 0)) [ob 3 [.ref 1, .ref 2, .ref 3, vI (s1 : Int), vI (ah : Int), vZ ar, vI (q1 : Int)], cN 16 lens1, cN 16 tens1, cN 16 phr, ob 9 [vI (mo : Int), .ref 5, .ref 6, vI (d1 : Int)], cI mo nums, cK mo g1])
                refine ⟨(bI_fits false).1, ?_⟩
                refine ⟨⟨Nat.le_refl _, Nat.le_refl _⟩, hp _ _ ?_⟩
                rw [if_pos (by omega)] at hq
                exact ⟨lens1, tens1, s1, q1, g1, d1, false, rfl, rfl, hq⟩
          exact WM.pick [0, 1, 2] rfl (lp27 _ (va_up lens s 0) (va_up tens s 10) (s + 1) 2 g d ⟨⟨by omega, by omega, by omega, by omega, fun j hj => by (by_cases h : j = s; (rw [h, up_eq]; omega); (rw [up_ne _ _ h]; exact i5 j (by omega))), fun _ => by (simp only [Nat.add_sub_cancel, up_eq]; rcases Nat.eq_zero_or_pos s with h | h; (have := i7 h; omega); (have := i6 h; have := i5 (s - 1) (by omega); omega)), fun h => by omega⟩, by omega⟩ (by simp only [pWord, pOpen, lst_len]; rw [if_neg (show ¬ q = 4 by omega), if_neg (show ¬ q = 2 by omega), if_neg hb2]; simp only [Option.bind_some, pabs, sd_up]) (Nat.lt_succ_self _))
        · 
          exact absurd c22 (by decide)
  · 
    rw [kI_eq (by omega)] at c5
    refine sq_ok rfl [(.iconst 0, 0, 0, 0), (.ireturn, 0, 0, 0)] 8 _ _ _ _ _ (by decide +kernel) ?_
    show narrow .boolean (.int (kI 0)) = .int (kI 0) ∧ ((0 ≤ 0 ∧ 0 ≤ 0) ∧ Post (some (vI 0)) [ob 3 [.ref 1, .ref 2, .ref 3, vI (s : Int), vI (ah : Int), vZ ar, vI (q : Int)], cN 16 lens, cN 16 tens, cN 16 phr, ob 9 [vI (mo : Int), .ref 5, .ref 6, vI (d : Int)], cI mo nums, cK mo g])
    refine ⟨(bI_fits false).1, ?_⟩
    refine ⟨⟨Nat.le_refl _, Nat.le_refl _⟩, hp _ _ ?_⟩
    exact ⟨lens, tens, s, q, g, d, false, rfl, rfl, by simp [pWord, show q = 4 by omega]⟩
