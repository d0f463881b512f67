/-! Sets: members -/
theorem kI_ush6 {v : Nat} (hv : v < 4294967296) : ((kI (v : Int)).toUInt32 >>> ((kI 6).toUInt32 &&& Int32.toUInt32 31)).toInt32 = kI ((v / 64 : Nat) : Int) := by
  rw [kI_nat, kI_nat]
  exact pk_ushrN hv (kI 6) 6 (by decide)
theorem kI_and63 {v : Nat} (hv : v < 4294967296) : kI (v : Int) &&& kI 63 = kI ((v % 64 : Nat) : Int) := by
  rw [kI_nat, kI_nat]
  exact pk_andN hv (m := kI 63) 6 (by decide)
/-- whether set s has node v -/
def sB (me : Nat → Nat) (s v : Nat) : Bool := decide (me (7 * s + v / 64) / 2 ^ (v % 64) % 2 = 1)
def sPut (me : Nat → Nat) (s v : Nat) : Nat → Nat := va_up me (7 * s + v / 64) (me (7 * s + v / 64) ||| 2 ^ (v % 64))
def sClr (me : Nat → Nat) (s : Nat) : Nat → Nat := fun q => if 7 * s ≤ q ∧ q < 7 * s + 7 then 0 else me q
def afO (as_ aw at_ : Nat → Nat) (s : Nat) (x : Int) : Option Nat := (fnd (fun k => ((aw (as_ s + k) : Nat) : Int) == x) (as_ (s + 1) - as_ s)).map (fun k => at_ (as_ s + k))
def aft (as_ aw at_ : Nat → Nat) (s x : Nat) : Nat → Int
  | 0 => -2
  | n + 1 => if aw (as_ (s + 1) - (n + 1)) = x then (at_ (as_ (s + 1) - (n + 1)) : Int) else aft as_ aw at_ s x n

set_option maxRecDepth 100000 in
set_option maxHeartbeats 500000 in
theorem c_X5_init  : CT mX5_init 12 5749 [.ref 0] [ob 5 [vI 0, .null, .null, .null, .null, .null, .null, vI 0, vI 0, .null, .null, .null, .null, .null, .null]] (fun r w => r = none ∧ w = [ob 5 [vI 0, .ref 1, .ref 2, .ref 3, .ref 4, .ref 5, .ref 6, vI 0, vI 0, .ref 7, .ref 8, .ref 9, .ref 10, .ref 11, .ref 12], cK 300 (fun _ => 0), cN 300 (fun _ => 0), cK 300 (fun _ => 0), cN 301 (fun _ => 0), cN 512 (fun _ => 0), cN 512 (fun _ => 0), cK 2107 (fun _ => 0), cI 401 (fun _ => 0), cI 300 (fun _ => 0), cK 4 (fun _ => 0), cI 200 (fun _ => 0), cI 512 (fun _ => 0)]) := by
  refine CT.intro rfl (Nat.le_of_ble_eq_true rfl) ?_
  generalize hPost : (fun r w => r = none ∧ w = [ob 5 [vI 0, .ref 1, .ref 2, .ref 3, .ref 4, .ref 5, .ref 6, vI 0, vI 0, .ref 7, .ref 8, .ref 9, .ref 10, .ref 11, .ref 12], cK 300 (fun _ => 0), cN 300 (fun _ => 0), cK 300 (fun _ => 0), cN 301 (fun _ => 0), cN 512 (fun _ => 0), cN 512 (fun _ => 0), cK 2107 (fun _ => 0), cI 401 (fun _ => 0), cI 300 (fun _ => 0), cK 4 (fun _ => 0), cI 200 (fun _ => 0), cI 512 (fun _ => 0)] : MP) = Post
  have hPo : ∀ rr ww, (fun r w => r = none ∧ w = [ob 5 [vI 0, .ref 1, .ref 2, .ref 3, .ref 4, .ref 5, .ref 6, vI 0, vI 0, .ref 7, .ref 8, .ref 9, .ref 10, .ref 11, .ref 12], cK 300 (fun _ => 0), cN 300 (fun _ => 0), cK 300 (fun _ => 0), cN 301 (fun _ => 0), cN 512 (fun _ => 0), cN 512 (fun _ => 0), cK 2107 (fun _ => 0), cI 401 (fun _ => 0), cI 300 (fun _ => 0), cK 4 (fun _ => 0), cI 200 (fun _ => 0), cI 512 (fun _ => 0)] : MP) rr ww → Post rr ww := by rw [← hPost]; exact fun _ _ h => h
  clear hPost
  show WM mX5_init 12 5749 Post 1 0 [(0, .ref 0)] [] [ob 5 [vI 0, .null, .null, .null, .null, .null, .null, vI 0, vI 0, .null, .null, .null, .null, .null, .null]] 0 0
  refine sq_ok rfl [(.aload_n 0, 0, 0, 0)] 0 _ _ _ _ _ (by decide +kernel) ?_
  show WM mX5_init 12 5749 Post 1 1 [(0, .ref 0)] [.ref 0] [ob 5 [vI 0, .null, .null, .null, .null, .null, .null, vI 0, vI 0, .null, .null, .null, .null, .null, .null]] 0 0
  refine wm_obj (by decide +kernel) kX5_3 ⟨Nat.le_of_ble_eq_true rfl, Nat.le_of_ble_eq_true rfl⟩ ?_
  show WM mX5_init 12 5749 Post 1 4 [(0, .ref 0)] [] [ob 5 [vI 0, .null, .null, .null, .null, .null, .null, vI 0, vI 0, .null, .null, .null, .null, .null, .null]] 0 0
  refine sq_ok rfl [(.aload_n 0, 0, 0, 0), (.sipush 300, 0, 0, 0), (.newarray .long, 0, 0, 0), (.putfield 9, 5, 1, 0)] 4 _ _ _ _ _ (by decide +kernel) ?_
  show ∃ N8 : Nat, (kI 300 = kI (N8 : Int) ∧ N8 ≤ 1000000 ∧ 0 + 1 ≤ 12 ∧ 0 + N8 ≤ 5749) ∧ WM mX5_init 12 5749 Post 1 13 [(0, .ref 0)] [] [ob 5 [vI 0, .ref 1, .null, .null, .null, .null, .null, vI 0, vI 0, .null, .null, .null, .null, .null, .null], cJ N8 (fun _ => 0)] 1 (0 + N8)
  refine ⟨300, ⟨rfl, Nat.le_of_ble_eq_true rfl, Nat.le_of_ble_eq_true rfl, Nat.le_of_ble_eq_true rfl⟩, ?_⟩
  refine sq_ok rfl [(.aload_n 0, 0, 0, 0), (.sipush 300, 0, 0, 0), (.newarray .int, 0, 0, 0), (.putfield 15, 5, 2, 0)] 13 _ _ _ _ _ (by decide +kernel) ?_
  show ∃ N17 : Nat, (kI 300 = kI (N17 : Int) ∧ N17 ≤ 1000000 ∧ 1 + 1 ≤ 12 ∧ 0 + 300 + N17 ≤ 5749) ∧ WM mX5_init 12 5749 Post 1 22 [(0, .ref 0)] [] [ob 5 [vI 0, .ref 1, .ref 2, .null, .null, .null, .null, vI 0, vI 0, .null, .null, .null, .null, .null, .null], cJ 300 (fun _ => 0), cI N17 (fun _ => 0)] 2 (0 + 300 + N17)
  refine ⟨300, ⟨rfl, Nat.le_of_ble_eq_true rfl, Nat.le_of_ble_eq_true rfl, Nat.le_of_ble_eq_true rfl⟩, ?_⟩
  refine sq_ok rfl [(.aload_n 0, 0, 0, 0), (.sipush 300, 0, 0, 0), (.newarray .long, 0, 0, 0), (.putfield 19, 5, 3, 0)] 22 _ _ _ _ _ (by decide +kernel) ?_
  show ∃ N26 : Nat, (kI 300 = kI (N26 : Int) ∧ N26 ≤ 1000000 ∧ 2 + 1 ≤ 12 ∧ 0 + 300 + 300 + N26 ≤ 5749) ∧ WM mX5_init 12 5749 Post 1 31 [(0, .ref 0)] [] [ob 5 [vI 0, .ref 1, .ref 2, .ref 3, .null, .null, .null, vI 0, vI 0, .null, .null, .null, .null, .null, .null], cJ 300 (fun _ => 0), cI 300 (fun _ => 0), cJ N26 (fun _ => 0)] 3 (0 + 300 + 300 + N26)
  refine ⟨300, ⟨rfl, Nat.le_of_ble_eq_true rfl, Nat.le_of_ble_eq_true rfl, Nat.le_of_ble_eq_true rfl⟩, ?_⟩
  refine sq_ok rfl [(.aload_n 0, 0, 0, 0), (.sipush 301, 0, 0, 0), (.newarray .int, 0, 0, 0), (.putfield 22, 5, 4, 0)] 31 _ _ _ _ _ (by decide +kernel) ?_
  show ∃ N35 : Nat, (kI 301 = kI (N35 : Int) ∧ N35 ≤ 1000000 ∧ 3 + 1 ≤ 12 ∧ 0 + 300 + 300 + 300 + N35 ≤ 5749) ∧ WM mX5_init 12 5749 Post 1 40 [(0, .ref 0)] [] [ob 5 [vI 0, .ref 1, .ref 2, .ref 3, .ref 4, .null, .null, vI 0, vI 0, .null, .null, .null, .null, .null, .null], cJ 300 (fun _ => 0), cI 300 (fun _ => 0), cJ 300 (fun _ => 0), cI N35 (fun _ => 0)] 4 (0 + 300 + 300 + 300 + N35)
  refine ⟨301, ⟨rfl, Nat.le_of_ble_eq_true rfl, Nat.le_of_ble_eq_true rfl, Nat.le_of_ble_eq_true rfl⟩, ?_⟩
  refine sq_ok rfl [(.aload_n 0, 0, 0, 0), (.sipush 512, 0, 0, 0), (.newarray .int, 0, 0, 0), (.putfield 25, 5, 5, 0)] 40 _ _ _ _ _ (by decide +kernel) ?_
  show ∃ N44 : Nat, (kI 512 = kI (N44 : Int) ∧ N44 ≤ 1000000 ∧ 4 + 1 ≤ 12 ∧ 0 + 300 + 300 + 300 + 301 + N44 ≤ 5749) ∧ WM mX5_init 12 5749 Post 1 49 [(0, .ref 0)] [] [ob 5 [vI 0, .ref 1, .ref 2, .ref 3, .ref 4, .ref 5, .null, vI 0, vI 0, .null, .null, .null, .null, .null, .null], cJ 300 (fun _ => 0), cI 300 (fun _ => 0), cJ 300 (fun _ => 0), cI 301 (fun _ => 0), cI N44 (fun _ => 0)] 5 (0 + 300 + 300 + 300 + 301 + N44)
  refine ⟨512, ⟨rfl, Nat.le_of_ble_eq_true rfl, Nat.le_of_ble_eq_true rfl, Nat.le_of_ble_eq_true rfl⟩, ?_⟩
  refine sq_ok rfl [(.aload_n 0, 0, 0, 0), (.sipush 512, 0, 0, 0), (.newarray .int, 0, 0, 0), (.putfield 28, 5, 6, 0)] 49 _ _ _ _ _ (by decide +kernel) ?_
  show ∃ N53 : Nat, (kI 512 = kI (N53 : Int) ∧ N53 ≤ 1000000 ∧ 5 + 1 ≤ 12 ∧ 0 + 300 + 300 + 300 + 301 + 512 + N53 ≤ 5749) ∧ WM mX5_init 12 5749 Post 1 58 [(0, .ref 0)] [] [ob 5 [vI 0, .ref 1, .ref 2, .ref 3, .ref 4, .ref 5, .ref 6, vI 0, vI 0, .null, .null, .null, .null, .null, .null], cJ 300 (fun _ => 0), cI 300 (fun _ => 0), cJ 300 (fun _ => 0), cI 301 (fun _ => 0), cI 512 (fun _ => 0), cI N53 (fun _ => 0)] 6 (0 + 300 + 300 + 300 + 301 + 512 + N53)
  refine ⟨512, ⟨rfl, Nat.le_of_ble_eq_true rfl, Nat.le_of_ble_eq_true rfl, Nat.le_of_ble_eq_true rfl⟩, ?_⟩
  refine sq_ok rfl [(.aload_n 0, 0, 0, 0), (.sipush 2107, 0, 0, 0), (.newarray .long, 0, 0, 0), (.putfield 31, 5, 9, 0)] 58 _ _ _ _ _ (by decide +kernel) ?_
  show ∃ N62 : Nat, (kI 2107 = kI (N62 : Int) ∧ N62 ≤ 1000000 ∧ 6 + 1 ≤ 12 ∧ 0 + 300 + 300 + 300 + 301 + 512 + 512 + N62 ≤ 5749) ∧ WM mX5_init 12 5749 Post 1 67 [(0, .ref 0)] [] [ob 5 [vI 0, .ref 1, .ref 2, .ref 3, .ref 4, .ref 5, .ref 6, vI 0, vI 0, .ref 7, .null, .null, .null, .null, .null], cJ 300 (fun _ => 0), cI 300 (fun _ => 0), cJ 300 (fun _ => 0), cI 301 (fun _ => 0), cI 512 (fun _ => 0), cI 512 (fun _ => 0), cJ N62 (fun _ => 0)] 7 (0 + 300 + 300 + 300 + 301 + 512 + 512 + N62)
  refine ⟨2107, ⟨rfl, Nat.le_of_ble_eq_true rfl, Nat.le_of_ble_eq_true rfl, Nat.le_of_ble_eq_true rfl⟩, ?_⟩
  refine sq_ok rfl [(.aload_n 0, 0, 0, 0), (.sipush 401, 0, 0, 0), (.newarray .int, 0, 0, 0), (.putfield 34, 5, 10, 0)] 67 _ _ _ _ _ (by decide +kernel) ?_
  show ∃ N71 : Nat, (kI 401 = kI (N71 : Int) ∧ N71 ≤ 1000000 ∧ 7 + 1 ≤ 12 ∧ 0 + 300 + 300 + 300 + 301 + 512 + 512 + 2107 + N71 ≤ 5749) ∧ WM mX5_init 12 5749 Post 1 76 [(0, .ref 0)] [] [ob 5 [vI 0, .ref 1, .ref 2, .ref 3, .ref 4, .ref 5, .ref 6, vI 0, vI 0, .ref 7, .ref 8, .null, .null, .null, .null], cJ 300 (fun _ => 0), cI 300 (fun _ => 0), cJ 300 (fun _ => 0), cI 301 (fun _ => 0), cI 512 (fun _ => 0), cI 512 (fun _ => 0), cJ 2107 (fun _ => 0), cI N71 (fun _ => 0)] 8 (0 + 300 + 300 + 300 + 301 + 512 + 512 + 2107 + N71)
  refine ⟨401, ⟨rfl, Nat.le_of_ble_eq_true rfl, Nat.le_of_ble_eq_true rfl, Nat.le_of_ble_eq_true rfl⟩, ?_⟩
  refine sq_ok rfl [(.aload_n 0, 0, 0, 0), (.sipush 300, 0, 0, 0), (.newarray .int, 0, 0, 0), (.putfield 37, 5, 11, 0)] 76 _ _ _ _ _ (by decide +kernel) ?_
  show ∃ N80 : Nat, (kI 300 = kI (N80 : Int) ∧ N80 ≤ 1000000 ∧ 8 + 1 ≤ 12 ∧ 0 + 300 + 300 + 300 + 301 + 512 + 512 + 2107 + 401 + N80 ≤ 5749) ∧ WM mX5_init 12 5749 Post 1 85 [(0, .ref 0)] [] [ob 5 [vI 0, .ref 1, .ref 2, .ref 3, .ref 4, .ref 5, .ref 6, vI 0, vI 0, .ref 7, .ref 8, .ref 9, .null, .null, .null], cJ 300 (fun _ => 0), cI 300 (fun _ => 0), cJ 300 (fun _ => 0), cI 301 (fun _ => 0), cI 512 (fun _ => 0), cI 512 (fun _ => 0), cJ 2107 (fun _ => 0), cI 401 (fun _ => 0), cI N80 (fun _ => 0)] 9 (0 + 300 + 300 + 300 + 301 + 512 + 512 + 2107 + 401 + N80)
  refine ⟨300, ⟨rfl, Nat.le_of_ble_eq_true rfl, Nat.le_of_ble_eq_true rfl, Nat.le_of_ble_eq_true rfl⟩, ?_⟩
  refine sq_ok rfl [(.aload_n 0, 0, 0, 0), (.iconst 4, 0, 0, 0), (.newarray .long, 0, 0, 0), (.putfield 40, 5, 12, 0)] 85 _ _ _ _ _ (by decide +kernel) ?_
  show ∃ N87 : Nat, (kI 4 = kI (N87 : Int) ∧ N87 ≤ 1000000 ∧ 9 + 1 ≤ 12 ∧ 0 + 300 + 300 + 300 + 301 + 512 + 512 + 2107 + 401 + 300 + N87 ≤ 5749) ∧ WM mX5_init 12 5749 Post 1 92 [(0, .ref 0)] [] [ob 5 [vI 0, .ref 1, .ref 2, .ref 3, .ref 4, .ref 5, .ref 6, vI 0, vI 0, .ref 7, .ref 8, .ref 9, .ref 10, .null, .null], cJ 300 (fun _ => 0), cI 300 (fun _ => 0), cJ 300 (fun _ => 0), cI 301 (fun _ => 0), cI 512 (fun _ => 0), cI 512 (fun _ => 0), cJ 2107 (fun _ => 0), cI 401 (fun _ => 0), cI 300 (fun _ => 0), cJ N87 (fun _ => 0)] 10 (0 + 300 + 300 + 300 + 301 + 512 + 512 + 2107 + 401 + 300 + N87)
  refine ⟨4, ⟨rfl, Nat.le_of_ble_eq_true rfl, Nat.le_of_ble_eq_true rfl, Nat.le_of_ble_eq_true rfl⟩, ?_⟩
  refine sq_ok rfl [(.aload_n 0, 0, 0, 0), (.sipush 200, 0, 0, 0), (.newarray .int, 0, 0, 0), (.putfield 43, 5, 13, 0)] 92 _ _ _ _ _ (by decide +kernel) ?_
  show ∃ N96 : Nat, (kI 200 = kI (N96 : Int) ∧ N96 ≤ 1000000 ∧ 10 + 1 ≤ 12 ∧ 0 + 300 + 300 + 300 + 301 + 512 + 512 + 2107 + 401 + 300 + 4 + N96 ≤ 5749) ∧ WM mX5_init 12 5749 Post 1 101 [(0, .ref 0)] [] [ob 5 [vI 0, .ref 1, .ref 2, .ref 3, .ref 4, .ref 5, .ref 6, vI 0, vI 0, .ref 7, .ref 8, .ref 9, .ref 10, .ref 11, .null], cJ 300 (fun _ => 0), cI 300 (fun _ => 0), cJ 300 (fun _ => 0), cI 301 (fun _ => 0), cI 512 (fun _ => 0), cI 512 (fun _ => 0), cJ 2107 (fun _ => 0), cI 401 (fun _ => 0), cI 300 (fun _ => 0), cJ 4 (fun _ => 0), cI N96 (fun _ => 0)] 11 (0 + 300 + 300 + 300 + 301 + 512 + 512 + 2107 + 401 + 300 + 4 + N96)
  refine ⟨200, ⟨rfl, Nat.le_of_ble_eq_true rfl, Nat.le_of_ble_eq_true rfl, Nat.le_of_ble_eq_true rfl⟩, ?_⟩
  refine sq_ok rfl [(.aload_n 0, 0, 0, 0), (.sipush 512, 0, 0, 0), (.newarray .int, 0, 0, 0), (.putfield 46, 5, 14, 0)] 101 _ _ _ _ _ (by decide +kernel) ?_
  show ∃ N105 : Nat, (kI 512 = kI (N105 : Int) ∧ N105 ≤ 1000000 ∧ 11 + 1 ≤ 12 ∧ 0 + 300 + 300 + 300 + 301 + 512 + 512 + 2107 + 401 + 300 + 4 + 200 + N105 ≤ 5749) ∧ WM mX5_init 12 5749 Post 1 110 [(0, .ref 0)] [] [ob 5 [vI 0, .ref 1, .ref 2, .ref 3, .ref 4, .ref 5, .ref 6, vI 0, vI 0, .ref 7, .ref 8, .ref 9, .ref 10, .ref 11, .ref 12], cJ 300 (fun _ => 0), cI 300 (fun _ => 0), cJ 300 (fun _ => 0), cI 301 (fun _ => 0), cI 512 (fun _ => 0), cI 512 (fun _ => 0), cJ 2107 (fun _ => 0), cI 401 (fun _ => 0), cI 300 (fun _ => 0), cJ 4 (fun _ => 0), cI 200 (fun _ => 0), cI N105 (fun _ => 0)] 12 (0 + 300 + 300 + 300 + 301 + 512 + 512 + 2107 + 401 + 300 + 4 + 200 + N105)
  refine ⟨512, ⟨rfl, Nat.le_of_ble_eq_true rfl, Nat.le_of_ble_eq_true rfl, Nat.le_of_ble_eq_true rfl⟩, ?_⟩
  refine sq_ok rfl [(.return_, 0, 0, 0)] 110 _ _ _ _ _ (by decide +kernel) ?_
  show ((12 ≤ 12 ∧ 0 + 300 + 300 + 300 + 301 + 512 + 512 + 2107 + 401 + 300 + 4 + 200 + 512 ≤ 5749) ∧ Post none [ob 5 [vI 0, .ref 1, .ref 2, .ref 3, .ref 4, .ref 5, .ref 6, vI 0, vI 0, .ref 7, .ref 8, .ref 9, .ref 10, .ref 11, .ref 12], cJ 300 (fun _ => 0), cI 300 (fun _ => 0), cJ 300 (fun _ => 0), cI 301 (fun _ => 0), cI 512 (fun _ => 0), cI 512 (fun _ => 0), cJ 2107 (fun _ => 0), cI 401 (fun _ => 0), cI 300 (fun _ => 0), cJ 4 (fun _ => 0), cI 200 (fun _ => 0), cI 512 (fun _ => 0)])
  refine ⟨⟨Nat.le_refl _, (by omega)⟩, hPo _ _ ?_⟩
  exact ⟨rfl, rfl⟩

set_option maxRecDepth 100000 in
set_option maxHeartbeats 500000 in
theorem c_X5_has (cnt : Nat) (wy fa fw as_ aw at_ : Nat → Nat) (nA arcs ln : Nat) (me : Nat → Nat) (fb nb : Nat → Int) (wu : Nat → Nat) (fk nw : Nat → Int) (hme : ∀ j, me j < 18446744073709551616) (s v : Nat) (hs : s ≤ 300) (hv : v < 401) : CT mX5_has 0 0 [.ref 0, vI (s : Int), vI (v : Int)] [ob 5 [vI (cnt : Int), .ref 1, .ref 2, .ref 3, .ref 4, .ref 11, .ref 12, vI (arcs : Int), vI (ln : Int), .ref 5, .ref 6, .ref 7, .ref 8, .ref 9, .ref 10], cK 300 wy, cN 300 fa, cK 300 fw, cN 301 as_, cK 2107 me, cI 401 fb, cI 300 nb, cK 4 wu, cI 200 fk, cI 512 nw, cN nA aw, cN nA at_] (fun r w => r = some (vZ (sB me s v)) ∧ w = [ob 5 [vI (cnt : Int), .ref 1, .ref 2, .ref 3, .ref 4, .ref 11, .ref 12, vI (arcs : Int), vI (ln : Int), .ref 5, .ref 6, .ref 7, .ref 8, .ref 9, .ref 10], cK 300 wy, cN 300 fa, cK 300 fw, cN 301 as_, cK 2107 me, cI 401 fb, cI 300 nb, cK 4 wu, cI 200 fk, cI 512 nw, cN nA aw, cN nA at_]) := by
  refine CT.intro rfl (Nat.le_of_ble_eq_true rfl) ?_
  generalize hPost : (fun r w => r = some (vZ (sB me s v)) ∧ w = [ob 5 [vI (cnt : Int), .ref 1, .ref 2, .ref 3, .ref 4, .ref 11, .ref 12, vI (arcs : Int), vI (ln : Int), .ref 5, .ref 6, .ref 7, .ref 8, .ref 9, .ref 10], cK 300 wy, cN 300 fa, cK 300 fw, cN 301 as_, cK 2107 me, cI 401 fb, cI 300 nb, cK 4 wu, cI 200 fk, cI 512 nw, cN nA aw, cN nA at_] : MP) = Post
  have hPo : ∀ rr ww, (fun r w => r = some (vZ (sB me s v)) ∧ w = [ob 5 [vI (cnt : Int), .ref 1, .ref 2, .ref 3, .ref 4, .ref 11, .ref 12, vI (arcs : Int), vI (ln : Int), .ref 5, .ref 6, .ref 7, .ref 8, .ref 9, .ref 10], cK 300 wy, cN 300 fa, cK 300 fw, cN 301 as_, cK 2107 me, cI 401 fb, cI 300 nb, cK 4 wu, cI 200 fk, cI 512 nw, cN nA aw, cN nA at_] : MP) rr ww → Post rr ww := by rw [← hPost]; exact fun _ _ h => h
  clear hPost
  have hm0 := hme (7 * s + v / 64)
  have hdv : me (7 * s + v / 64) / 2 ^ (v % 64) < 18446744073709551616 := Nat.lt_of_le_of_lt (Nat.div_le_self _ _) hm0
  have hmd := Nat.mod_lt (me (7 * s + v / 64) / 2 ^ (v % 64)) (show 0 < 2 by omega)
  show WM mX5_has 0 0 Post 13 0 [(0, .ref 0), (1, vI (s : Int)), (2, vI (v : Int))] [] [ob 5 [vI (cnt : Int), .ref 1, .ref 2, .ref 3, .ref 4, .ref 11, .ref 12, vI (arcs : Int), vI (ln : Int), .ref 5, .ref 6, .ref 7, .ref 8, .ref 9, .ref 10], cK 300 wy, cN 300 fa, cK 300 fw, cN 301 as_, cK 2107 me, cI 401 fb, cI 300 nb, cK 4 wu, cI 200 fk, cI 512 nw, cN nA aw, cN nA at_] 0 0
  refine sq_ok rfl [(.aload_n 0, 0, 0, 0), (.getfield 31, 5, 9, 0), (.iload_n 1, 0, 0, 0), (.bipush 7, 0, 0, 0), (.imul, 0, 0, 0), (.iload_n 2, 0, 0, 0), (.bipush 6, 0, 0, 0), (.iushr, 0, 0, 0)] 0 _ _ _ _ _ (by decide +kernel) ?_
  show WM mX5_has 0 0 Post 13 12 [(0, .ref 0), (1, vI (s : Int)), (2, vI (v : Int))] [.int (((kI (v : Int)).toUInt32 >>> ((kI 6).toUInt32 &&& Int32.toUInt32 31)).toInt32), .int ((kI (s : Int)) * (kI 7)), .ref 5] [ob 5 [vI (cnt : Int), .ref 1, .ref 2, .ref 3, .ref 4, .ref 11, .ref 12, vI (arcs : Int), vI (ln : Int), .ref 5, .ref 6, .ref 7, .ref 8, .ref 9, .ref 10], cK 300 wy, cN 300 fa, cK 300 fw, cN 301 as_, cK 2107 me, cI 401 fb, cI 300 nb, cK 4 wu, cI 200 fk, cI 512 nw, cN nA aw, cN nA at_] 0 0
  have e1 : ((kI (v : Int)).toUInt32 >>> ((kI 6).toUInt32 &&& Int32.toUInt32 31)).toInt32 = kI (((v / 64) : Nat) : Int) := by exact kI_ush6 (by omega)
  rw [e1]
  have e2 : ((kI (s : Int)) * (kI 7)) = kI (((s * 7) : Nat) : Int) := by first | (simp only [kI_add, kI_sub, kI_mul]; done) | (simp only [kI_add, kI_sub, kI_mul]; rfl)
  rw [e2]
  refine sq_ok rfl [(.iadd, 0, 0, 0), (.laload, 0, 0, 0), (.iload_n 2, 0, 0, 0), (.bipush 63, 0, 0, 0), (.iand, 0, 0, 0)] 12 _ _ _ _ _ (by decide +kernel) ?_
  show ∃ j13 : Nat, mj 2107 ((kI (((s * 7) : Nat) : Int)) + (kI (((v / 64) : Nat) : Int))) j13 ∧ WM mX5_has 0 0 Post 13 18 [(0, .ref 0), (1, vI (s : Int)), (2, vI (v : Int))] [.int ((kI (v : Int)) &&& (kI 63)), vJ ((me j13 : Nat) : Int)] [ob 5 [vI (cnt : Int), .ref 1, .ref 2, .ref 3, .ref 4, .ref 11, .ref 12, vI (arcs : Int), vI (ln : Int), .ref 5, .ref 6, .ref 7, .ref 8, .ref 9, .ref 10], cK 300 wy, cN 300 fa, cK 300 fw, cN 301 as_, cK 2107 me, cI 401 fb, cI 300 nb, cK 4 wu, cI 200 fk, cI 512 nw, cN nA aw, cN nA at_] 0 0
  refine ⟨(7 * s + v / 64), ⟨by omega, by omega, by rw [kI_add]; congr 1; omega⟩, ?_⟩
  have e3 : ((kI (v : Int)) &&& (kI 63)) = kI (((v % 64) : Nat) : Int) := by exact kI_and63 (by omega)
  rw [e3]
  refine sq_ok rfl [(.lushr, 0, 0, 0)] 18 _ _ _ _ _ (by decide +kernel) ?_
  show WM mX5_has 0 0 Post 13 19 [(0, .ref 0), (1, vI (s : Int)), (2, vI (v : Int))] [.long (((kL ((me (7 * s + v / 64) : Nat) : Int)).toUInt64 >>> ((kI (((v % 64) : Nat) : Int)).toInt64.toUInt64 &&& Int64.toUInt64 63)).toInt64)] [ob 5 [vI (cnt : Int), .ref 1, .ref 2, .ref 3, .ref 4, .ref 11, .ref 12, vI (arcs : Int), vI (ln : Int), .ref 5, .ref 6, .ref 7, .ref 8, .ref 9, .ref 10], cK 300 wy, cN 300 fa, cK 300 fw, cN 301 as_, cK 2107 me, cI 401 fb, cI 300 nb, cK 4 wu, cI 200 fk, cI 512 nw, cN nA aw, cN nA at_] 0 0
  have e4 : ((kL ((me (7 * s + v / 64) : Nat) : Int)).toUInt64 >>> ((kI (((v % 64) : Nat) : Int)).toInt64.toUInt64 &&& Int64.toUInt64 63)).toInt64 = kL (((me (7 * s + v / 64) / 2 ^ (v % 64)) : Nat) : Int) := by exact kL_ush hm0 (by omega)
  rw [e4]
  refine sq_ok rfl [(.lconst 1, 0, 0, 0), (.land, 0, 0, 0)] 19 _ _ _ _ _ (by decide +kernel) ?_
  show WM mX5_has 0 0 Post 13 21 [(0, .ref 0), (1, vI (s : Int)), (2, vI (v : Int))] [.long ((kL (((me (7 * s + v / 64) / 2 ^ (v % 64)) : Nat) : Int)) &&& (kL 1))] [ob 5 [vI (cnt : Int), .ref 1, .ref 2, .ref 3, .ref 4, .ref 11, .ref 12, vI (arcs : Int), vI (ln : Int), .ref 5, .ref 6, .ref 7, .ref 8, .ref 9, .ref 10], cK 300 wy, cN 300 fa, cK 300 fw, cN 301 as_, cK 2107 me, cI 401 fb, cI 300 nb, cK 4 wu, cI 200 fk, cI 512 nw, cN nA aw, cN nA at_] 0 0
  have e5 : ((kL (((me (7 * s + v / 64) / 2 ^ (v % 64)) : Nat) : Int)) &&& (kL 1)) = kL (((me (7 * s + v / 64) / 2 ^ (v % 64) % 2) : Nat) : Int) := by exact kL_and1 hdv
  rw [e5]
  refine sq_ok rfl [(.lconst 0, 0, 0, 0), (.lcmp, 0, 0, 0), (.ifCond .eq 7, 0, 0, 0)] 21 _ _ _ _ _ (by decide +kernel) ?_
  show ((lg_cmp (kL (((me (7 * s + v / 64) / 2 ^ (v % 64) % 2) : Nat) : Int)) (kL 0)) = kI 0 → WM mX5_has 0 0 Post 13 30 [(0, .ref 0), (1, vI (s : Int)), (2, vI (v : Int))] [] [ob 5 [vI (cnt : Int), .ref 1, .ref 2, .ref 3, .ref 4, .ref 11, .ref 12, vI (arcs : Int), vI (ln : Int), .ref 5, .ref 6, .ref 7, .ref 8, .ref 9, .ref 10], cK 300 wy, cN 300 fa, cK 300 fw, cN 301 as_, cK 2107 me, cI 401 fb, cI 300 nb, cK 4 wu, cI 200 fk, cI 512 nw, cN nA aw, cN nA at_] 0 0) ∧ (¬ (lg_cmp (kL (((me (7 * s + v / 64) / 2 ^ (v % 64) % 2) : Nat) : Int)) (kL 0)) = kI 0 → WM mX5_has 0 0 Post 13 26 [(0, .ref 0), (1, vI (s : Int)), (2, vI (v : Int))] [] [ob 5 [vI (cnt : Int), .ref 1, .ref 2, .ref 3, .ref 4, .ref 11, .ref 12, vI (arcs : Int), vI (ln : Int), .ref 5, .ref 6, .ref 7, .ref 8, .ref 9, .ref 10], cK 300 wy, cN 300 fa, cK 300 fw, cN 301 as_, cK 2107 me, cI 401 fb, cI 300 nb, cK 4 wu, cI 200 fk, cI 512 nw, cN nA aw, cN nA at_] 0 0)
  refine ⟨fun c23 => ?_, fun c23 => ?_⟩
  · 
    rw [lc_eq, kL_eq (by omega)] at c23
    refine sq_ok rfl [(.iconst 0, 0, 0, 0), (.ireturn, 0, 0, 0)] 30 _ _ _ _ _ (by decide +kernel) ?_
    show narrow .boolean (.int (kI 0)) = .int (kI 0) ∧ ((0 ≤ 0 ∧ 0 ≤ 0) ∧ Post (some (vI 0)) [ob 5 [vI (cnt : Int), .ref 1, .ref 2, .ref 3, .ref 4, .ref 11, .ref 12, vI (arcs : Int), vI (ln : Int), .ref 5, .ref 6, .ref 7, .ref 8, .ref 9, .ref 10], cK 300 wy, cN 300 fa, cK 300 fw, cN 301 as_, cK 2107 me, cI 401 fb, cI 300 nb, cK 4 wu, cI 200 fk, cI 512 nw, cN nA aw, cN nA at_])
    refine ⟨(bI_fits false).1, ?_⟩
    refine ⟨⟨Nat.le_refl _, Nat.le_refl _⟩, hPo _ _ ?_⟩
    first
    | exact ⟨by rw [show sB me s v = true from decide_eq_true (by omega)]; rfl, rfl⟩
    | exact ⟨by rw [show sB me s v = false from decide_eq_false (by omega)]; rfl, rfl⟩
  · 
    rw [lc_eq, kL_eq (by omega)] at c23
    refine sq_ok rfl [(.iconst 1, 0, 0, 0), (.goto 4, 0, 0, 0)] 26 _ _ _ _ _ (by decide +kernel) ?_
    show WM mX5_has 0 0 Post 13 31 [(0, .ref 0), (1, vI (s : Int)), (2, vI (v : Int))] [vI 1] [ob 5 [vI (cnt : Int), .ref 1, .ref 2, .ref 3, .ref 4, .ref 11, .ref 12, vI (arcs : Int), vI (ln : Int), .ref 5, .ref 6, .ref 7, .ref 8, .ref 9, .ref 10], cK 300 wy, cN 300 fa, cK 300 fw, cN 301 as_, cK 2107 me, cI 401 fb, cI 300 nb, cK 4 wu, cI 200 fk, cI 512 nw, cN nA aw, cN nA at_] 0 0
    refine sq_ok rfl [(.ireturn, 0, 0, 0)] 31 _ _ _ _ _ (by decide +kernel) ?_
    show narrow .boolean (.int (kI 1)) = .int (kI 1) ∧ ((0 ≤ 0 ∧ 0 ≤ 0) ∧ Post (some (vI 1)) [ob 5 [vI (cnt : Int), .ref 1, .ref 2, .ref 3, .ref 4, .ref 11, .ref 12, vI (arcs : Int), vI (ln : Int), .ref 5, .ref 6, .ref 7, .ref 8, .ref 9, .ref 10], cK 300 wy, cN 300 fa, cK 300 fw, cN 301 as_, cK 2107 me, cI 401 fb, cI 300 nb, cK 4 wu, cI 200 fk, cI 512 nw, cN nA aw, cN nA at_])
    refine ⟨(bI_fits true).1, ?_⟩
    refine ⟨⟨Nat.le_refl _, Nat.le_refl _⟩, hPo _ _ ?_⟩
    first
    | exact ⟨by rw [show sB me s v = true from decide_eq_true (by omega)]; rfl, rfl⟩
    | exact ⟨by rw [show sB me s v = false from decide_eq_false (by omega)]; rfl, rfl⟩

set_option maxRecDepth 100000 in
set_option maxHeartbeats 500000 in
theorem c_X5_put (cnt : Nat) (wy fa fw as_ aw at_ : Nat → Nat) (nA arcs ln : Nat) (me : Nat → Nat) (fb nb : Nat → Int) (wu : Nat → Nat) (fk nw : Nat → Int) (hme : ∀ j, me j < 18446744073709551616) (hc : cnt ≤ 300) (v : Nat) (hv : v < 401) : CT mX5_put 0 0 [.ref 0, vI (v : Int)] [ob 5 [vI (cnt : Int), .ref 1, .ref 2, .ref 3, .ref 4, .ref 11, .ref 12, vI (arcs : Int), vI (ln : Int), .ref 5, .ref 6, .ref 7, .ref 8, .ref 9, .ref 10], cK 300 wy, cN 300 fa, cK 300 fw, cN 301 as_, cK 2107 me, cI 401 fb, cI 300 nb, cK 4 wu, cI 200 fk, cI 512 nw, cN nA aw, cN nA at_] (fun r w => r = none ∧ w = [ob 5 [vI (cnt : Int), .ref 1, .ref 2, .ref 3, .ref 4, .ref 11, .ref 12, vI (arcs : Int), vI (ln : Int), .ref 5, .ref 6, .ref 7, .ref 8, .ref 9, .ref 10], cK 300 wy, cN 300 fa, cK 300 fw, cN 301 as_, cK 2107 (sPut me cnt v), cI 401 fb, cI 300 nb, cK 4 wu, cI 200 fk, cI 512 nw, cN nA aw, cN nA at_]) := by
  refine CT.intro rfl (Nat.le_of_ble_eq_true rfl) ?_
  generalize hPost : (fun r w => r = none ∧ w = [ob 5 [vI (cnt : Int), .ref 1, .ref 2, .ref 3, .ref 4, .ref 11, .ref 12, vI (arcs : Int), vI (ln : Int), .ref 5, .ref 6, .ref 7, .ref 8, .ref 9, .ref 10], cK 300 wy, cN 300 fa, cK 300 fw, cN 301 as_, cK 2107 (sPut me cnt v), cI 401 fb, cI 300 nb, cK 4 wu, cI 200 fk, cI 512 nw, cN nA aw, cN nA at_] : MP) = Post
  have hPo : ∀ rr ww, (fun r w => r = none ∧ w = [ob 5 [vI (cnt : Int), .ref 1, .ref 2, .ref 3, .ref 4, .ref 11, .ref 12, vI (arcs : Int), vI (ln : Int), .ref 5, .ref 6, .ref 7, .ref 8, .ref 9, .ref 10], cK 300 wy, cN 300 fa, cK 300 fw, cN 301 as_, cK 2107 (sPut me cnt v), cI 401 fb, cI 300 nb, cK 4 wu, cI 200 fk, cI 512 nw, cN nA aw, cN nA at_] : MP) rr ww → Post rr ww := by rw [← hPost]; exact fun _ _ h => h
  clear hPost
  have hm0 := hme (7 * cnt + v / 64)
  have hp0 : 2 ^ (v % 64) < 18446744073709551616 := Nat.lt_of_lt_of_le (Nat.pow_lt_pow_right (by omega) (show v % 64 < 64 by omega)) (by decide)
  show WM mX5_put 0 0 Post 13 0 [(0, .ref 0), (1, vI (v : Int))] [] [ob 5 [vI (cnt : Int), .ref 1, .ref 2, .ref 3, .ref 4, .ref 11, .ref 12, vI (arcs : Int), vI (ln : Int), .ref 5, .ref 6, .ref 7, .ref 8, .ref 9, .ref 10], cK 300 wy, cN 300 fa, cK 300 fw, cN 301 as_, cK 2107 me, cI 401 fb, cI 300 nb, cK 4 wu, cI 200 fk, cI 512 nw, cN nA aw, cN nA at_] 0 0
  refine sq_ok rfl [(.aload_n 0, 0, 0, 0), (.getfield 31, 5, 9, 0), (.aload_n 0, 0, 0, 0), (.getfield 49, 5, 0, 0), (.bipush 7, 0, 0, 0), (.imul, 0, 0, 0), (.iload_n 1, 0, 0, 0), (.bipush 6, 0, 0, 0), (.iushr, 0, 0, 0)] 0 _ _ _ _ _ (by decide +kernel) ?_
  show WM mX5_put 0 0 Post 13 15 [(0, .ref 0), (1, vI (v : Int))] [.int (((kI (v : Int)).toUInt32 >>> ((kI 6).toUInt32 &&& Int32.toUInt32 31)).toInt32), .int ((kI (cnt : Int)) * (kI 7)), .ref 5] [ob 5 [vI (cnt : Int), .ref 1, .ref 2, .ref 3, .ref 4, .ref 11, .ref 12, vI (arcs : Int), vI (ln : Int), .ref 5, .ref 6, .ref 7, .ref 8, .ref 9, .ref 10], cK 300 wy, cN 300 fa, cK 300 fw, cN 301 as_, cK 2107 me, cI 401 fb, cI 300 nb, cK 4 wu, cI 200 fk, cI 512 nw, cN nA aw, cN nA at_] 0 0
  have e1 : ((kI (v : Int)).toUInt32 >>> ((kI 6).toUInt32 &&& Int32.toUInt32 31)).toInt32 = kI (((v / 64) : Nat) : Int) := by exact kI_ush6 (by omega)
  rw [e1]
  have e2 : ((kI (cnt : Int)) * (kI 7)) = kI (((cnt * 7) : Nat) : Int) := by first | (simp only [kI_add, kI_sub, kI_mul]; done) | (simp only [kI_add, kI_sub, kI_mul]; rfl)
  rw [e2]
  refine sq_ok rfl [(.iadd, 0, 0, 0)] 15 _ _ _ _ _ (by decide +kernel) ?_
  show WM mX5_put 0 0 Post 13 16 [(0, .ref 0), (1, vI (v : Int))] [.int ((kI (((cnt * 7) : Nat) : Int)) + (kI (((v / 64) : Nat) : Int))), .ref 5] [ob 5 [vI (cnt : Int), .ref 1, .ref 2, .ref 3, .ref 4, .ref 11, .ref 12, vI (arcs : Int), vI (ln : Int), .ref 5, .ref 6, .ref 7, .ref 8, .ref 9, .ref 10], cK 300 wy, cN 300 fa, cK 300 fw, cN 301 as_, cK 2107 me, cI 401 fb, cI 300 nb, cK 4 wu, cI 200 fk, cI 512 nw, cN nA aw, cN nA at_] 0 0
  have e3 : ((kI (((cnt * 7) : Nat) : Int)) + (kI (((v / 64) : Nat) : Int))) = kI (((7 * cnt + v / 64) : Nat) : Int) := by rw [kI_add]; congr 1; omega
  rw [e3]
  refine sq_ok rfl [(.dup2, 0, 0, 0), (.laload, 0, 0, 0), (.lconst 1, 0, 0, 0), (.iload_n 1, 0, 0, 0), (.bipush 63, 0, 0, 0), (.iand, 0, 0, 0)] 16 _ _ _ _ _ (by decide +kernel) ?_
  show ∃ j17 : Nat, mj 2107 (kI (((7 * cnt + v / 64) : Nat) : Int)) j17 ∧ WM mX5_put 0 0 Post 13 23 [(0, .ref 0), (1, vI (v : Int))] [.int ((kI (v : Int)) &&& (kI 63)), vJ 1, vJ ((me j17 : Nat) : Int), vI (((7 * cnt + v / 64) : Nat) : Int), .ref 5] [ob 5 [vI (cnt : Int), .ref 1, .ref 2, .ref 3, .ref 4, .ref 11, .ref 12, vI (arcs : Int), vI (ln : Int), .ref 5, .ref 6, .ref 7, .ref 8, .ref 9, .ref 10], cK 300 wy, cN 300 fa, cK 300 fw, cN 301 as_, cK 2107 me, cI 401 fb, cI 300 nb, cK 4 wu, cI 200 fk, cI 512 nw, cN nA aw, cN nA at_] 0 0
  refine ⟨(7 * cnt + v / 64), ⟨by omega, by omega, rfl⟩, ?_⟩
  have e4 : ((kI (v : Int)) &&& (kI 63)) = kI (((v % 64) : Nat) : Int) := by exact kI_and63 (by omega)
  rw [e4]
  refine sq_ok rfl [(.lshl, 0, 0, 0)] 23 _ _ _ _ _ (by decide +kernel) ?_
  show WM mX5_put 0 0 Post 13 24 [(0, .ref 0), (1, vI (v : Int))] [.long ((kL 1) <<< ((kI (((v % 64) : Nat) : Int)).toInt64 &&& 63)), vJ ((me (7 * cnt + v / 64) : Nat) : Int), vI (((7 * cnt + v / 64) : Nat) : Int), .ref 5] [ob 5 [vI (cnt : Int), .ref 1, .ref 2, .ref 3, .ref 4, .ref 11, .ref 12, vI (arcs : Int), vI (ln : Int), .ref 5, .ref 6, .ref 7, .ref 8, .ref 9, .ref 10], cK 300 wy, cN 300 fa, cK 300 fw, cN 301 as_, cK 2107 me, cI 401 fb, cI 300 nb, cK 4 wu, cI 200 fk, cI 512 nw, cN nA aw, cN nA at_] 0 0
  have e5 : ((kL 1) <<< ((kI (((v % 64) : Nat) : Int)).toInt64 &&& 63)) = kL (((2 ^ (v % 64)) : Nat) : Int) := by exact kL_shl1 (by omega)
  rw [e5]
  refine sq_ok rfl [(.lor, 0, 0, 0)] 24 _ _ _ _ _ (by decide +kernel) ?_
  show WM mX5_put 0 0 Post 13 25 [(0, .ref 0), (1, vI (v : Int))] [.long ((kL ((me (7 * cnt + v / 64) : Nat) : Int)) ||| (kL (((2 ^ (v % 64)) : Nat) : Int))), vI (((7 * cnt + v / 64) : Nat) : Int), .ref 5] [ob 5 [vI (cnt : Int), .ref 1, .ref 2, .ref 3, .ref 4, .ref 11, .ref 12, vI (arcs : Int), vI (ln : Int), .ref 5, .ref 6, .ref 7, .ref 8, .ref 9, .ref 10], cK 300 wy, cN 300 fa, cK 300 fw, cN 301 as_, cK 2107 me, cI 401 fb, cI 300 nb, cK 4 wu, cI 200 fk, cI 512 nw, cN nA aw, cN nA at_] 0 0
  have e6 : ((kL ((me (7 * cnt + v / 64) : Nat) : Int)) ||| (kL (((2 ^ (v % 64)) : Nat) : Int))) = kL (((me (7 * cnt + v / 64) ||| 2 ^ (v % 64)) : Nat) : Int) := by exact kL_or hm0 hp0
  rw [e6]
  refine sq_ok rfl [(.lastore, 0, 0, 0)] 25 _ _ _ _ _ (by decide +kernel) ?_
  show ∃ (j25 : Nat) (g25 : Nat → Int64), (mj 2107 (kI (((7 * cnt + v / 64) : Nat) : Int)) j25 ∧ g25 = vp_updL (fun q => kL ((me q : Nat) : Int)) j25 (kL (((me (7 * cnt + v / 64) ||| 2 ^ (v % 64)) : Nat) : Int))) ∧ WM mX5_put 0 0 Post 13 26 [(0, .ref 0), (1, vI (v : Int))] [] [ob 5 [vI (cnt : Int), .ref 1, .ref 2, .ref 3, .ref 4, .ref 11, .ref 12, vI (arcs : Int), vI (ln : Int), .ref 5, .ref 6, .ref 7, .ref 8, .ref 9, .ref 10], cK 300 wy, cN 300 fa, cK 300 fw, cN 301 as_, .inl (1, 2107, .inr (.inl g25)), cI 401 fb, cI 300 nb, cK 4 wu, cI 200 fk, cI 512 nw, cN nA aw, cN nA at_] 0 0
  refine ⟨(7 * cnt + v / 64), fun q => kL (((va_up me (7 * cnt + v / 64) (me (7 * cnt + v / 64) ||| 2 ^ (v % 64))) q : Nat) : Int), ⟨⟨by omega, by omega, rfl⟩, st_K (rfl)⟩, ?_⟩
  refine sq_ok rfl [(.return_, 0, 0, 0)] 26 _ _ _ _ _ (by decide +kernel) ?_
  show ((0 ≤ 0 ∧ 0 ≤ 0) ∧ Post none [ob 5 [vI (cnt : Int), .ref 1, .ref 2, .ref 3, .ref 4, .ref 11, .ref 12, vI (arcs : Int), vI (ln : Int), .ref 5, .ref 6, .ref 7, .ref 8, .ref 9, .ref 10], cK 300 wy, cN 300 fa, cK 300 fw, cN 301 as_, cK 2107 (va_up me (7 * cnt + v / 64) (me (7 * cnt + v / 64) ||| 2 ^ (v % 64))), cI 401 fb, cI 300 nb, cK 4 wu, cI 200 fk, cI 512 nw, cN nA aw, cN nA at_])
  refine ⟨⟨Nat.le_refl _, Nat.le_refl _⟩, hPo _ _ ?_⟩
  exact ⟨rfl, rfl⟩

set_option maxRecDepth 100000 in
set_option maxHeartbeats 500000 in
theorem c_X5_clearMade (cnt : Nat) (wy fa fw as_ aw at_ : Nat → Nat) (nA arcs ln : Nat) (me : Nat → Nat) (fb nb : Nat → Int) (wu : Nat → Nat) (fk nw : Nat → Int) (hc : cnt ≤ 300) : CT mX5_clearMade 0 0 [.ref 0] [ob 5 [vI (cnt : Int), .ref 1, .ref 2, .ref 3, .ref 4, .ref 11, .ref 12, vI (arcs : Int), vI (ln : Int), .ref 5, .ref 6, .ref 7, .ref 8, .ref 9, .ref 10], cK 300 wy, cN 300 fa, cK 300 fw, cN 301 as_, cK 2107 me, cI 401 fb, cI 300 nb, cK 4 wu, cI 200 fk, cI 512 nw, cN nA aw, cN nA at_] (fun r w => r = none ∧ w = [ob 5 [vI (cnt : Int), .ref 1, .ref 2, .ref 3, .ref 4, .ref 11, .ref 12, vI (arcs : Int), vI (ln : Int), .ref 5, .ref 6, .ref 7, .ref 8, .ref 9, .ref 10], cK 300 wy, cN 300 fa, cK 300 fw, cN 301 as_, cK 2107 (sClr me cnt), cI 401 fb, cI 300 nb, cK 4 wu, cI 200 fk, cI 512 nw, cN nA aw, cN nA at_]) := by
  refine CT.intro rfl (Nat.le_of_ble_eq_true rfl) ?_
  generalize hPost : (fun r w => r = none ∧ w = [ob 5 [vI (cnt : Int), .ref 1, .ref 2, .ref 3, .ref 4, .ref 11, .ref 12, vI (arcs : Int), vI (ln : Int), .ref 5, .ref 6, .ref 7, .ref 8, .ref 9, .ref 10], cK 300 wy, cN 300 fa, cK 300 fw, cN 301 as_, cK 2107 (sClr me cnt), cI 401 fb, cI 300 nb, cK 4 wu, cI 200 fk, cI 512 nw, cN nA aw, cN nA at_] : MP) = Post
  have hPo : ∀ rr ww, (fun r w => r = none ∧ w = [ob 5 [vI (cnt : Int), .ref 1, .ref 2, .ref 3, .ref 4, .ref 11, .ref 12, vI (arcs : Int), vI (ln : Int), .ref 5, .ref 6, .ref 7, .ref 8, .ref 9, .ref 10], cK 300 wy, cN 300 fa, cK 300 fw, cN 301 as_, cK 2107 (sClr me cnt), cI 401 fb, cI 300 nb, cK 4 wu, cI 200 fk, cI 512 nw, cN nA aw, cN nA at_] : MP) rr ww → Post rr ww := by rw [← hPost]; exact fun _ _ h => h
  clear hPost
  show WM mX5_clearMade 0 0 Post 13 0 [(0, .ref 0)] [] [ob 5 [vI (cnt : Int), .ref 1, .ref 2, .ref 3, .ref 4, .ref 11, .ref 12, vI (arcs : Int), vI (ln : Int), .ref 5, .ref 6, .ref 7, .ref 8, .ref 9, .ref 10], cK 300 wy, cN 300 fa, cK 300 fw, cN 301 as_, cK 2107 me, cI 401 fb, cI 300 nb, cK 4 wu, cI 200 fk, cI 512 nw, cN nA aw, cN nA at_] 0 0
  refine sq_ok rfl [(.aload_n 0, 0, 0, 0), (.getfield 49, 5, 0, 0), (.bipush 7, 0, 0, 0), (.imul, 0, 0, 0)] 0 _ _ _ _ _ (by decide +kernel) ?_
  show WM mX5_clearMade 0 0 Post 13 7 [(0, .ref 0)] [.int ((kI (cnt : Int)) * (kI 7))] [ob 5 [vI (cnt : Int), .ref 1, .ref 2, .ref 3, .ref 4, .ref 11, .ref 12, vI (arcs : Int), vI (ln : Int), .ref 5, .ref 6, .ref 7, .ref 8, .ref 9, .ref 10], cK 300 wy, cN 300 fa, cK 300 fw, cN 301 as_, cK 2107 me, cI 401 fb, cI 300 nb, cK 4 wu, cI 200 fk, cI 512 nw, cN nA aw, cN nA at_] 0 0
  have e1 : ((kI (cnt : Int)) * (kI 7)) = kI (((7 * cnt) : Nat) : Int) := by rw [kI_mul]; congr 1; omega
  rw [e1]
  refine sq_ok rfl [(.istore_n 1, 0, 0, 0), (.aload_n 0, 0, 0, 0), (.getfield 31, 5, 9, 0), (.iload_n 1, 0, 0, 0), (.iload_n 1, 0, 0, 0), (.bipush 7, 0, 0, 0), (.iadd, 0, 0, 0), (.lconst 0, 0, 0, 0)] 7 _ _ _ _ _ (by decide +kernel) ?_
  show WM mX5_clearMade 0 0 Post 13 18 [(0, .ref 0), (1, vI (((7 * cnt) : Nat) : Int))] [vJ 0, .int ((kI (((7 * cnt) : Nat) : Int)) + (kI 7)), vI (((7 * cnt) : Nat) : Int), .ref 5] [ob 5 [vI (cnt : Int), .ref 1, .ref 2, .ref 3, .ref 4, .ref 11, .ref 12, vI (arcs : Int), vI (ln : Int), .ref 5, .ref 6, .ref 7, .ref 8, .ref 9, .ref 10], cK 300 wy, cN 300 fa, cK 300 fw, cN 301 as_, cK 2107 me, cI 401 fb, cI 300 nb, cK 4 wu, cI 200 fk, cI 512 nw, cN nA aw, cN nA at_] 0 0
  have e2 : ((kI (((7 * cnt) : Nat) : Int)) + (kI 7)) = kI ((((7 * cnt) + 7) : Nat) : Int) := by first | (simp only [kI_add, kI_sub, kI_mul]; done) | (simp only [kI_add, kI_sub, kI_mul]; rfl)
  rw [e2]
  refine wm_callS (y := mX5_clearMade) mJ7_fill_bad5a [5] (pc := 18) (rest := []) (mc' := 0) (ms' := 0) (by decide +kernel) kX5_136 (c_fillJr 2107 (7 * cnt) (7 * cnt + 7) (by omega) (by omega) (by omega) (fun q => ((me q : Nat) : Int)) 0) rfl ⟨Nat.le_of_ble_eq_true rfl, Nat.le_of_ble_eq_true rfl⟩ ⟨Nat.le_of_ble_eq_true rfl, Nat.le_of_ble_eq_true rfl⟩ (Nat.le_of_ble_eq_true rfl) rfl rfl (Nat.le_of_ble_eq_true rfl) rfl ?_
  rintro _ _ ⟨rfl, rfl⟩
  have ef : (fun q => if 7 * cnt ≤ q ∧ q < 7 * cnt + 7 then (0 : Int) else (fun q => ((me q : Nat) : Int)) q) = fun q => ((sClr me cnt q : Nat) : Int) := by funext q; unfold sClr; dsimp only; split <;> rfl
  rw [ef]
  show WM mX5_clearMade 0 0 Post 13 21 [(0, .ref 0), (1, vI (((7 * cnt) : Nat) : Int))] [] [ob 5 [vI (cnt : Int), .ref 1, .ref 2, .ref 3, .ref 4, .ref 11, .ref 12, vI (arcs : Int), vI (ln : Int), .ref 5, .ref 6, .ref 7, .ref 8, .ref 9, .ref 10], cK 300 wy, cN 300 fa, cK 300 fw, cN 301 as_, cK 2107 (sClr me cnt), cI 401 fb, cI 300 nb, cK 4 wu, cI 200 fk, cI 512 nw, cN nA aw, cN nA at_] 0 0
  refine sq_ok rfl [(.return_, 0, 0, 0)] 21 _ _ _ _ _ (by decide +kernel) ?_
  show ((0 ≤ 0 ∧ 0 ≤ 0) ∧ Post none [ob 5 [vI (cnt : Int), .ref 1, .ref 2, .ref 3, .ref 4, .ref 11, .ref 12, vI (arcs : Int), vI (ln : Int), .ref 5, .ref 6, .ref 7, .ref 8, .ref 9, .ref 10], cK 300 wy, cN 300 fa, cK 300 fw, cN 301 as_, cK 2107 (sClr me cnt), cI 401 fb, cI 300 nb, cK 4 wu, cI 200 fk, cI 512 nw, cN nA aw, cN nA at_])
  refine ⟨⟨Nat.le_refl _, Nat.le_refl _⟩, hPo _ _ ?_⟩
  exact ⟨rfl, rfl⟩

set_option maxRecDepth 100000 in
set_option maxHeartbeats 500000 in
theorem c_X5_sameAsMade (cnt : Nat) (wy fa fw as_ aw at_ : Nat → Nat) (nA arcs ln : Nat) (me : Nat → Nat) (fb nb : Nat → Int) (wu : Nat → Nat) (fk nw : Nat → Int) (hme : ∀ j, me j < 18446744073709551616) (hc : cnt ≤ 300) (s : Nat) (hs : s ≤ 300) : CT mX5_sameAsMade 0 0 [.ref 0, vI (s : Int)] [ob 5 [vI (cnt : Int), .ref 1, .ref 2, .ref 3, .ref 4, .ref 11, .ref 12, vI (arcs : Int), vI (ln : Int), .ref 5, .ref 6, .ref 7, .ref 8, .ref 9, .ref 10], cK 300 wy, cN 300 fa, cK 300 fw, cN 301 as_, cK 2107 me, cI 401 fb, cI 300 nb, cK 4 wu, cI 200 fk, cI 512 nw, cN nA aw, cN nA at_] (fun r w => (∃ b : Bool, r = some (vZ b) ∧ (b = true ↔ ∀ i, i < 7 → me (7 * s + i) = me (7 * cnt + i))) ∧ w = [ob 5 [vI (cnt : Int), .ref 1, .ref 2, .ref 3, .ref 4, .ref 11, .ref 12, vI (arcs : Int), vI (ln : Int), .ref 5, .ref 6, .ref 7, .ref 8, .ref 9, .ref 10], cK 300 wy, cN 300 fa, cK 300 fw, cN 301 as_, cK 2107 me, cI 401 fb, cI 300 nb, cK 4 wu, cI 200 fk, cI 512 nw, cN nA aw, cN nA at_]) := by
  refine CT.intro rfl (Nat.le_of_ble_eq_true rfl) ?_
  generalize hPost : (fun r w => (∃ b : Bool, r = some (vZ b) ∧ (b = true ↔ ∀ i, i < 7 → me (7 * s + i) = me (7 * cnt + i))) ∧ w = [ob 5 [vI (cnt : Int), .ref 1, .ref 2, .ref 3, .ref 4, .ref 11, .ref 12, vI (arcs : Int), vI (ln : Int), .ref 5, .ref 6, .ref 7, .ref 8, .ref 9, .ref 10], cK 300 wy, cN 300 fa, cK 300 fw, cN 301 as_, cK 2107 me, cI 401 fb, cI 300 nb, cK 4 wu, cI 200 fk, cI 512 nw, cN nA aw, cN nA at_] : MP) = Post
  have hPo : ∀ rr ww, (fun r w => (∃ b : Bool, r = some (vZ b) ∧ (b = true ↔ ∀ i, i < 7 → me (7 * s + i) = me (7 * cnt + i))) ∧ w = [ob 5 [vI (cnt : Int), .ref 1, .ref 2, .ref 3, .ref 4, .ref 11, .ref 12, vI (arcs : Int), vI (ln : Int), .ref 5, .ref 6, .ref 7, .ref 8, .ref 9, .ref 10], cK 300 wy, cN 300 fa, cK 300 fw, cN 301 as_, cK 2107 me, cI 401 fb, cI 300 nb, cK 4 wu, cI 200 fk, cI 512 nw, cN nA aw, cN nA at_] : MP) rr ww → Post rr ww := by rw [← hPost]; exact fun _ _ h => h
  clear hPost
  show WM mX5_sameAsMade 0 0 Post 13 0 [(0, .ref 0), (1, vI (s : Int))] [] [ob 5 [vI (cnt : Int), .ref 1, .ref 2, .ref 3, .ref 4, .ref 11, .ref 12, vI (arcs : Int), vI (ln : Int), .ref 5, .ref 6, .ref 7, .ref 8, .ref 9, .ref 10], cK 300 wy, cN 300 fa, cK 300 fw, cN 301 as_, cK 2107 me, cI 401 fb, cI 300 nb, cK 4 wu, cI 200 fk, cI 512 nw, cN nA aw, cN nA at_] 0 0
  refine sq_ok rfl [(.iconst 0, 0, 0, 0), (.istore_n 2, 0, 0, 0)] 0 _ _ _ _ _ (by decide +kernel) ?_
  show WM mX5_sameAsMade 0 0 Post 13 2 [(0, .ref 0), (1, vI (s : Int)), (2, vI 0)] [] [ob 5 [vI (cnt : Int), .ref 1, .ref 2, .ref 3, .ref 4, .ref 11, .ref 12, vI (arcs : Int), vI (ln : Int), .ref 5, .ref 6, .ref 7, .ref 8, .ref 9, .ref 10], cK 300 wy, cN 300 fa, cK 300 fw, cN 301 as_, cK 2107 me, cI 401 fb, cI 300 nb, cK 4 wu, cI 200 fk, cI 512 nw, cN nA aw, cN nA at_] 0 0
  have lp2 : ∀ (n2 : Nat) (i : Nat), (i ≤ 7) → (∀ j, j < i → me (7 * s + j) = me (7 * cnt + j)) → (7 - i) < n2 → WM mX5_sameAsMade 0 0 Post 13 2 [(0, .ref 0), (1, vI (s : Int)), (2, vI (i : Int))] [] [ob 5 [vI (cnt : Int), .ref 1, .ref 2, .ref 3, .ref 4, .ref 11, .ref 12, vI (arcs : Int), vI (ln : Int), .ref 5, .ref 6, .ref 7, .ref 8, .ref 9, .ref 10], cK 300 wy, cN 300 fa, cK 300 fw, cN 301 as_, cK 2107 me, cI 401 fb, cI 300 nb, cK 4 wu, cI 200 fk, cI 512 nw, cN nA aw, cN nA at_] 0 0 := by
    intro n2
    induction n2 with
    | zero => intro i hi hq hm; exact absurd hm (Nat.not_lt_zero _)
    | succ n2 ih2 =>
      intro i hi hq hm2
      refine sq_ok rfl [(.iload_n 2, 0, 0, 0), (.bipush 7, 0, 0, 0), (.if_icmp .ge 40, 0, 0, 0)] 2 _ _ _ _ _ (by decide +kernel) ?_
      show (kI 7 ≤ kI (i : Int) → WM mX5_sameAsMade 0 0 Post 13 45 [(0, .ref 0), (1, vI (s : Int)), (2, vI (i : Int))] [] [ob 5 [vI (cnt : Int), .ref 1, .ref 2, .ref 3, .ref 4, .ref 11, .ref 12, vI (arcs : Int), vI (ln : Int), .ref 5, .ref 6, .ref 7, .ref 8, .ref 9, .ref 10], cK 300 wy, cN 300 fa, cK 300 fw, cN 301 as_, cK 2107 me, cI 401 fb, cI 300 nb, cK 4 wu, cI 200 fk, cI 512 nw, cN nA aw, cN nA at_] 0 0) ∧ (¬ kI 7 ≤ kI (i : Int) → WM mX5_sameAsMade 0 0 Post 13 8 [(0, .ref 0), (1, vI (s : Int)), (2, vI (i : Int))] [] [ob 5 [vI (cnt : Int), .ref 1, .ref 2, .ref 3, .ref 4, .ref 11, .ref 12, vI (arcs : Int), vI (ln : Int), .ref 5, .ref 6, .ref 7, .ref 8, .ref 9, .ref 10], cK 300 wy, cN 300 fa, cK 300 fw, cN 301 as_, cK 2107 me, cI 401 fb, cI 300 nb, cK 4 wu, cI 200 fk, cI 512 nw, cN nA aw, cN nA at_] 0 0)
      refine ⟨fun c5 => ?_, fun c5 => ?_⟩
      · 
        rw [kI_le (by omega)] at c5
        refine sq_ok rfl [(.iconst 1, 0, 0, 0), (.ireturn, 0, 0, 0)] 45 _ _ _ _ _ (by decide +kernel) ?_
        show narrow .boolean (.int (kI 1)) = .int (kI 1) ∧ ((0 ≤ 0 ∧ 0 ≤ 0) ∧ Post (some (vI 1)) [ob 5 [vI (cnt : Int), .ref 1, .ref 2, .ref 3, .ref 4, .ref 11, .ref 12, vI (arcs : Int), vI (ln : Int), .ref 5, .ref 6, .ref 7, .ref 8, .ref 9, .ref 10], cK 300 wy, cN 300 fa, cK 300 fw, cN 301 as_, cK 2107 me, cI 401 fb, cI 300 nb, cK 4 wu, cI 200 fk, cI 512 nw, cN nA aw, cN nA at_])
        refine ⟨(bI_fits true).1, ?_⟩
        refine ⟨⟨Nat.le_refl _, Nat.le_refl _⟩, hPo _ _ ?_⟩
        exact ⟨⟨true, rfl, by constructor; (intro _ j hj; exact hq j (by omega)); (intro _; rfl)⟩, rfl⟩
      · 
        rw [kI_le (by omega)] at c5
        refine sq_ok rfl [(.aload_n 0, 0, 0, 0), (.getfield 31, 5, 9, 0), (.iload_n 1, 0, 0, 0), (.bipush 7, 0, 0, 0), (.imul, 0, 0, 0), (.iload_n 2, 0, 0, 0), (.iadd, 0, 0, 0), (.laload, 0, 0, 0), (.aload_n 0, 0, 0, 0), (.getfield 31, 5, 9, 0), (.aload_n 0, 0, 0, 0), (.getfield 49, 5, 0, 0), (.bipush 7, 0, 0, 0), (.imul, 0, 0, 0), (.iload_n 2, 0, 0, 0), (.iadd, 0, 0, 0), (.laload, 0, 0, 0), (.lcmp, 0, 0, 0), (.ifCond .eq 5, 0, 0, 0)] 8 _ _ _ _ _ (by decide +kernel) ?_
        show ∃ j18 : Nat, mj 2107 (((kI (s : Int)) * (kI 7)) + (kI (i : Int))) j18 ∧ ∃ j32 : Nat, mj 2107 (((kI (cnt : Int)) * (kI 7)) + (kI (i : Int))) j32 ∧ ((lg_cmp (kL ((me j18 : Nat) : Int)) (kL ((me j32 : Nat) : Int))) = kI 0 → WM mX5_sameAsMade 0 0 Post 13 39 [(0, .ref 0), (1, vI (s : Int)), (2, vI (i : Int))] [] [ob 5 [vI (cnt : Int), .ref 1, .ref 2, .ref 3, .ref 4, .ref 11, .ref 12, vI (arcs : Int), vI (ln : Int), .ref 5, .ref 6, .ref 7, .ref 8, .ref 9, .ref 10], cK 300 wy, cN 300 fa, cK 300 fw, cN 301 as_, cK 2107 me, cI 401 fb, cI 300 nb, cK 4 wu, cI 200 fk, cI 512 nw, cN nA aw, cN nA at_] 0 0) ∧ (¬ (lg_cmp (kL ((me j18 : Nat) : Int)) (kL ((me j32 : Nat) : Int))) = kI 0 → WM mX5_sameAsMade 0 0 Post 13 37 [(0, .ref 0), (1, vI (s : Int)), (2, vI (i : Int))] [] [ob 5 [vI (cnt : Int), .ref 1, .ref 2, .ref 3, .ref 4, .ref 11, .ref 12, vI (arcs : Int), vI (ln : Int), .ref 5, .ref 6, .ref 7, .ref 8, .ref 9, .ref 10], cK 300 wy, cN 300 fa, cK 300 fw, cN 301 as_, cK 2107 me, cI 401 fb, cI 300 nb, cK 4 wu, cI 200 fk, cI 512 nw, cN nA aw, cN nA at_] 0 0)
        refine ⟨(7 * s + i), ⟨by omega, by omega, by rw [kI_mul, kI_add]; congr 1; omega⟩, ?_⟩
        refine ⟨(7 * cnt + i), ⟨by omega, by omega, by rw [kI_mul, kI_add]; congr 1; omega⟩, ?_⟩
        refine ⟨fun c34 => ?_, fun c34 => ?_⟩
        · 
          rw [lc_eq, kL_eqU (hme _) (hme _)] at c34
          refine sq_ok rfl [(.iinc 2 1, 0, 0, 0), (.goto (-40), 0, 0, 0)] 39 _ _ _ _ _ (by decide +kernel) ?_
          show WM mX5_sameAsMade 0 0 Post 13 2 [(0, .ref 0), (1, vI (s : Int)), (2, .int ((kI (i : Int)) + (kI 1)))] [] [ob 5 [vI (cnt : Int), .ref 1, .ref 2, .ref 3, .ref 4, .ref 11, .ref 12, vI (arcs : Int), vI (ln : Int), .ref 5, .ref 6, .ref 7, .ref 8, .ref 9, .ref 10], cK 300 wy, cN 300 fa, cK 300 fw, cN 301 as_, cK 2107 me, cI 401 fb, cI 300 nb, cK 4 wu, cI 200 fk, cI 512 nw, cN nA aw, cN nA at_] 0 0
          have e3 : ((kI (i : Int)) + (kI 1)) = kI (((i + 1) : Nat) : Int) := by first | (simp only [kI_add, kI_sub, kI_mul]; done) | (simp only [kI_add, kI_sub, kI_mul]; rfl)
          rw [e3]
          exact WM.pick [0, 1, 2] rfl (ih2 (i + 1) (by omega) (fun j hj => by rcases Nat.lt_succ_iff_lt_or_eq.mp hj with h | h; exact hq j h; subst h; exact c34) (by omega))
        · 
          rw [lc_eq, kL_eqU (hme _) (hme _)] at c34
          refine sq_ok rfl [(.iconst 0, 0, 0, 0), (.ireturn, 0, 0, 0)] 37 _ _ _ _ _ (by decide +kernel) ?_
          show narrow .boolean (.int (kI 0)) = .int (kI 0) ∧ ((0 ≤ 0 ∧ 0 ≤ 0) ∧ Post (some (vI 0)) [ob 5 [vI (cnt : Int), .ref 1, .ref 2, .ref 3, .ref 4, .ref 11, .ref 12, vI (arcs : Int), vI (ln : Int), .ref 5, .ref 6, .ref 7, .ref 8, .ref 9, .ref 10], cK 300 wy, cN 300 fa, cK 300 fw, cN 301 as_, cK 2107 me, cI 401 fb, cI 300 nb, cK 4 wu, cI 200 fk, cI 512 nw, cN nA aw, cN nA at_])
          refine ⟨(bI_fits false).1, ?_⟩
          refine ⟨⟨Nat.le_refl _, Nat.le_refl _⟩, hPo _ _ ?_⟩
          exact ⟨⟨false, rfl, by constructor; (intro h; cases h); (intro h; exact absurd (h i (by omega)) c34)⟩, rfl⟩
  exact WM.pick [0, 1, 2] rfl (lp2 _ 0 (by omega) (fun j hj => absurd hj (Nat.not_lt_zero _)) (Nat.lt_succ_self _))

set_option maxRecDepth 100000 in
set_option maxHeartbeats 500000 in
theorem c_X5_endsAt (cnt : Nat) (wy fa fw as_ aw at_ : Nat → Nat) (nA arcs ln : Nat) (me : Nat → Nat) (fb nb : Nat → Int) (wu : Nat → Nat) (fk nw : Nat → Int) (hme : ∀ j, me j < 18446744073709551616) (s : Nat) (hs : s ≤ 300) (hln : ln < 401) : CT mX5_endsAt 0 0 [.ref 0, vI (s : Int)] [ob 5 [vI (cnt : Int), .ref 1, .ref 2, .ref 3, .ref 4, .ref 11, .ref 12, vI (arcs : Int), vI (ln : Int), .ref 5, .ref 6, .ref 7, .ref 8, .ref 9, .ref 10], cK 300 wy, cN 300 fa, cK 300 fw, cN 301 as_, cK 2107 me, cI 401 fb, cI 300 nb, cK 4 wu, cI 200 fk, cI 512 nw, cN nA aw, cN nA at_] (fun r w => r = some (vZ (sB me s ln)) ∧ w = [ob 5 [vI (cnt : Int), .ref 1, .ref 2, .ref 3, .ref 4, .ref 11, .ref 12, vI (arcs : Int), vI (ln : Int), .ref 5, .ref 6, .ref 7, .ref 8, .ref 9, .ref 10], cK 300 wy, cN 300 fa, cK 300 fw, cN 301 as_, cK 2107 me, cI 401 fb, cI 300 nb, cK 4 wu, cI 200 fk, cI 512 nw, cN nA aw, cN nA at_]) := by
  refine CT.intro rfl (Nat.le_of_ble_eq_true rfl) ?_
  generalize hPost : (fun r w => r = some (vZ (sB me s ln)) ∧ w = [ob 5 [vI (cnt : Int), .ref 1, .ref 2, .ref 3, .ref 4, .ref 11, .ref 12, vI (arcs : Int), vI (ln : Int), .ref 5, .ref 6, .ref 7, .ref 8, .ref 9, .ref 10], cK 300 wy, cN 300 fa, cK 300 fw, cN 301 as_, cK 2107 me, cI 401 fb, cI 300 nb, cK 4 wu, cI 200 fk, cI 512 nw, cN nA aw, cN nA at_] : MP) = Post
  have hPo : ∀ rr ww, (fun r w => r = some (vZ (sB me s ln)) ∧ w = [ob 5 [vI (cnt : Int), .ref 1, .ref 2, .ref 3, .ref 4, .ref 11, .ref 12, vI (arcs : Int), vI (ln : Int), .ref 5, .ref 6, .ref 7, .ref 8, .ref 9, .ref 10], cK 300 wy, cN 300 fa, cK 300 fw, cN 301 as_, cK 2107 me, cI 401 fb, cI 300 nb, cK 4 wu, cI 200 fk, cI 512 nw, cN nA aw, cN nA at_] : MP) rr ww → Post rr ww := by rw [← hPost]; exact fun _ _ h => h
  clear hPost
  show WM mX5_endsAt 0 0 Post 13 0 [(0, .ref 0), (1, vI (s : Int))] [] [ob 5 [vI (cnt : Int), .ref 1, .ref 2, .ref 3, .ref 4, .ref 11, .ref 12, vI (arcs : Int), vI (ln : Int), .ref 5, .ref 6, .ref 7, .ref 8, .ref 9, .ref 10], cK 300 wy, cN 300 fa, cK 300 fw, cN 301 as_, cK 2107 me, cI 401 fb, cI 300 nb, cK 4 wu, cI 200 fk, cI 512 nw, cN nA aw, cN nA at_] 0 0
  refine sq_ok rfl [(.aload_n 0, 0, 0, 0), (.iload_n 1, 0, 0, 0), (.aload_n 0, 0, 0, 0), (.getfield 62, 5, 8, 0)] 0 _ _ _ _ _ (by decide +kernel) ?_
  show WM mX5_endsAt 0 0 Post 13 6 [(0, .ref 0), (1, vI (s : Int))] [vI (ln : Int), vI (s : Int), .ref 0] [ob 5 [vI (cnt : Int), .ref 1, .ref 2, .ref 3, .ref 4, .ref 11, .ref 12, vI (arcs : Int), vI (ln : Int), .ref 5, .ref 6, .ref 7, .ref 8, .ref 9, .ref 10], cK 300 wy, cN 300 fa, cK 300 fw, cN 301 as_, cK 2107 me, cI 401 fb, cI 300 nb, cK 4 wu, cI 200 fk, cI 512 nw, cN nA aw, cN nA at_] 0 0
  refine wm_callV (y := mX5_endsAt) mX5_has [0, 1, 2, 3, 4, 5, 6, 7, 8, 9, 10, 11, 12] (pc := 6) (rest := []) (mc' := 0) (ms' := 0) (by decide +kernel) kX5_148 (c_X5_has cnt wy fa fw as_ aw at_ nA arcs ln me fb nb wu fk nw hme s ln hs hln) rfl rfl ⟨_, rfl, rfl⟩ ⟨Nat.le_of_ble_eq_true rfl, Nat.le_of_ble_eq_true rfl⟩ ⟨Nat.le_of_ble_eq_true rfl, Nat.le_of_ble_eq_true rfl⟩ (Nat.le_of_ble_eq_true rfl) rfl rfl (Nat.le_of_ble_eq_true rfl) rfl ?_
  rintro _ _ ⟨rfl, rfl⟩
  show WM mX5_endsAt 0 0 Post 13 9 [(0, .ref 0), (1, vI (s : Int))] [vZ (sB me s ln)] [ob 5 [vI (cnt : Int), .ref 1, .ref 2, .ref 3, .ref 4, .ref 11, .ref 12, vI (arcs : Int), vI (ln : Int), .ref 5, .ref 6, .ref 7, .ref 8, .ref 9, .ref 10], cK 300 wy, cN 300 fa, cK 300 fw, cN 301 as_, cK 2107 me, cI 401 fb, cI 300 nb, cK 4 wu, cI 200 fk, cI 512 nw, cN nA aw, cN nA at_] 0 0
  refine sq_ok rfl [(.ireturn, 0, 0, 0)] 9 _ _ _ _ _ (by decide +kernel) ?_
  show narrow .boolean (.int (bI (sB me s ln))) = .int (bI (sB me s ln)) ∧ ((0 ≤ 0 ∧ 0 ≤ 0) ∧ Post (some (vZ (sB me s ln))) [ob 5 [vI (cnt : Int), .ref 1, .ref 2, .ref 3, .ref 4, .ref 11, .ref 12, vI (arcs : Int), vI (ln : Int), .ref 5, .ref 6, .ref 7, .ref 8, .ref 9, .ref 10], cK 300 wy, cN 300 fa, cK 300 fw, cN 301 as_, cK 2107 me, cI 401 fb, cI 300 nb, cK 4 wu, cI 200 fk, cI 512 nw, cN nA aw, cN nA at_])
  refine ⟨(bI_fits (sB me s ln)).1, ?_⟩
  refine ⟨⟨Nat.le_refl _, Nat.le_refl _⟩, hPo _ _ ?_⟩
  exact ⟨rfl, rfl⟩

set_option maxRecDepth 100000 in
set_option maxHeartbeats 500000 in
theorem c_X5_after (cnt : Nat) (wy fa fw as_ aw at_ : Nat → Nat) (nA arcs ln : Nat) (me : Nat → Nat) (fb nb : Nat → Int) (wu : Nat → Nat) (fk nw : Nat → Int) (s : Nat) (x : Int) (hs : s < 300) (hA : as_ s ≤ as_ (s + 1) ∧ as_ (s + 1) ≤ nA) (hnA : nA < 2147483648) (hat : ∀ k, as_ s ≤ k → k < as_ (s + 1) → aw k < 200 ∧ at_ k < 300) (hx : -2 ≤ x ∧ x < 2147483648) : CT mX5_after 0 0 [.ref 0, vI (s : Int), vI x] [ob 5 [vI (cnt : Int), .ref 1, .ref 2, .ref 3, .ref 4, .ref 11, .ref 12, vI (arcs : Int), vI (ln : Int), .ref 5, .ref 6, .ref 7, .ref 8, .ref 9, .ref 10], cK 300 wy, cN 300 fa, cK 300 fw, cN 301 as_, cK 2107 me, cI 401 fb, cI 300 nb, cK 4 wu, cI 200 fk, cI 512 nw, cN nA aw, cN nA at_] (fun r w => r = some (vI (oI (afO as_ aw at_ s x))) ∧ w = [ob 5 [vI (cnt : Int), .ref 1, .ref 2, .ref 3, .ref 4, .ref 11, .ref 12, vI (arcs : Int), vI (ln : Int), .ref 5, .ref 6, .ref 7, .ref 8, .ref 9, .ref 10], cK 300 wy, cN 300 fa, cK 300 fw, cN 301 as_, cK 2107 me, cI 401 fb, cI 300 nb, cK 4 wu, cI 200 fk, cI 512 nw, cN nA aw, cN nA at_]) := by
  refine CT.intro rfl (Nat.le_of_ble_eq_true rfl) ?_
  generalize hPost : (fun r w => r = some (vI (oI (afO as_ aw at_ s x))) ∧ w = [ob 5 [vI (cnt : Int), .ref 1, .ref 2, .ref 3, .ref 4, .ref 11, .ref 12, vI (arcs : Int), vI (ln : Int), .ref 5, .ref 6, .ref 7, .ref 8, .ref 9, .ref 10], cK 300 wy, cN 300 fa, cK 300 fw, cN 301 as_, cK 2107 me, cI 401 fb, cI 300 nb, cK 4 wu, cI 200 fk, cI 512 nw, cN nA aw, cN nA at_] : MP) = Post
  have hPo : ∀ rr ww, (fun r w => r = some (vI (oI (afO as_ aw at_ s x))) ∧ w = [ob 5 [vI (cnt : Int), .ref 1, .ref 2, .ref 3, .ref 4, .ref 11, .ref 12, vI (arcs : Int), vI (ln : Int), .ref 5, .ref 6, .ref 7, .ref 8, .ref 9, .ref 10], cK 300 wy, cN 300 fa, cK 300 fw, cN 301 as_, cK 2107 me, cI 401 fb, cI 300 nb, cK 4 wu, cI 200 fk, cI 512 nw, cN nA aw, cN nA at_] : MP) rr ww → Post rr ww := by rw [← hPost]; exact fun _ _ h => h
  clear hPost
  show WM mX5_after 0 0 Post 13 0 [(0, .ref 0), (1, vI (s : Int)), (2, vI x)] [] [ob 5 [vI (cnt : Int), .ref 1, .ref 2, .ref 3, .ref 4, .ref 11, .ref 12, vI (arcs : Int), vI (ln : Int), .ref 5, .ref 6, .ref 7, .ref 8, .ref 9, .ref 10], cK 300 wy, cN 300 fa, cK 300 fw, cN 301 as_, cK 2107 me, cI 401 fb, cI 300 nb, cK 4 wu, cI 200 fk, cI 512 nw, cN nA aw, cN nA at_] 0 0
  refine sq_ok rfl [(.aload_n 0, 0, 0, 0), (.getfield 22, 5, 4, 0), (.iload_n 1, 0, 0, 0), (.iaload, 0, 0, 0), (.istore_n 3, 0, 0, 0)] 0 _ _ _ _ _ (by decide +kernel) ?_
  show ∃ j5 : Nat, mj 301 (kI (s : Int)) j5 ∧ WM mX5_after 0 0 Post 13 7 [(0, .ref 0), (1, vI (s : Int)), (2, vI x), (3, vI ((as_ j5 : Nat) : Int))] [] [ob 5 [vI (cnt : Int), .ref 1, .ref 2, .ref 3, .ref 4, .ref 11, .ref 12, vI (arcs : Int), vI (ln : Int), .ref 5, .ref 6, .ref 7, .ref 8, .ref 9, .ref 10], cK 300 wy, cN 300 fa, cK 300 fw, cN 301 as_, cK 2107 me, cI 401 fb, cI 300 nb, cK 4 wu, cI 200 fk, cI 512 nw, cN nA aw, cN nA at_] 0 0
  refine ⟨s, ⟨by omega, by omega, rfl⟩, ?_⟩
  have lp7 : ∀ (n7 : Nat) (k : Nat), (as_ s ≤ k ∧ k ≤ as_ (s + 1)) → (∀ j, as_ s + j < k → (((aw (as_ s + j) : Nat) : Int) == x) = false) → (as_ (s + 1) - k) < n7 → WM mX5_after 0 0 Post 13 7 [(0, .ref 0), (1, vI (s : Int)), (2, vI x), (3, vI (k : Int))] [] [ob 5 [vI (cnt : Int), .ref 1, .ref 2, .ref 3, .ref 4, .ref 11, .ref 12, vI (arcs : Int), vI (ln : Int), .ref 5, .ref 6, .ref 7, .ref 8, .ref 9, .ref 10], cK 300 wy, cN 300 fa, cK 300 fw, cN 301 as_, cK 2107 me, cI 401 fb, cI 300 nb, cK 4 wu, cI 200 fk, cI 512 nw, cN nA aw, cN nA at_] 0 0 := by
    intro n7
    induction n7 with
    | zero => intro k hk hq hm; exact absurd hm (Nat.not_lt_zero _)
    | succ n7 ih7 =>
      intro k hk hq hm7
      refine sq_ok rfl [(.iload_n 3, 0, 0, 0), (.aload_n 0, 0, 0, 0), (.getfield 22, 5, 4, 0), (.iload_n 1, 0, 0, 0), (.iconst 1, 0, 0, 0), (.iadd, 0, 0, 0), (.iaload, 0, 0, 0), (.if_icmp .ge 26, 0, 0, 0)] 7 _ _ _ _ _ (by decide +kernel) ?_
      show ∃ j15 : Nat, mj 301 ((kI (s : Int)) + (kI 1)) j15 ∧ (kI ((as_ j15 : Nat) : Int) ≤ kI (k : Int) → WM mX5_after 0 0 Post 13 42 [(0, .ref 0), (1, vI (s : Int)), (2, vI x), (3, vI (k : Int))] [] [ob 5 [vI (cnt : Int), .ref 1, .ref 2, .ref 3, .ref 4, .ref 11, .ref 12, vI (arcs : Int), vI (ln : Int), .ref 5, .ref 6, .ref 7, .ref 8, .ref 9, .ref 10], cK 300 wy, cN 300 fa, cK 300 fw, cN 301 as_, cK 2107 me, cI 401 fb, cI 300 nb, cK 4 wu, cI 200 fk, cI 512 nw, cN nA aw, cN nA at_] 0 0) ∧ (¬ kI ((as_ j15 : Nat) : Int) ≤ kI (k : Int) → WM mX5_after 0 0 Post 13 19 [(0, .ref 0), (1, vI (s : Int)), (2, vI x), (3, vI (k : Int))] [] [ob 5 [vI (cnt : Int), .ref 1, .ref 2, .ref 3, .ref 4, .ref 11, .ref 12, vI (arcs : Int), vI (ln : Int), .ref 5, .ref 6, .ref 7, .ref 8, .ref 9, .ref 10], cK 300 wy, cN 300 fa, cK 300 fw, cN 301 as_, cK 2107 me, cI 401 fb, cI 300 nb, cK 4 wu, cI 200 fk, cI 512 nw, cN nA aw, cN nA at_] 0 0)
      refine ⟨(s + 1), ⟨by omega, by omega, by rw [kI_add]; rfl⟩, ?_⟩
      refine ⟨fun c16 => ?_, fun c16 => ?_⟩
      · 
        rw [kI_le (by omega)] at c16
        refine sq_ok rfl [(.bipush (-2), 0, 0, 0), (.ireturn, 0, 0, 0)] 42 _ _ _ _ _ (by decide +kernel) ?_
        show ((0 ≤ 0 ∧ 0 ≤ 0) ∧ Post (some (vI (-2))) [ob 5 [vI (cnt : Int), .ref 1, .ref 2, .ref 3, .ref 4, .ref 11, .ref 12, vI (arcs : Int), vI (ln : Int), .ref 5, .ref 6, .ref 7, .ref 8, .ref 9, .ref 10], cK 300 wy, cN 300 fa, cK 300 fw, cN 301 as_, cK 2107 me, cI 401 fb, cI 300 nb, cK 4 wu, cI 200 fk, cI 512 nw, cN nA aw, cN nA at_])
        refine ⟨⟨Nat.le_refl _, Nat.le_refl _⟩, hPo _ _ ?_⟩
        exact ⟨by unfold afO; rw [fnd_none (p := fun k => ((aw (as_ s + k) : Nat) : Int) == x) (fun j hj => hq j (by omega))]; rfl, rfl⟩
      · 
        rw [kI_le (by omega)] at c16
        have h1 := hat k (by omega) (by omega)
        refine sq_ok rfl [(.aload_n 0, 0, 0, 0), (.getfield 25, 5, 5, 0), (.iload_n 3, 0, 0, 0), (.iaload, 0, 0, 0), (.iload_n 2, 0, 0, 0), (.if_icmp .ne 10, 0, 0, 0)] 19 _ _ _ _ _ (by decide +kernel) ?_
        show ∃ j24 : Nat, mj nA (kI (k : Int)) j24 ∧ (¬ kI ((aw j24 : Nat) : Int) = kI x → WM mX5_after 0 0 Post 13 36 [(0, .ref 0), (1, vI (s : Int)), (2, vI x), (3, vI (k : Int))] [] [ob 5 [vI (cnt : Int), .ref 1, .ref 2, .ref 3, .ref 4, .ref 11, .ref 12, vI (arcs : Int), vI (ln : Int), .ref 5, .ref 6, .ref 7, .ref 8, .ref 9, .ref 10], cK 300 wy, cN 300 fa, cK 300 fw, cN 301 as_, cK 2107 me, cI 401 fb, cI 300 nb, cK 4 wu, cI 200 fk, cI 512 nw, cN nA aw, cN nA at_] 0 0) ∧ (kI ((aw j24 : Nat) : Int) = kI x → WM mX5_after 0 0 Post 13 29 [(0, .ref 0), (1, vI (s : Int)), (2, vI x), (3, vI (k : Int))] [] [ob 5 [vI (cnt : Int), .ref 1, .ref 2, .ref 3, .ref 4, .ref 11, .ref 12, vI (arcs : Int), vI (ln : Int), .ref 5, .ref 6, .ref 7, .ref 8, .ref 9, .ref 10], cK 300 wy, cN 300 fa, cK 300 fw, cN 301 as_, cK 2107 me, cI 401 fb, cI 300 nb, cK 4 wu, cI 200 fk, cI 512 nw, cN nA aw, cN nA at_] 0 0)
        refine ⟨k, ⟨by omega, by omega, rfl⟩, ?_⟩
        refine ⟨fun c26 => ?_, fun c26 => ?_⟩
        · 
          rw [kI_eq (by omega)] at c26
          refine sq_ok rfl [(.iinc 3 1, 0, 0, 0), (.goto (-32), 0, 0, 0)] 36 _ _ _ _ _ (by decide +kernel) ?_
          show WM mX5_after 0 0 Post 13 7 [(0, .ref 0), (1, vI (s : Int)), (2, vI x), (3, .int ((kI (k : Int)) + (kI 1)))] [] [ob 5 [vI (cnt : Int), .ref 1, .ref 2, .ref 3, .ref 4, .ref 11, .ref 12, vI (arcs : Int), vI (ln : Int), .ref 5, .ref 6, .ref 7, .ref 8, .ref 9, .ref 10], cK 300 wy, cN 300 fa, cK 300 fw, cN 301 as_, cK 2107 me, cI 401 fb, cI 300 nb, cK 4 wu, cI 200 fk, cI 512 nw, cN nA aw, cN nA at_] 0 0
          have e3 : ((kI (k : Int)) + (kI 1)) = kI (((k + 1) : Nat) : Int) := by first | (simp only [kI_add, kI_sub, kI_mul]; done) | (simp only [kI_add, kI_sub, kI_mul]; rfl)
          rw [e3]
          exact WM.pick [0, 1, 2, 3] rfl (ih7 (k + 1) (by omega) (fun j hj => by rcases (show as_ s + j < k ∨ as_ s + j = k by omega) with h | h; exact hq j h; rw [h]; simp; omega) (by omega))
        · 
          rw [kI_eq (by omega)] at c26
          refine sq_ok rfl [(.aload_n 0, 0, 0, 0), (.getfield 28, 5, 6, 0), (.iload_n 3, 0, 0, 0), (.iaload, 0, 0, 0), (.ireturn, 0, 0, 0)] 29 _ _ _ _ _ (by decide +kernel) ?_
          show ∃ j34 : Nat, mj nA (kI (k : Int)) j34 ∧ ((0 ≤ 0 ∧ 0 ≤ 0) ∧ Post (some (vI ((at_ j34 : Nat) : Int))) [ob 5 [vI (cnt : Int), .ref 1, .ref 2, .ref 3, .ref 4, .ref 11, .ref 12, vI (arcs : Int), vI (ln : Int), .ref 5, .ref 6, .ref 7, .ref 8, .ref 9, .ref 10], cK 300 wy, cN 300 fa, cK 300 fw, cN 301 as_, cK 2107 me, cI 401 fb, cI 300 nb, cK 4 wu, cI 200 fk, cI 512 nw, cN nA aw, cN nA at_])
          refine ⟨k, ⟨by omega, by omega, rfl⟩, ?_⟩
          refine ⟨⟨Nat.le_refl _, Nat.le_refl _⟩, hPo _ _ ?_⟩
          exact ⟨by unfold afO; rw [fnd_some (p := fun k => ((aw (as_ s + k) : Nat) : Int) == x) (k := k - as_ s) (by omega) (by simp [show as_ s + (k - as_ s) = k by omega]; omega) (fun j hj => hq j (by omega))]; simp only [Option.map_some, oI, show as_ s + (k - as_ s) = k by omega], rfl⟩
  exact WM.pick [0, 1, 2, 3] rfl (lp7 _ (as_ s) (by omega) (fun j hj => by omega) (Nat.lt_succ_self _))
