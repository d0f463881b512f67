/-! Rules: lefts and alternatives -/
/-- an alternative comes to a left's: the same phrase stands once, with the greatest tenths -/
def altAdd (A : List (Nat × Nat)) (ph v : Nat) : Option (List (Nat × Nat)) := match fnd (fun k => (A[k]?).map Prod.fst == some ph) A.length with
  | some k => some (A.modify k (fun x => (x.1, max x.2 v)))
  | none => if A.length < 8 then some (A ++ [(ph, v)]) else none
abbrev al (PH TE : Nat → Nat) (l n : Nat) : List (Nat × Nat) := lst (fun a => (PH (8 * l + a), TE (8 * l + a))) n
theorem cpy_N {f g : Nat → Nat} {n : Nat} : va_cpy (fun q => kI (f q : Nat)) (fun q => kI (g q : Nat)) (kI 0).toNatClampNeg (kI 0).toNatClampNeg n = fun q => kI ((va_cpy f g 0 0 n q : Nat) : Int) := by
  have e : (kI 0).toNatClampNeg = 0 := by decide
  rw [e]
  funext q
  unfold va_cpy
  by_cases h : 0 ≤ q ∧ q < 0 + n
  · rw [if_pos h, if_pos h]
  · rw [if_neg h, if_neg h]
theorem cpy_lt {α : Type} {f g : Nat → α} {n j : Nat} (h : j < n) : va_cpy f g 0 0 n j = f j := by
  unfold va_cpy
  rw [if_pos (by omega)]
  congr 1
  omega
theorem lst_modify {α : Type} {f g : Nat → α} {n k : Nat} {F : α → α} (hk : k < n) (h1 : g k = F (f k)) (h2 : ∀ j, j < n → j ≠ k → g j = f j) : lst g n = (lst f n).modify k F := by
  apply List.ext_getElem?
  intro j
  rw [List.getElem?_modify]
  by_cases hj : j < n
  · rw [lst_get g hj, lst_get f hj]
    by_cases e : k = j
    · subst e
      simp [h1]
    · simp [e, h2 j hj (fun q => e q.symm)]
  · rw [List.getElem?_eq_none (by rw [lst_len]; omega), List.getElem?_eq_none (by rw [lst_len]; omega)]
    rfl
theorem fnd_al {PH TE : Nat → Nat} {l n ph : Nat} : fnd (fun k => ((al PH TE l n)[k]?).map Prod.fst == some ph) (al PH TE l n).length = fnd (fun k => PH (8 * l + k) == ph) n := by
  rw [lst_len]
  refine fnd_congr fun j hj => ?_
  rw [lst_get _ hj]
  by_cases h : PH (8 * l + j) = ph <;> simp [h]

set_option maxRecDepth 100000 in
set_option maxHeartbeats 4000000 in
theorem c_X4_init  : CT mX4_init 5 1140 [.ref 0] [ob 4 [.null, .null, vI 0, vI 0, .null, .null, .null, vZ false]] (fun r w => r = none ∧ w = [ob 4 [.ref 1, .ref 2, vI 0, vI 0, .ref 3, .ref 4, .ref 5, vZ false], cN 60 (fun _ => 0), cN 60 (fun _ => 0), cN 480 (fun _ => 0), cN 480 (fun _ => 0), cK 60 (fun _ => 0)]) := by
  refine CT.intro rfl (Nat.le_of_ble_eq_true rfl) ?_
  generalize hPost : (fun r w => r = none ∧ w = [ob 4 [.ref 1, .ref 2, vI 0, vI 0, .ref 3, .ref 4, .ref 5, vZ false], cN 60 (fun _ => 0), cN 60 (fun _ => 0), cN 480 (fun _ => 0), cN 480 (fun _ => 0), cK 60 (fun _ => 0)] : MP) = Post
  have hPo : ∀ rr ww, (fun r w => r = none ∧ w = [ob 4 [.ref 1, .ref 2, vI 0, vI 0, .ref 3, .ref 4, .ref 5, vZ false], cN 60 (fun _ => 0), cN 60 (fun _ => 0), cN 480 (fun _ => 0), cN 480 (fun _ => 0), cK 60 (fun _ => 0)] : MP) rr ww → Post rr ww := by rw [← hPost]; exact fun _ _ h => h
  clear hPost
  show WM mX4_init 5 1140 Post 1 0 [(0, .ref 0)] [] [ob 4 [.null, .null, vI 0, vI 0, .null, .null, .null, vZ false]] 0 0
  refine sq_ok rfl [(.aload_n 0, 0, 0, 0)] 0 _ _ _ _ _ (by decide +kernel) ?_
  show WM mX4_init 5 1140 Post 1 1 [(0, .ref 0)] [.ref 0] [ob 4 [.null, .null, vI 0, vI 0, .null, .null, .null, vZ false]] 0 0
  refine wm_obj (by decide +kernel) kX4_3 ⟨Nat.le_of_ble_eq_true rfl, Nat.le_of_ble_eq_true rfl⟩ ?_
  show WM mX4_init 5 1140 Post 1 4 [(0, .ref 0)] [] [ob 4 [.null, .null, vI 0, vI 0, .null, .null, .null, vZ false]] 0 0
  refine sq_ok rfl [(.aload_n 0, 0, 0, 0), (.bipush 60, 0, 0, 0), (.newarray .int, 0, 0, 0), (.putfield 9, 4, 0, 0), (.aload_n 0, 0, 0, 0), (.bipush 60, 0, 0, 0), (.newarray .int, 0, 0, 0), (.putfield 15, 4, 1, 0), (.aload_n 0, 0, 0, 0), (.sipush 480, 0, 0, 0), (.newarray .int, 0, 0, 0), (.putfield 18, 4, 4, 0), (.aload_n 0, 0, 0, 0), (.sipush 480, 0, 0, 0), (.newarray .int, 0, 0, 0), (.putfield 21, 4, 5, 0), (.aload_n 0, 0, 0, 0), (.bipush 60, 0, 0, 0), (.newarray .long, 0, 0, 0), (.putfield 24, 4, 6, 0), (.return_, 0, 0, 0)] 4 _ _ _ _ _ (by decide +kernel) ?_
  show ∃ N7 : Nat, (kI 60 = kI (N7 : Int) ∧ N7 ≤ 1000000 ∧ 0 + 1 ≤ 5 ∧ 0 + N7 ≤ 1140) ∧ ∃ N15 : Nat, (kI 60 = kI (N15 : Int) ∧ N15 ≤ 1000000 ∧ 1 + 1 ≤ 5 ∧ 0 + N7 + N15 ≤ 1140) ∧ ∃ N24 : Nat, (kI 480 = kI (N24 : Int) ∧ N24 ≤ 1000000 ∧ 2 + 1 ≤ 5 ∧ 0 + N7 + N15 + N24 ≤ 1140) ∧ ∃ N33 : Nat, (kI 480 = kI (N33 : Int) ∧ N33 ≤ 1000000 ∧ 3 + 1 ≤ 5 ∧ 0 + N7 + N15 + N24 + N33 ≤ 1140) ∧ ∃ N41 : Nat, (kI 60 = kI (N41 : Int) ∧ N41 ≤ 1000000 ∧ 4 + 1 ≤ 5 ∧ 0 + N7 + N15 + N24 + N33 + N41 ≤ 1140) ∧ ((5 ≤ 5 ∧ 0 + N7 + N15 + N24 + N33 + N41 ≤ 1140) ∧ Post none [ob 4 [.ref 1, .ref 2, vI 0, vI 0, .ref 3, .ref 4, .ref 5, vZ false], cI N7 (fun _ => 0), cI N15 (fun _ => 0), cI N24 (fun _ => 0), cI N33 (fun _ => 0), cJ N41 (fun _ => 0)])
  refine ⟨60, ⟨rfl, Nat.le_of_ble_eq_true rfl, Nat.le_of_ble_eq_true rfl, Nat.le_of_ble_eq_true rfl⟩, ?_⟩
  refine ⟨60, ⟨rfl, Nat.le_of_ble_eq_true rfl, Nat.le_of_ble_eq_true rfl, Nat.le_of_ble_eq_true rfl⟩, ?_⟩
  refine ⟨480, ⟨rfl, Nat.le_of_ble_eq_true rfl, Nat.le_of_ble_eq_true rfl, Nat.le_of_ble_eq_true rfl⟩, ?_⟩
  refine ⟨480, ⟨rfl, Nat.le_of_ble_eq_true rfl, Nat.le_of_ble_eq_true rfl, Nat.le_of_ble_eq_true rfl⟩, ?_⟩
  refine ⟨60, ⟨rfl, Nat.le_of_ble_eq_true rfl, Nat.le_of_ble_eq_true rfl, Nat.le_of_ble_eq_true rfl⟩, ?_⟩
  refine ⟨⟨Nat.le_refl _, Nat.le_of_ble_eq_true rfl⟩, hPo _ _ ?_⟩
  exact ⟨rfl, rfl⟩

set_option maxRecDepth 100000 in
set_option maxHeartbeats 4000000 in
theorem c_X4_empty (LP AL : Nat → Nat) (ru le : Nat) (PH TE LD : Nat → Nat) (kn : Bool) : CT mX4_empty 0 0 [.ref 0] [ob 4 [.ref 1, .ref 2, vI (ru : Int), vI (le : Int), .ref 3, .ref 4, .ref 5, vZ kn], cN 60 LP, cN 60 AL, cN 480 PH, cN 480 TE, cK 60 LD] (fun r w => r = none ∧ w = [ob 4 [.ref 1, .ref 2, vI 0, vI 0, .ref 3, .ref 4, .ref 5, vZ false], cN 60 LP, cN 60 AL, cN 480 PH, cN 480 TE, cK 60 LD]) := by
  refine CT.intro rfl (Nat.le_of_ble_eq_true rfl) ?_
  generalize hPost : (fun r w => r = none ∧ w = [ob 4 [.ref 1, .ref 2, vI 0, vI 0, .ref 3, .ref 4, .ref 5, vZ false], cN 60 LP, cN 60 AL, cN 480 PH, cN 480 TE, cK 60 LD] : MP) = Post
  have hPo : ∀ rr ww, (fun r w => r = none ∧ w = [ob 4 [.ref 1, .ref 2, vI 0, vI 0, .ref 3, .ref 4, .ref 5, vZ false], cN 60 LP, cN 60 AL, cN 480 PH, cN 480 TE, cK 60 LD] : MP) rr ww → Post rr ww := by rw [← hPost]; exact fun _ _ h => h
  clear hPost
  show WM mX4_empty 0 0 Post 6 0 [(0, .ref 0)] [] [ob 4 [.ref 1, .ref 2, vI (ru : Int), vI (le : Int), .ref 3, .ref 4, .ref 5, vZ kn], cN 60 LP, cN 60 AL, cN 480 PH, cN 480 TE, cK 60 LD] 0 0
  refine sq_ok rfl [(.aload_n 0, 0, 0, 0), (.iconst 0, 0, 0, 0), (.putfield 32, 4, 2, 0), (.aload_n 0, 0, 0, 0), (.iconst 0, 0, 0, 0), (.putfield 36, 4, 3, 0), (.aload_n 0, 0, 0, 0), (.iconst 0, 0, 0, 0), (.putfield 39, 4, 7, 0), (.return_, 0, 0, 0)] 0 _ _ _ _ _ (by decide +kernel) ?_
  show (narrow .boolean (.int (kI 0)) = .int (kI 0) ∧ fits .boolean (.int (kI 0)) = true) ∧ ((0 ≤ 0 ∧ 0 ≤ 0) ∧ Post none [ob 4 [.ref 1, .ref 2, vI 0, vI 0, .ref 3, .ref 4, .ref 5, vZ false], cN 60 LP, cN 60 AL, cN 480 PH, cN 480 TE, cK 60 LD])
  refine ⟨bI_fits false, ?_⟩
  refine ⟨⟨Nat.le_refl _, Nat.le_refl _⟩, hPo _ _ ?_⟩
  exact ⟨rfl, rfl⟩

set_option maxRecDepth 100000 in
set_option maxHeartbeats 4000000 in
theorem c_X4_alternativePhrase (LP AL : Nat → Nat) (ru le : Nat) (PH TE LD : Nat → Nat) (kn : Bool) (l a : Nat) (hl : l < 60) (ha : a < 8) : CT mX4_alternativePhrase 0 0 [.ref 0, vI (l : Int), vI (a : Int)] [ob 4 [.ref 1, .ref 2, vI (ru : Int), vI (le : Int), .ref 3, .ref 4, .ref 5, vZ kn], cN 60 LP, cN 60 AL, cN 480 PH, cN 480 TE, cK 60 LD] (fun r w => r = some (vI (PH (8 * l + a) : Nat)) ∧ w = [ob 4 [.ref 1, .ref 2, vI (ru : Int), vI (le : Int), .ref 3, .ref 4, .ref 5, vZ kn], cN 60 LP, cN 60 AL, cN 480 PH, cN 480 TE, cK 60 LD]) := by
  refine CT.intro rfl (Nat.le_of_ble_eq_true rfl) ?_
  generalize hPost : (fun r w => r = some (vI (PH (8 * l + a) : Nat)) ∧ w = [ob 4 [.ref 1, .ref 2, vI (ru : Int), vI (le : Int), .ref 3, .ref 4, .ref 5, vZ kn], cN 60 LP, cN 60 AL, cN 480 PH, cN 480 TE, cK 60 LD] : MP) = Post
  have hPo : ∀ rr ww, (fun r w => r = some (vI (PH (8 * l + a) : Nat)) ∧ w = [ob 4 [.ref 1, .ref 2, vI (ru : Int), vI (le : Int), .ref 3, .ref 4, .ref 5, vZ kn], cN 60 LP, cN 60 AL, cN 480 PH, cN 480 TE, cK 60 LD] : MP) rr ww → Post rr ww := by rw [← hPost]; exact fun _ _ h => h
  clear hPost
  show WM mX4_alternativePhrase 0 0 Post 6 0 [(0, .ref 0), (1, vI (l : Int)), (2, vI (a : Int))] [] [ob 4 [.ref 1, .ref 2, vI (ru : Int), vI (le : Int), .ref 3, .ref 4, .ref 5, vZ kn], cN 60 LP, cN 60 AL, cN 480 PH, cN 480 TE, cK 60 LD] 0 0
  refine sq_ok rfl [(.aload_n 0, 0, 0, 0), (.getfield 18, 4, 4, 0), (.iload_n 1, 0, 0, 0), (.bipush 8, 0, 0, 0), (.imul, 0, 0, 0), (.iload_n 2, 0, 0, 0), (.iadd, 0, 0, 0), (.iaload, 0, 0, 0), (.ireturn, 0, 0, 0)] 0 _ _ _ _ _ (by decide +kernel) ?_
  show ∃ j10 : Nat, mj 480 (((kI (l : Int)) * (kI 8)) + (kI (a : Int))) j10 ∧ ((0 ≤ 0 ∧ 0 ≤ 0) ∧ Post (some (vI ((PH j10 : Nat) : Int))) [ob 4 [.ref 1, .ref 2, vI (ru : Int), vI (le : Int), .ref 3, .ref 4, .ref 5, vZ kn], cN 60 LP, cN 60 AL, cN 480 PH, cN 480 TE, cK 60 LD])
  refine ⟨(8 * l + a), ⟨by omega, by omega, by rw [kI_mul, kI_add]; congr 1; omega⟩, ?_⟩
  refine ⟨⟨Nat.le_refl _, Nat.le_refl _⟩, hPo _ _ ?_⟩
  exact ⟨rfl, rfl⟩

set_option maxRecDepth 100000 in
set_option maxHeartbeats 4000000 in
theorem c_X4_alternativeTenths (LP AL : Nat → Nat) (ru le : Nat) (PH TE LD : Nat → Nat) (kn : Bool) (l a : Nat) (hl : l < 60) (ha : a < 8) : CT mX4_alternativeTenths 0 0 [.ref 0, vI (l : Int), vI (a : Int)] [ob 4 [.ref 1, .ref 2, vI (ru : Int), vI (le : Int), .ref 3, .ref 4, .ref 5, vZ kn], cN 60 LP, cN 60 AL, cN 480 PH, cN 480 TE, cK 60 LD] (fun r w => r = some (vI (TE (8 * l + a) : Nat)) ∧ w = [ob 4 [.ref 1, .ref 2, vI (ru : Int), vI (le : Int), .ref 3, .ref 4, .ref 5, vZ kn], cN 60 LP, cN 60 AL, cN 480 PH, cN 480 TE, cK 60 LD]) := by
  refine CT.intro rfl (Nat.le_of_ble_eq_true rfl) ?_
  generalize hPost : (fun r w => r = some (vI (TE (8 * l + a) : Nat)) ∧ w = [ob 4 [.ref 1, .ref 2, vI (ru : Int), vI (le : Int), .ref 3, .ref 4, .ref 5, vZ kn], cN 60 LP, cN 60 AL, cN 480 PH, cN 480 TE, cK 60 LD] : MP) = Post
  have hPo : ∀ rr ww, (fun r w => r = some (vI (TE (8 * l + a) : Nat)) ∧ w = [ob 4 [.ref 1, .ref 2, vI (ru : Int), vI (le : Int), .ref 3, .ref 4, .ref 5, vZ kn], cN 60 LP, cN 60 AL, cN 480 PH, cN 480 TE, cK 60 LD] : MP) rr ww → Post rr ww := by rw [← hPost]; exact fun _ _ h => h
  clear hPost
  show WM mX4_alternativeTenths 0 0 Post 6 0 [(0, .ref 0), (1, vI (l : Int)), (2, vI (a : Int))] [] [ob 4 [.ref 1, .ref 2, vI (ru : Int), vI (le : Int), .ref 3, .ref 4, .ref 5, vZ kn], cN 60 LP, cN 60 AL, cN 480 PH, cN 480 TE, cK 60 LD] 0 0
  refine sq_ok rfl [(.aload_n 0, 0, 0, 0), (.getfield 21, 4, 5, 0), (.iload_n 1, 0, 0, 0), (.bipush 8, 0, 0, 0), (.imul, 0, 0, 0), (.iload_n 2, 0, 0, 0), (.iadd, 0, 0, 0), (.iaload, 0, 0, 0), (.ireturn, 0, 0, 0)] 0 _ _ _ _ _ (by decide +kernel) ?_
  show ∃ j10 : Nat, mj 480 (((kI (l : Int)) * (kI 8)) + (kI (a : Int))) j10 ∧ ((0 ≤ 0 ∧ 0 ≤ 0) ∧ Post (some (vI ((TE j10 : Nat) : Int))) [ob 4 [.ref 1, .ref 2, vI (ru : Int), vI (le : Int), .ref 3, .ref 4, .ref 5, vZ kn], cN 60 LP, cN 60 AL, cN 480 PH, cN 480 TE, cK 60 LD])
  refine ⟨(8 * l + a), ⟨by omega, by omega, by rw [kI_mul, kI_add]; congr 1; omega⟩, ?_⟩
  refine ⟨⟨Nat.le_refl _, Nat.le_refl _⟩, hPo _ _ ?_⟩
  exact ⟨rfl, rfl⟩

set_option maxRecDepth 100000 in
set_option maxHeartbeats 4000000 in
theorem c_X4_copyOf (LP AL : Nat → Nat) (ru le : Nat) (PH TE LD : Nat → Nat) (kn : Bool) (LP2 AL2 : Nat → Nat) (ru2 le2 : Nat) (PH2 TE2 LD2 : Nat → Nat) (kn2 : Bool) (hle : le2 ≤ 60) : CT mX4_copyOf 0 0 [.ref 0, .ref 6] [ob 4 [.ref 1, .ref 2, vI (ru : Int), vI (le : Int), .ref 3, .ref 4, .ref 5, vZ kn], cN 60 LP, cN 60 AL, cN 480 PH, cN 480 TE, cK 60 LD, ob 4 [.ref 7, .ref 8, vI (ru2 : Int), vI (le2 : Int), .ref 9, .ref 10, .ref 11, vZ kn2], cN 60 LP2, cN 60 AL2, cN 480 PH2, cN 480 TE2, cK 60 LD2] (fun r w => r = none ∧ w = [ob 4 [.ref 1, .ref 2, vI (ru2 : Int), vI (le2 : Int), .ref 3, .ref 4, .ref 5, vZ false], cN 60 (va_cpy LP2 LP 0 0 le2), cN 60 (va_cpy AL2 AL 0 0 le2), cN 480 (va_cpy PH2 PH 0 0 (le2 * 8)), cN 480 (va_cpy TE2 TE 0 0 (le2 * 8)), cK 60 LD, ob 4 [.ref 7, .ref 8, vI (ru2 : Int), vI (le2 : Int), .ref 9, .ref 10, .ref 11, vZ kn2], cN 60 LP2, cN 60 AL2, cN 480 PH2, cN 480 TE2, cK 60 LD2]) := by
  refine CT.intro rfl (Nat.le_of_ble_eq_true rfl) ?_
  generalize hPost : (fun r w => r = none ∧ w = [ob 4 [.ref 1, .ref 2, vI (ru2 : Int), vI (le2 : Int), .ref 3, .ref 4, .ref 5, vZ false], cN 60 (va_cpy LP2 LP 0 0 le2), cN 60 (va_cpy AL2 AL 0 0 le2), cN 480 (va_cpy PH2 PH 0 0 (le2 * 8)), cN 480 (va_cpy TE2 TE 0 0 (le2 * 8)), cK 60 LD, ob 4 [.ref 7, .ref 8, vI (ru2 : Int), vI (le2 : Int), .ref 9, .ref 10, .ref 11, vZ kn2], cN 60 LP2, cN 60 AL2, cN 480 PH2, cN 480 TE2, cK 60 LD2] : MP) = Post
  have hPo : ∀ rr ww, (fun r w => r = none ∧ w = [ob 4 [.ref 1, .ref 2, vI (ru2 : Int), vI (le2 : Int), .ref 3, .ref 4, .ref 5, vZ false], cN 60 (va_cpy LP2 LP 0 0 le2), cN 60 (va_cpy AL2 AL 0 0 le2), cN 480 (va_cpy PH2 PH 0 0 (le2 * 8)), cN 480 (va_cpy TE2 TE 0 0 (le2 * 8)), cK 60 LD, ob 4 [.ref 7, .ref 8, vI (ru2 : Int), vI (le2 : Int), .ref 9, .ref 10, .ref 11, vZ kn2], cN 60 LP2, cN 60 AL2, cN 480 PH2, cN 480 TE2, cK 60 LD2] : MP) rr ww → Post rr ww := by rw [← hPost]; exact fun _ _ h => h
  clear hPost
  show WM mX4_copyOf 0 0 Post 12 0 [(0, .ref 0), (1, .ref 6)] [] [ob 4 [.ref 1, .ref 2, vI (ru : Int), vI (le : Int), .ref 3, .ref 4, .ref 5, vZ kn], cN 60 LP, cN 60 AL, cN 480 PH, cN 480 TE, cK 60 LD, ob 4 [.ref 7, .ref 8, vI (ru2 : Int), vI (le2 : Int), .ref 9, .ref 10, .ref 11, vZ kn2], cN 60 LP2, cN 60 AL2, cN 480 PH2, cN 480 TE2, cK 60 LD2] 0 0
  refine sq_ok rfl [(.aload_n 0, 0, 0, 0), (.aload_n 1, 0, 0, 0), (.getfield 32, 4, 2, 0), (.putfield 32, 4, 2, 0), (.aload_n 0, 0, 0, 0), (.aload_n 1, 0, 0, 0), (.getfield 36, 4, 3, 0), (.putfield 36, 4, 3, 0), (.aload_n 0, 0, 0, 0), (.iconst 0, 0, 0, 0), (.putfield 39, 4, 7, 0), (.aload_n 1, 0, 0, 0), (.getfield 9, 4, 0, 0), (.iconst 0, 0, 0, 0), (.aload_n 0, 0, 0, 0), (.getfield 9, 4, 0, 0), (.iconst 0, 0, 0, 0), (.aload_n 0, 0, 0, 0), (.getfield 36, 4, 3, 0)] 0 _ _ _ _ _ (by decide +kernel) ?_
  show (narrow .boolean (.int (kI 0)) = .int (kI 0) ∧ fits .boolean (.int (kI 0)) = true) ∧ WM mX4_copyOf 0 0 Post 12 35 [(0, .ref 0), (1, .ref 6)] [vI (le2 : Int), vI 0, .ref 1, vI 0, .ref 7] [ob 4 [.ref 1, .ref 2, vI (ru2 : Int), vI (le2 : Int), .ref 3, .ref 4, .ref 5, vZ false], cN 60 LP, cN 60 AL, cN 480 PH, cN 480 TE, cK 60 LD, ob 4 [.ref 7, .ref 8, vI (ru2 : Int), vI (le2 : Int), .ref 9, .ref 10, .ref 11, vZ kn2], cN 60 LP2, cN 60 AL2, cN 480 PH2, cN 480 TE2, cK 60 LD2] 0 0
  refine ⟨bI_fits false, ?_⟩
  refine wm_copy (by decide +kernel) kX4_43 (m0 := 60) (m1 := 60) rfl rfl (by decide) (by decide) (by rw [kI_nat]; exact nI_pos (by omega)) (by rw [kI_nat, nI_clamp (by omega)]; show 0 + _ ≤ _; omega) (by rw [kI_nat, nI_clamp (by omega)]; show 0 + _ ≤ _; omega) ⟨Nat.le_of_ble_eq_true rfl, Nat.le_of_ble_eq_true rfl⟩ ?_
  have ec1 : (kI (le2 : Int)).toNatClampNeg = le2 := by rw [kI_nat]; exact nI_clamp (by omega)
  rw [ec1, cpy_N]
  show WM mX4_copyOf 0 0 Post 12 38 [(0, .ref 0), (1, .ref 6)] [] [ob 4 [.ref 1, .ref 2, vI (ru2 : Int), vI (le2 : Int), .ref 3, .ref 4, .ref 5, vZ false], cN 60 (va_cpy LP2 LP 0 0 le2), cN 60 AL, cN 480 PH, cN 480 TE, cK 60 LD, ob 4 [.ref 7, .ref 8, vI (ru2 : Int), vI (le2 : Int), .ref 9, .ref 10, .ref 11, vZ kn2], cN 60 LP2, cN 60 AL2, cN 480 PH2, cN 480 TE2, cK 60 LD2] 0 0
  refine sq_ok rfl [(.aload_n 1, 0, 0, 0), (.getfield 15, 4, 1, 0), (.iconst 0, 0, 0, 0), (.aload_n 0, 0, 0, 0), (.getfield 15, 4, 1, 0), (.iconst 0, 0, 0, 0), (.aload_n 0, 0, 0, 0), (.getfield 36, 4, 3, 0)] 38 _ _ _ _ _ (by decide +kernel) ?_
  show WM mX4_copyOf 0 0 Post 12 52 [(0, .ref 0), (1, .ref 6)] [vI (le2 : Int), vI 0, .ref 2, vI 0, .ref 8] [ob 4 [.ref 1, .ref 2, vI (ru2 : Int), vI (le2 : Int), .ref 3, .ref 4, .ref 5, vZ false], cN 60 (va_cpy LP2 LP 0 0 le2), cN 60 AL, cN 480 PH, cN 480 TE, cK 60 LD, ob 4 [.ref 7, .ref 8, vI (ru2 : Int), vI (le2 : Int), .ref 9, .ref 10, .ref 11, vZ kn2], cN 60 LP2, cN 60 AL2, cN 480 PH2, cN 480 TE2, cK 60 LD2] 0 0
  refine wm_copy (by decide +kernel) kX4_43 (m0 := 60) (m1 := 60) rfl rfl (by decide) (by decide) (by rw [kI_nat]; exact nI_pos (by omega)) (by rw [kI_nat, nI_clamp (by omega)]; show 0 + _ ≤ _; omega) (by rw [kI_nat, nI_clamp (by omega)]; show 0 + _ ≤ _; omega) ⟨Nat.le_of_ble_eq_true rfl, Nat.le_of_ble_eq_true rfl⟩ ?_
  have ec2 : (kI (le2 : Int)).toNatClampNeg = le2 := by rw [kI_nat]; exact nI_clamp (by omega)
  rw [ec2, cpy_N]
  show WM mX4_copyOf 0 0 Post 12 55 [(0, .ref 0), (1, .ref 6)] [] [ob 4 [.ref 1, .ref 2, vI (ru2 : Int), vI (le2 : Int), .ref 3, .ref 4, .ref 5, vZ false], cN 60 (va_cpy LP2 LP 0 0 le2), cN 60 (va_cpy AL2 AL 0 0 le2), cN 480 PH, cN 480 TE, cK 60 LD, ob 4 [.ref 7, .ref 8, vI (ru2 : Int), vI (le2 : Int), .ref 9, .ref 10, .ref 11, vZ kn2], cN 60 LP2, cN 60 AL2, cN 480 PH2, cN 480 TE2, cK 60 LD2] 0 0
  refine sq_ok rfl [(.aload_n 1, 0, 0, 0), (.getfield 18, 4, 4, 0), (.iconst 0, 0, 0, 0), (.aload_n 0, 0, 0, 0), (.getfield 18, 4, 4, 0), (.iconst 0, 0, 0, 0), (.aload_n 0, 0, 0, 0), (.getfield 36, 4, 3, 0), (.bipush 8, 0, 0, 0), (.imul, 0, 0, 0)] 55 _ _ _ _ _ (by decide +kernel) ?_
  show WM mX4_copyOf 0 0 Post 12 72 [(0, .ref 0), (1, .ref 6)] [.int ((kI (le2 : Int)) * (kI 8)), vI 0, .ref 3, vI 0, .ref 9] [ob 4 [.ref 1, .ref 2, vI (ru2 : Int), vI (le2 : Int), .ref 3, .ref 4, .ref 5, vZ false], cN 60 (va_cpy LP2 LP 0 0 le2), cN 60 (va_cpy AL2 AL 0 0 le2), cN 480 PH, cN 480 TE, cK 60 LD, ob 4 [.ref 7, .ref 8, vI (ru2 : Int), vI (le2 : Int), .ref 9, .ref 10, .ref 11, vZ kn2], cN 60 LP2, cN 60 AL2, cN 480 PH2, cN 480 TE2, cK 60 LD2] 0 0
  have e1 : ((kI (le2 : Int)) * (kI 8)) = kI ((le2 : Int) * 8) := by simp only [kI_add, kI_sub, kI_mul]
  rw [e1]
  refine wm_copy (by decide +kernel) kX4_43 (m0 := 480) (m1 := 480) rfl rfl (by decide) (by decide) (by rw [show ((le2 : Int) * 8) = ((le2 * 8 : Nat) : Int) from rfl, kI_nat]; exact nI_pos (by omega)) (by rw [show ((le2 : Int) * 8) = ((le2 * 8 : Nat) : Int) from rfl, kI_nat, nI_clamp (by omega)]; show 0 + _ ≤ _; omega) (by rw [show ((le2 : Int) * 8) = ((le2 * 8 : Nat) : Int) from rfl, kI_nat, nI_clamp (by omega)]; show 0 + _ ≤ _; omega) ⟨Nat.le_of_ble_eq_true rfl, Nat.le_of_ble_eq_true rfl⟩ ?_
  have ec3 : (kI ((le2 : Int) * 8)).toNatClampNeg = (le2 * 8) := by rw [show ((le2 : Int) * 8) = ((le2 * 8 : Nat) : Int) from rfl, kI_nat]; exact nI_clamp (by omega)
  rw [ec3, cpy_N]
  show WM mX4_copyOf 0 0 Post 12 75 [(0, .ref 0), (1, .ref 6)] [] [ob 4 [.ref 1, .ref 2, vI (ru2 : Int), vI (le2 : Int), .ref 3, .ref 4, .ref 5, vZ false], cN 60 (va_cpy LP2 LP 0 0 le2), cN 60 (va_cpy AL2 AL 0 0 le2), cN 480 (va_cpy PH2 PH 0 0 (le2 * 8)), cN 480 TE, cK 60 LD, ob 4 [.ref 7, .ref 8, vI (ru2 : Int), vI (le2 : Int), .ref 9, .ref 10, .ref 11, vZ kn2], cN 60 LP2, cN 60 AL2, cN 480 PH2, cN 480 TE2, cK 60 LD2] 0 0
  refine sq_ok rfl [(.aload_n 1, 0, 0, 0), (.getfield 21, 4, 5, 0), (.iconst 0, 0, 0, 0), (.aload_n 0, 0, 0, 0), (.getfield 21, 4, 5, 0), (.iconst 0, 0, 0, 0), (.aload_n 0, 0, 0, 0), (.getfield 36, 4, 3, 0), (.bipush 8, 0, 0, 0), (.imul, 0, 0, 0)] 75 _ _ _ _ _ (by decide +kernel) ?_
  show WM mX4_copyOf 0 0 Post 12 92 [(0, .ref 0), (1, .ref 6)] [.int ((kI (le2 : Int)) * (kI 8)), vI 0, .ref 4, vI 0, .ref 10] [ob 4 [.ref 1, .ref 2, vI (ru2 : Int), vI (le2 : Int), .ref 3, .ref 4, .ref 5, vZ false], cN 60 (va_cpy LP2 LP 0 0 le2), cN 60 (va_cpy AL2 AL 0 0 le2), cN 480 (va_cpy PH2 PH 0 0 (le2 * 8)), cN 480 TE, cK 60 LD, ob 4 [.ref 7, .ref 8, vI (ru2 : Int), vI (le2 : Int), .ref 9, .ref 10, .ref 11, vZ kn2], cN 60 LP2, cN 60 AL2, cN 480 PH2, cN 480 TE2, cK 60 LD2] 0 0
  have e2 : ((kI (le2 : Int)) * (kI 8)) = kI ((le2 : Int) * 8) := by simp only [kI_add, kI_sub, kI_mul]
  rw [e2]
  refine wm_copy (by decide +kernel) kX4_43 (m0 := 480) (m1 := 480) rfl rfl (by decide) (by decide) (by rw [show ((le2 : Int) * 8) = ((le2 * 8 : Nat) : Int) from rfl, kI_nat]; exact nI_pos (by omega)) (by rw [show ((le2 : Int) * 8) = ((le2 * 8 : Nat) : Int) from rfl, kI_nat, nI_clamp (by omega)]; show 0 + _ ≤ _; omega) (by rw [show ((le2 : Int) * 8) = ((le2 * 8 : Nat) : Int) from rfl, kI_nat, nI_clamp (by omega)]; show 0 + _ ≤ _; omega) ⟨Nat.le_of_ble_eq_true rfl, Nat.le_of_ble_eq_true rfl⟩ ?_
  have ec4 : (kI ((le2 : Int) * 8)).toNatClampNeg = (le2 * 8) := by rw [show ((le2 : Int) * 8) = ((le2 * 8 : Nat) : Int) from rfl, kI_nat]; exact nI_clamp (by omega)
  rw [ec4, cpy_N]
  show WM mX4_copyOf 0 0 Post 12 95 [(0, .ref 0), (1, .ref 6)] [] [ob 4 [.ref 1, .ref 2, vI (ru2 : Int), vI (le2 : Int), .ref 3, .ref 4, .ref 5, vZ false], cN 60 (va_cpy LP2 LP 0 0 le2), cN 60 (va_cpy AL2 AL 0 0 le2), cN 480 (va_cpy PH2 PH 0 0 (le2 * 8)), cN 480 (va_cpy TE2 TE 0 0 (le2 * 8)), cK 60 LD, ob 4 [.ref 7, .ref 8, vI (ru2 : Int), vI (le2 : Int), .ref 9, .ref 10, .ref 11, vZ kn2], cN 60 LP2, cN 60 AL2, cN 480 PH2, cN 480 TE2, cK 60 LD2] 0 0
  refine sq_ok rfl [(.return_, 0, 0, 0)] 95 _ _ _ _ _ (by decide +kernel) ?_
  show ((0 ≤ 0 ∧ 0 ≤ 0) ∧ Post none [ob 4 [.ref 1, .ref 2, vI (ru2 : Int), vI (le2 : Int), .ref 3, .ref 4, .ref 5, vZ false], cN 60 (va_cpy LP2 LP 0 0 le2), cN 60 (va_cpy AL2 AL 0 0 le2), cN 480 (va_cpy PH2 PH 0 0 (le2 * 8)), cN 480 (va_cpy TE2 TE 0 0 (le2 * 8)), cK 60 LD, ob 4 [.ref 7, .ref 8, vI (ru2 : Int), vI (le2 : Int), .ref 9, .ref 10, .ref 11, vZ kn2], cN 60 LP2, cN 60 AL2, cN 480 PH2, cN 480 TE2, cK 60 LD2])
  refine ⟨⟨Nat.le_refl _, Nat.le_refl _⟩, hPo _ _ ?_⟩
  exact ⟨rfl, rfl⟩

set_option maxRecDepth 100000 in
set_option maxHeartbeats 4000000 in
theorem c_X4_findLeft (LP AL : Nat → Nat) (ru le : Nat) (PH TE LD : Nat → Nat) (kn : Bool) (hle : le ≤ 60) (hLP : ∀ j, j < le → LP j < 4294967296) (p : Nat) (hp : p < 4294967296) : CT mX4_findLeft 0 0 [.ref 0, vI (p : Int)] [ob 4 [.ref 1, .ref 2, vI (ru : Int), vI (le : Int), .ref 3, .ref 4, .ref 5, vZ kn], cN 60 LP, cN 60 AL, cN 480 PH, cN 480 TE, cK 60 LD] (fun r w => r = some (vI (oI (fnd (fun k => LP k == p) le))) ∧ w = [ob 4 [.ref 1, .ref 2, vI (ru : Int), vI (le : Int), .ref 3, .ref 4, .ref 5, vZ kn], cN 60 LP, cN 60 AL, cN 480 PH, cN 480 TE, cK 60 LD]) := by
  refine CT.intro rfl (Nat.le_of_ble_eq_true rfl) ?_
  generalize hPost : (fun r w => r = some (vI (oI (fnd (fun k => LP k == p) le))) ∧ w = [ob 4 [.ref 1, .ref 2, vI (ru : Int), vI (le : Int), .ref 3, .ref 4, .ref 5, vZ kn], cN 60 LP, cN 60 AL, cN 480 PH, cN 480 TE, cK 60 LD] : MP) = Post
  have hPo : ∀ rr ww, (fun r w => r = some (vI (oI (fnd (fun k => LP k == p) le))) ∧ w = [ob 4 [.ref 1, .ref 2, vI (ru : Int), vI (le : Int), .ref 3, .ref 4, .ref 5, vZ kn], cN 60 LP, cN 60 AL, cN 480 PH, cN 480 TE, cK 60 LD] : MP) rr ww → Post rr ww := by rw [← hPost]; exact fun _ _ h => h
  clear hPost
  show WM mX4_findLeft 0 0 Post 6 0 [(0, .ref 0), (1, vI (p : Int))] [] [ob 4 [.ref 1, .ref 2, vI (ru : Int), vI (le : Int), .ref 3, .ref 4, .ref 5, vZ kn], cN 60 LP, cN 60 AL, cN 480 PH, cN 480 TE, cK 60 LD] 0 0
  refine sq_ok rfl [(.iconst 0, 0, 0, 0), (.istore_n 2, 0, 0, 0)] 0 _ _ _ _ _ (by decide +kernel) ?_
  show WM mX4_findLeft 0 0 Post 6 2 [(0, .ref 0), (1, vI (p : Int)), (2, vI 0)] [] [ob 4 [.ref 1, .ref 2, vI (ru : Int), vI (le : Int), .ref 3, .ref 4, .ref 5, vZ kn], cN 60 LP, cN 60 AL, cN 480 PH, cN 480 TE, cK 60 LD] 0 0
  have lp2 : ∀ (n2 : Nat) (k : Nat), (k ≤ le) → (∀ j, j < k → (LP j == p) = false) → (le - k) < n2 → WM mX4_findLeft 0 0 Post 6 2 [(0, .ref 0), (1, vI (p : Int)), (2, vI (k : Int))] [] [ob 4 [.ref 1, .ref 2, vI (ru : Int), vI (le : Int), .ref 3, .ref 4, .ref 5, vZ kn], cN 60 LP, cN 60 AL, cN 480 PH, cN 480 TE, cK 60 LD] 0 0 := by
    intro n2
    induction n2 with
    | zero => intro k hk hq hm; exact absurd hm (Nat.not_lt_zero _)
    | succ n2 ih2 =>
      intro k hk hq hm2
      refine sq_ok rfl [(.iload_n 2, 0, 0, 0), (.aload_n 0, 0, 0, 0), (.getfield 36, 4, 3, 0), (.if_icmp .ge 21, 0, 0, 0)] 2 _ _ _ _ _ (by decide +kernel) ?_
      show (kI (le : Int) ≤ kI (k : Int) → WM mX4_findLeft 0 0 Post 6 28 [(0, .ref 0), (1, vI (p : Int)), (2, vI (k : Int))] [] [ob 4 [.ref 1, .ref 2, vI (ru : Int), vI (le : Int), .ref 3, .ref 4, .ref 5, vZ kn], cN 60 LP, cN 60 AL, cN 480 PH, cN 480 TE, cK 60 LD] 0 0) ∧ (¬ kI (le : Int) ≤ kI (k : Int) → WM mX4_findLeft 0 0 Post 6 10 [(0, .ref 0), (1, vI (p : Int)), (2, vI (k : Int))] [] [ob 4 [.ref 1, .ref 2, vI (ru : Int), vI (le : Int), .ref 3, .ref 4, .ref 5, vZ kn], cN 60 LP, cN 60 AL, cN 480 PH, cN 480 TE, cK 60 LD] 0 0)
      refine ⟨fun c7 => ?_, fun c7 => ?_⟩
      · 
        rw [kI_le (by omega)] at c7
        refine sq_ok rfl [(.bipush (-2), 0, 0, 0), (.ireturn, 0, 0, 0)] 28 _ _ _ _ _ (by decide +kernel) ?_
        show ((0 ≤ 0 ∧ 0 ≤ 0) ∧ Post (some (vI (-2))) [ob 4 [.ref 1, .ref 2, vI (ru : Int), vI (le : Int), .ref 3, .ref 4, .ref 5, vZ kn], cN 60 LP, cN 60 AL, cN 480 PH, cN 480 TE, cK 60 LD])
        refine ⟨⟨Nat.le_refl _, Nat.le_refl _⟩, hPo _ _ ?_⟩
        exact ⟨by rw [fnd_none (p := fun k => LP k == p) (fun j hj => hq j (by omega))]; rfl, rfl⟩
      · 
        rw [kI_le (by omega)] at c7
        have hck := hLP k (by omega)
        refine sq_ok rfl [(.aload_n 0, 0, 0, 0), (.getfield 9, 4, 0, 0), (.iload_n 2, 0, 0, 0), (.iaload, 0, 0, 0), (.iload_n 1, 0, 0, 0), (.if_icmp .ne 5, 0, 0, 0)] 10 _ _ _ _ _ (by decide +kernel) ?_
        show ∃ j15 : Nat, mj 60 (kI (k : Int)) j15 ∧ (¬ kI ((LP j15 : Nat) : Int) = kI (p : Int) → WM mX4_findLeft 0 0 Post 6 22 [(0, .ref 0), (1, vI (p : Int)), (2, vI (k : Int))] [] [ob 4 [.ref 1, .ref 2, vI (ru : Int), vI (le : Int), .ref 3, .ref 4, .ref 5, vZ kn], cN 60 LP, cN 60 AL, cN 480 PH, cN 480 TE, cK 60 LD] 0 0) ∧ (kI ((LP j15 : Nat) : Int) = kI (p : Int) → WM mX4_findLeft 0 0 Post 6 20 [(0, .ref 0), (1, vI (p : Int)), (2, vI (k : Int))] [] [ob 4 [.ref 1, .ref 2, vI (ru : Int), vI (le : Int), .ref 3, .ref 4, .ref 5, vZ kn], cN 60 LP, cN 60 AL, cN 480 PH, cN 480 TE, cK 60 LD] 0 0)
        refine ⟨k, ⟨by omega, by omega, rfl⟩, ?_⟩
        refine ⟨fun c17 => ?_, fun c17 => ?_⟩
        · 
          rw [kI_eqU hck hp] at c17
          refine sq_ok rfl [(.iinc 2 1, 0, 0, 0), (.goto (-23), 0, 0, 0)] 22 _ _ _ _ _ (by decide +kernel) ?_
          show WM mX4_findLeft 0 0 Post 6 2 [(0, .ref 0), (1, vI (p : Int)), (2, .int ((kI (k : Int)) + (kI 1)))] [] [ob 4 [.ref 1, .ref 2, vI (ru : Int), vI (le : Int), .ref 3, .ref 4, .ref 5, vZ kn], cN 60 LP, cN 60 AL, cN 480 PH, cN 480 TE, cK 60 LD] 0 0
          have e3 : ((kI (k : Int)) + (kI 1)) = kI ((k : Int) + 1) := by simp only [kI_add, kI_sub, kI_mul]
          rw [e3]
          exact WM.pick [0, 1, 2] rfl (ih2 (k + 1) (by omega) (fun j hj => by rcases Nat.lt_succ_iff_lt_or_eq.mp hj with h | h; exact hq j h; subst h; simp [c17]) (by omega))
        · 
          rw [kI_eqU hck hp] at c17
          refine sq_ok rfl [(.iload_n 2, 0, 0, 0), (.ireturn, 0, 0, 0)] 20 _ _ _ _ _ (by decide +kernel) ?_
          show ((0 ≤ 0 ∧ 0 ≤ 0) ∧ Post (some (vI (k : Int))) [ob 4 [.ref 1, .ref 2, vI (ru : Int), vI (le : Int), .ref 3, .ref 4, .ref 5, vZ kn], cN 60 LP, cN 60 AL, cN 480 PH, cN 480 TE, cK 60 LD])
          refine ⟨⟨Nat.le_refl _, Nat.le_refl _⟩, hPo _ _ ?_⟩
          exact ⟨by rw [fnd_some (p := fun k => LP k == p) (k := k) (by omega) (by simp [c17]) hq]; rfl, rfl⟩
  exact WM.pick [0, 1, 2] rfl (lp2 _ 0 (by omega) (fun j hj => absurd hj (Nat.not_lt_zero _)) (Nat.lt_succ_self _))

set_option maxRecDepth 100000 in
set_option maxHeartbeats 4000000 in
theorem c_X4_takeLeft (LP AL : Nat → Nat) (ru le : Nat) (PH TE LD : Nat → Nat) (kn : Bool) (hle : le ≤ 60) (hLP : ∀ j, j < le → LP j < 4294967296) (p : Nat) (hp : p < 4294967296) : CT mX4_takeLeft 0 0 [.ref 0, vI (p : Int)] [ob 4 [.ref 1, .ref 2, vI (ru : Int), vI (le : Int), .ref 3, .ref 4, .ref 5, vZ kn], cN 60 LP, cN 60 AL, cN 480 PH, cN 480 TE, cK 60 LD] (fun r w => (∃ k : Nat, (fnd (fun k => LP k == p) le) = some k ∧ r = some (vI (k : Int)) ∧ w = [ob 4 [.ref 1, .ref 2, vI (ru : Int), vI (le : Int), .ref 3, .ref 4, .ref 5, vZ kn], cN 60 LP, cN 60 AL, cN 480 PH, cN 480 TE, cK 60 LD]) ∨ ((fnd (fun k => LP k == p) le) = none ∧ ((¬ le < 60 ∧ r = some (vI (-2)) ∧ w = [ob 4 [.ref 1, .ref 2, vI (ru : Int), vI (le : Int), .ref 3, .ref 4, .ref 5, vZ kn], cN 60 LP, cN 60 AL, cN 480 PH, cN 480 TE, cK 60 LD]) ∨ (le < 60 ∧ r = some (vI (le : Int)) ∧ w = [ob 4 [.ref 1, .ref 2, vI (ru : Int), vI (((le + 1) : Nat) : Int), .ref 3, .ref 4, .ref 5, vZ kn], cN 60 (va_up LP le p), cN 60 (va_up AL le 0), cN 480 PH, cN 480 TE, cK 60 LD])))) := by
  refine CT.intro rfl (Nat.le_of_ble_eq_true rfl) ?_
  generalize hPost : (fun r w => (∃ k : Nat, (fnd (fun k => LP k == p) le) = some k ∧ r = some (vI (k : Int)) ∧ w = [ob 4 [.ref 1, .ref 2, vI (ru : Int), vI (le : Int), .ref 3, .ref 4, .ref 5, vZ kn], cN 60 LP, cN 60 AL, cN 480 PH, cN 480 TE, cK 60 LD]) ∨ ((fnd (fun k => LP k == p) le) = none ∧ ((¬ le < 60 ∧ r = some (vI (-2)) ∧ w = [ob 4 [.ref 1, .ref 2, vI (ru : Int), vI (le : Int), .ref 3, .ref 4, .ref 5, vZ kn], cN 60 LP, cN 60 AL, cN 480 PH, cN 480 TE, cK 60 LD]) ∨ (le < 60 ∧ r = some (vI (le : Int)) ∧ w = [ob 4 [.ref 1, .ref 2, vI (ru : Int), vI (((le + 1) : Nat) : Int), .ref 3, .ref 4, .ref 5, vZ kn], cN 60 (va_up LP le p), cN 60 (va_up AL le 0), cN 480 PH, cN 480 TE, cK 60 LD]))) : MP) = Post
  have hPo : ∀ rr ww, (fun r w => (∃ k : Nat, (fnd (fun k => LP k == p) le) = some k ∧ r = some (vI (k : Int)) ∧ w = [ob 4 [.ref 1, .ref 2, vI (ru : Int), vI (le : Int), .ref 3, .ref 4, .ref 5, vZ kn], cN 60 LP, cN 60 AL, cN 480 PH, cN 480 TE, cK 60 LD]) ∨ ((fnd (fun k => LP k == p) le) = none ∧ ((¬ le < 60 ∧ r = some (vI (-2)) ∧ w = [ob 4 [.ref 1, .ref 2, vI (ru : Int), vI (le : Int), .ref 3, .ref 4, .ref 5, vZ kn], cN 60 LP, cN 60 AL, cN 480 PH, cN 480 TE, cK 60 LD]) ∨ (le < 60 ∧ r = some (vI (le : Int)) ∧ w = [ob 4 [.ref 1, .ref 2, vI (ru : Int), vI (((le + 1) : Nat) : Int), .ref 3, .ref 4, .ref 5, vZ kn], cN 60 (va_up LP le p), cN 60 (va_up AL le 0), cN 480 PH, cN 480 TE, cK 60 LD]))) : MP) rr ww → Post rr ww := by rw [← hPost]; exact fun _ _ h => h
  clear hPost
  show WM mX4_takeLeft 0 0 Post 6 0 [(0, .ref 0), (1, vI (p : Int))] [] [ob 4 [.ref 1, .ref 2, vI (ru : Int), vI (le : Int), .ref 3, .ref 4, .ref 5, vZ kn], cN 60 LP, cN 60 AL, cN 480 PH, cN 480 TE, cK 60 LD] 0 0
  refine sq_ok rfl [(.aload_n 0, 0, 0, 0), (.iload_n 1, 0, 0, 0)] 0 _ _ _ _ _ (by decide +kernel) ?_
  show WM mX4_takeLeft 0 0 Post 6 2 [(0, .ref 0), (1, vI (p : Int))] [vI (p : Int), .ref 0] [ob 4 [.ref 1, .ref 2, vI (ru : Int), vI (le : Int), .ref 3, .ref 4, .ref 5, vZ kn], cN 60 LP, cN 60 AL, cN 480 PH, cN 480 TE, cK 60 LD] 0 0
  refine wm_callV mX4_findLeft [0, 1, 2, 3, 4, 5] (pc := 2) (rest := []) (mc' := 0) (ms' := 0) (by decide +kernel) kX4_77 (c_X4_findLeft LP AL ru le PH TE LD kn hle hLP p hp) rfl rfl ⟨_, rfl, rfl⟩ ⟨Nat.le_of_ble_eq_true rfl, Nat.le_of_ble_eq_true rfl⟩ ⟨Nat.le_of_ble_eq_true rfl, Nat.le_of_ble_eq_true rfl⟩ (Nat.le_of_ble_eq_true rfl) rfl rfl (Nat.le_of_ble_eq_true rfl) rfl ?_
  rintro _ _ ⟨rfl, rfl⟩
  show WM mX4_takeLeft 0 0 Post 6 5 [(0, .ref 0), (1, vI (p : Int))] [vI (oI (fnd (fun k => LP k == p) le))] [ob 4 [.ref 1, .ref 2, vI (ru : Int), vI (le : Int), .ref 3, .ref 4, .ref 5, vZ kn], cN 60 LP, cN 60 AL, cN 480 PH, cN 480 TE, cK 60 LD] 0 0
  have hRf := oI_Rf (p := fun k => LP k == p) (n := le) (by omega)
  refine sq_ok rfl [(.istore_n 2, 0, 0, 0), (.iload_n 2, 0, 0, 0), (.ifCond .lt 5, 0, 0, 0)] 5 _ _ _ _ _ (by decide +kernel) ?_
  show (kI (oI (fnd (fun k => LP k == p) le)) < kI 0 → WM mX4_takeLeft 0 0 Post 6 12 [(0, .ref 0), (1, vI (p : Int)), (2, vI (oI (fnd (fun k => LP k == p) le)))] [] [ob 4 [.ref 1, .ref 2, vI (ru : Int), vI (le : Int), .ref 3, .ref 4, .ref 5, vZ kn], cN 60 LP, cN 60 AL, cN 480 PH, cN 480 TE, cK 60 LD] 0 0) ∧ (¬ kI (oI (fnd (fun k => LP k == p) le)) < kI 0 → WM mX4_takeLeft 0 0 Post 6 10 [(0, .ref 0), (1, vI (p : Int)), (2, vI (oI (fnd (fun k => LP k == p) le)))] [] [ob 4 [.ref 1, .ref 2, vI (ru : Int), vI (le : Int), .ref 3, .ref 4, .ref 5, vZ kn], cN 60 LP, cN 60 AL, cN 480 PH, cN 480 TE, cK 60 LD] 0 0)
  refine ⟨fun c7 => ?_, fun c7 => ?_⟩
  · 
    rw [kI_lt (by omega)] at c7
    have hk1 := oI_neg (show ¬ 0 ≤ oI (fnd (fun k => LP k == p) le) by omega)
    refine sq_ok rfl [(.aload_n 0, 0, 0, 0), (.getfield 36, 4, 3, 0), (.bipush 60, 0, 0, 0), (.if_icmp .lt 6, 0, 0, 0)] 12 _ _ _ _ _ (by decide +kernel) ?_
    show (kI (le : Int) < kI 60 → WM mX4_takeLeft 0 0 Post 6 24 [(0, .ref 0), (1, vI (p : Int)), (2, vI (oI (fnd (fun k => LP k == p) le)))] [] [ob 4 [.ref 1, .ref 2, vI (ru : Int), vI (le : Int), .ref 3, .ref 4, .ref 5, vZ kn], cN 60 LP, cN 60 AL, cN 480 PH, cN 480 TE, cK 60 LD] 0 0) ∧ (¬ kI (le : Int) < kI 60 → WM mX4_takeLeft 0 0 Post 6 21 [(0, .ref 0), (1, vI (p : Int)), (2, vI (oI (fnd (fun k => LP k == p) le)))] [] [ob 4 [.ref 1, .ref 2, vI (ru : Int), vI (le : Int), .ref 3, .ref 4, .ref 5, vZ kn], cN 60 LP, cN 60 AL, cN 480 PH, cN 480 TE, cK 60 LD] 0 0)
    refine ⟨fun c18 => ?_, fun c18 => ?_⟩
    · 
      rw [kI_lt (by omega)] at c18
      refine sq_ok rfl [(.aload_n 0, 0, 0, 0), (.getfield 9, 4, 0, 0), (.aload_n 0, 0, 0, 0), (.getfield 36, 4, 3, 0), (.iload_n 1, 0, 0, 0), (.iastore, 0, 0, 0)] 24 _ _ _ _ _ (by decide +kernel) ?_
      show ∃ (j33 : Nat) (g33 : Nat → Int32), (mj 60 (kI (le : Int)) j33 ∧ g33 = upd (fun q => kI ((LP q : Nat) : Int)) j33 (kI (p : Int))) ∧ WM mX4_takeLeft 0 0 Post 6 34 [(0, .ref 0), (1, vI (p : Int)), (2, vI (oI (fnd (fun k => LP k == p) le)))] [] [ob 4 [.ref 1, .ref 2, vI (ru : Int), vI (le : Int), .ref 3, .ref 4, .ref 5, vZ kn], .inl (0, 60, .inl g33), cN 60 AL, cN 480 PH, cN 480 TE, cK 60 LD] 0 0
      refine ⟨le, fun q => kI (((va_up LP le p) q : Nat) : Int), ⟨⟨by omega, by omega, rfl⟩, st_N (rfl)⟩, ?_⟩
      refine sq_ok rfl [(.aload_n 0, 0, 0, 0), (.getfield 15, 4, 1, 0), (.aload_n 0, 0, 0, 0), (.getfield 36, 4, 3, 0), (.iconst 0, 0, 0, 0), (.iastore, 0, 0, 0)] 34 _ _ _ _ _ (by decide +kernel) ?_
      show ∃ (j43 : Nat) (g43 : Nat → Int32), (mj 60 (kI (le : Int)) j43 ∧ g43 = upd (fun q => kI ((AL q : Nat) : Int)) j43 (kI 0)) ∧ WM mX4_takeLeft 0 0 Post 6 44 [(0, .ref 0), (1, vI (p : Int)), (2, vI (oI (fnd (fun k => LP k == p) le)))] [] [ob 4 [.ref 1, .ref 2, vI (ru : Int), vI (le : Int), .ref 3, .ref 4, .ref 5, vZ kn], cN 60 (va_up LP le p), .inl (0, 60, .inl g43), cN 480 PH, cN 480 TE, cK 60 LD] 0 0
      refine ⟨le, fun q => kI (((va_up AL le 0) q : Nat) : Int), ⟨⟨by omega, by omega, rfl⟩, st_N (rfl)⟩, ?_⟩
      refine sq_ok rfl [(.aload_n 0, 0, 0, 0), (.dup, 0, 0, 0), (.getfield 36, 4, 3, 0), (.iconst 1, 0, 0, 0), (.iadd, 0, 0, 0), (.putfield 36, 4, 3, 0), (.aload_n 0, 0, 0, 0), (.getfield 36, 4, 3, 0), (.iconst 1, 0, 0, 0), (.isub, 0, 0, 0), (.ireturn, 0, 0, 0)] 44 _ _ _ _ _ (by decide +kernel) ?_
      show ((0 ≤ 0 ∧ 0 ≤ 0) ∧ Post (some (.int (((kI (le : Int)) + (kI 1)) - (kI 1)))) [ob 4 [.ref 1, .ref 2, vI (ru : Int), .int ((kI (le : Int)) + (kI 1)), .ref 3, .ref 4, .ref 5, vZ kn], cN 60 (va_up LP le p), cN 60 (va_up AL le 0), cN 480 PH, cN 480 TE, cK 60 LD])
      have e3 : (((kI (le : Int)) + (kI 1)) - (kI 1)) = kI (((le : Int) + 1) - 1) := by simp only [kI_add, kI_sub, kI_mul]
      rw [e3]
      have e4 : ((kI (le : Int)) + (kI 1)) = kI ((le : Int) + 1) := by simp only [kI_add, kI_sub, kI_mul]
      rw [e4]
      refine ⟨⟨Nat.le_refl _, Nat.le_refl _⟩, hPo _ _ ?_⟩
      exact Or.inr ⟨hk1, Or.inr ⟨by omega, by congr 3; omega, rfl⟩⟩
    · 
      rw [kI_lt (by omega)] at c18
      refine sq_ok rfl [(.bipush (-2), 0, 0, 0), (.ireturn, 0, 0, 0)] 21 _ _ _ _ _ (by decide +kernel) ?_
      show ((0 ≤ 0 ∧ 0 ≤ 0) ∧ Post (some (vI (-2))) [ob 4 [.ref 1, .ref 2, vI (ru : Int), vI (le : Int), .ref 3, .ref 4, .ref 5, vZ kn], cN 60 LP, cN 60 AL, cN 480 PH, cN 480 TE, cK 60 LD])
      refine ⟨⟨Nat.le_refl _, Nat.le_refl _⟩, hPo _ _ ?_⟩
      exact Or.inr ⟨hk1, Or.inl ⟨by omega, rfl, rfl⟩⟩
  · 
    rw [kI_lt (by omega)] at c7
    obtain ⟨kk, hk1, hk2⟩ := oI_pos (show 0 ≤ oI (fnd (fun k => LP k == p) le) by omega)
    refine sq_ok rfl [(.iload_n 2, 0, 0, 0), (.ireturn, 0, 0, 0)] 10 _ _ _ _ _ (by decide +kernel) ?_
    show ((0 ≤ 0 ∧ 0 ≤ 0) ∧ Post (some (vI (oI (fnd (fun k => LP k == p) le)))) [ob 4 [.ref 1, .ref 2, vI (ru : Int), vI (le : Int), .ref 3, .ref 4, .ref 5, vZ kn], cN 60 LP, cN 60 AL, cN 480 PH, cN 480 TE, cK 60 LD])
    refine ⟨⟨Nat.le_refl _, Nat.le_refl _⟩, hPo _ _ ?_⟩
    exact Or.inl ⟨kk, hk1, by rw [hk2], rfl⟩
