/-! Text: bytes and tokens -/
def by4 (x : Int32) (j : Nat) : Nat := x.toBitVec.toNat / 2 ^ (8 * j) % 256
theorem by4_eq (x : Int32) {k : Nat} (h1 : 1 ≤ k) (h2 : k ≤ 4) : ((x.toUInt32 >>> ((kI (8 * (k : Int) - 8)).toUInt32 &&& Int32.toUInt32 31)).toInt32 &&& kI 255) = kI ((by4 x (k - 1) : Nat) : Int) := by
  rw [pk_and _ (m := kI 255) 8 (by decide), kI_nat]
  unfold by4
  rcases (show k = 1 ∨ k = 2 ∨ k = 3 ∨ k = 4 by omega) with rfl | rfl | rfl | rfl
  · rw [pk_ushr x (kI (8 * ((1 : Nat) : Int) - 8)) 0 (by decide)]
  · rw [pk_ushr x (kI (8 * ((2 : Nat) : Int) - 8)) 8 (by decide)]
  · rw [pk_ushr x (kI (8 * ((3 : Nat) : Int) - 8)) 16 (by decide)]
  · rw [pk_ushr x (kI (8 * ((4 : Nat) : Int) - 8)) 24 (by decide)]
theorem i8_small (y : Int32) (h : y.toBitVec.toNat % 256 < 128) : y.toInt8.toInt32 = kI ((y.toBitVec.toNat % 256 : Nat) : Int) := by
  apply Int32.toInt_inj.mp
  rw [Int8.toInt_toInt32, Int32.toInt_toInt8, kI_toInt (by omega) (by omega)]
  have h1 : y.toInt = (y.toBitVec.toNat : Int) ∨ y.toInt = (y.toBitVec.toNat : Int) - 4294967296 := by
    rw [← Int32.toInt_toBitVec, BitVec.toInt_eq_toNat_cond]
    split
    · exact Or.inl rfl
    · exact Or.inr rfl
  rw [Int.bmod_def]
  rcases h1 with h1 | h1 <;> rw [h1] <;> split <;> omega
theorem by4_b (x : Int32) {k : Nat} (h1 : 1 ≤ k) (h2 : k ≤ 4) (h : by4 x (k - 1) < 128) : (x.toUInt32 >>> ((kI (8 * (k : Int) - 8)).toUInt32 &&& Int32.toUInt32 31)).toInt32.toInt8.toInt32 = kI ((by4 x (k - 1) : Nat) : Int) := by
  have h3 : (x.toUInt32 >>> ((kI (8 * (k : Int) - 8)).toUInt32 &&& Int32.toUInt32 31)).toInt32.toBitVec.toNat % 256 = by4 x (k - 1) := by
    unfold by4
    rcases (show k = 1 ∨ k = 2 ∨ k = 3 ∨ k = 4 by omega) with rfl | rfl | rfl | rfl
    · rw [pk_ushr x (kI (8 * ((1 : Nat) : Int) - 8)) 0 (by decide)]
    · rw [pk_ushr x (kI (8 * ((2 : Nat) : Int) - 8)) 8 (by decide)]
    · rw [pk_ushr x (kI (8 * ((3 : Nat) : Int) - 8)) 16 (by decide)]
    · rw [pk_ushr x (kI (8 * ((4 : Nat) : Int) - 8)) 24 (by decide)]
  rw [i8_small _ (by rw [h3]; exact h), h3]
def pln (x : Int32) : Prop := ∀ j, j < 4 → 32 ≤ by4 x j ∧ by4 x j ≤ 126
def fed (B : Nat → Int) (ln : Nat) (x : Int32) (n : Nat) : Nat → Int := fun q => if ln ≤ q ∧ q < ln + n then ((by4 x (3 - (q - ln)) : Nat) : Int) else B q
/-- the tokens: kind, place, code -/
abbrev tk3 (K Pl C : Nat → Nat) (t : Nat) : List (Nat × Nat × Nat) := lst (fun q => (K q, Pl q, C q)) t
def tdig (T : List (Nat × Nat × Nat)) (wb d i : Nat) : List (Nat × Nat × Nat) := if wb = 1 ∨ T = [] then T ++ [(0, i, d)] else match T.getLast? with
  | some x => if 12 < wb then T.dropLast ++ [(5, x.2.1, x.2.2)] else T.dropLast ++ [(x.1, x.2.1, x.2.2 * 37 + d)]
  | none => T
def tmark (B : Nat → Int) (ln : Nat) (T : List (Nat × Nat × Nat)) (i : Nat) : List (Nat × Nat × Nat) :=
  if B i = 32 then T else if B i = 44 then T ++ [(1, i, 0)] else if B i = 61 then T ++ [(if i + 1 < ln ∧ B (i + 1) = 62 then 3 else 5, i, 0)]
  else if B i = 62 then (if i = 0 ∨ B (i - 1) ≠ 61 then T ++ [(5, i, 0)] else T) else if B i = 94 then T ++ [(2, i, 0)] else T ++ [(5, i, 0)]
def tstep (B : Nat → Int) (ln i : Nat) (s : List (Nat × Nat × Nat) × Nat) : List (Nat × Nat × Nat) × Nat :=
  if dig (B i) = 0 then (tmark B ln s.1 i, 0) else (tdig s.1 (s.2 + 1) (dig (B i)) i, s.2 + 1)
def trun (B : Nat → Int) (ln : Nat) : Nat → List (Nat × Nat × Nat) × Nat
  | 0 => ([], 0)
  | i + 1 => tstep B ln i (trun B ln i)
def toks (B : Nat → Int) (ln : Nat) : List (Nat × Nat × Nat) := (trun B ln ln).1 ++ [(4, ln, 0)]
theorem tk3_up (K Pl C : Nat → Nat) (t a b c : Nat) : tk3 (va_up K t a) (va_up Pl t b) (va_up C t c) (t + 1) = tk3 K Pl C t ++ [(a, b, c)] := by
  rw [← lst_up (fun q => (K q, Pl q, C q)) t (a, b, c)]
  refine lst_ext fun j hj => ?_
  simp only [va_up]
  split <;> rfl
theorem tk3_last (K Pl C : Nat → Nat) {t : Nat} (h : 0 < t) : (tk3 K Pl C t).getLast? = some (K (t - 1), Pl (t - 1), C (t - 1)) := by
  obtain ⟨u, rfl⟩ : ∃ u, t = u + 1 := ⟨t - 1, by omega⟩
  unfold tk3
  rw [lst_succ]
  simp
theorem tk3_drop (K Pl C : Nat → Nat) {t : Nat} (h : 0 < t) : (tk3 K Pl C t).dropLast = tk3 K Pl C (t - 1) := by
  obtain ⟨u, rfl⟩ : ∃ u, t = u + 1 := ⟨t - 1, by omega⟩
  unfold tk3
  rw [lst_succ]
  simp
theorem tk3_set {K Pl C K' C' : Nat → Nat} {t : Nat} (h : 0 < t) (hK : ∀ j, j < t - 1 → K' j = K j) (hC : ∀ j, j < t - 1 → C' j = C j) : tk3 K' Pl C' t = (tk3 K Pl C t).dropLast ++ [(K' (t - 1), Pl (t - 1), C' (t - 1))] := by
  rw [tk3_drop K Pl C h]
  obtain ⟨u, rfl⟩ : ∃ u, t = u + 1 := ⟨t - 1, by omega⟩
  unfold tk3
  rw [lst_succ]
  congr 1
  exact lst_ext fun j hj => by rw [hK j (by omega), hC j (by omega)]
theorem tk3_ne (K Pl C : Nat → Nat) {t : Nat} (h : 0 < t) : ¬ tk3 K Pl C t = [] := by
  intro e
  have := congrArg List.length e
  rw [lst_len] at this
  simp at this
  omega
theorem nar_b {v : Nat} (h : v < 128) : vp_nar .byte (kI (v : Int)) = kI (v : Int) := by
  have e : (kI (v : Int)).toBitVec.toNat = v := by rw [kI_nat, pk_tn (by omega)]
  rw [vp_nar_byte, i8_small _ (by rw [e]; omega), e, Nat.mod_eq_of_lt (by omega)]
theorem fed_step {B : Nat → Int} {ln : Nat} {x : Int32} {k : Nat} (h1 : 1 ≤ k) (h2 : k ≤ 4) : va_up (fed B ln x (4 - k)) (ln + (4 - k)) ((by4 x (k - 1) : Nat) : Int) = fed B ln x (4 - (k - 1)) := by
  funext q
  simp only [va_up, fed]
  by_cases h3 : q = ln + (4 - k)
  · rw [if_pos h3, if_pos (by omega), show 3 - (q - ln) = k - 1 by omega]
  · rw [if_neg h3]
    by_cases h4 : ln ≤ q ∧ q < ln + (4 - k)
    · rw [if_pos h4, if_pos (by omega)]
    · rw [if_neg h4, if_neg (by omega)]

set_option maxRecDepth 100000 in
set_option maxHeartbeats 4000000 in
theorem c_X7_init  : CT mX7_init 4 835 [.ref 0] [ob 7 [.null, vI 0, .null, .null, .null, vI 0]] (fun r w => r = none ∧ w = [ob 7 [.ref 1, vI 0, .ref 2, .ref 3, .ref 4, vI 0], cB 208 (fun _ => 0), cN 209 (fun _ => 0), cN 209 (fun _ => 0), cK 209 (fun _ => 0)]) := by
  refine CT.intro rfl (Nat.le_of_ble_eq_true rfl) ?_
  generalize hPost : (fun r w => r = none ∧ w = [ob 7 [.ref 1, vI 0, .ref 2, .ref 3, .ref 4, vI 0], cB 208 (fun _ => 0), cN 209 (fun _ => 0), cN 209 (fun _ => 0), cK 209 (fun _ => 0)] : MP) = Post
  have hp : ∀ r w', (fun r w => r = none ∧ w = [ob 7 [.ref 1, vI 0, .ref 2, .ref 3, .ref 4, vI 0], cB 208 (fun _ => 0), cN 209 (fun _ => 0), cN 209 (fun _ => 0), cK 209 (fun _ => 0)] : MP) r w' → Post r w' := by rw [← hPost]; exact fun _ _ h => h
  clear hPost
  show WM mX7_init 4 835 Post 1 0 [(0, .ref 0)] [] [ob 7 [.null, vI 0, .null, .null, .null, vI 0]] 0 0
  refine sq_ok rfl [(.aload_n 0, 0, 0, 0)] 0 _ _ _ _ _ (by decide +kernel) ?_
  show WM mX7_init 4 835 Post 1 1 [(0, .ref 0)] [.ref 0] [ob 7 [.null, vI 0, .null, .null, .null, vI 0]] 0 0
  refine wm_obj (by decide +kernel) kX7_3 ⟨Nat.le_of_ble_eq_true rfl, Nat.le_of_ble_eq_true rfl⟩ ?_
  show WM mX7_init 4 835 Post 1 4 [(0, .ref 0)] [] [ob 7 [.null, vI 0, .null, .null, .null, vI 0]] 0 0
  refine sq_ok rfl [(.aload_n 0, 0, 0, 0), (.sipush 208, 0, 0, 0), (.newarray .byte, 0, 0, 0), (.putfield 9, 7, 0, 0), (.aload_n 0, 0, 0, 0), (.sipush 209, 0, 0, 0), (.newarray .int, 0, 0, 0), (.putfield 15, 7, 2, 0), (.aload_n 0, 0, 0, 0), (.sipush 209, 0, 0, 0), (.newarray .int, 0, 0, 0), (.putfield 19, 7, 3, 0), (.aload_n 0, 0, 0, 0), (.sipush 209, 0, 0, 0), (.newarray .long, 0, 0, 0), (.putfield 22, 7, 4, 0), (.return_, 0, 0, 0)] 4 _ _ _ _ _ (by decide +kernel) ?_
  show ∃ N8 : Nat, (kI 208 = kI (N8 : Int) ∧ N8 ≤ 1000000 ∧ 0 + 1 ≤ 4 ∧ 0 + N8 ≤ 835) ∧ ∃ N17 : Nat, (kI 209 = kI (N17 : Int) ∧ N17 ≤ 1000000 ∧ 1 + 1 ≤ 4 ∧ 0 + N8 + N17 ≤ 835) ∧ ∃ N26 : Nat, (kI 209 = kI (N26 : Int) ∧ N26 ≤ 1000000 ∧ 2 + 1 ≤ 4 ∧ 0 + N8 + N17 + N26 ≤ 835) ∧ ∃ N35 : Nat, (kI 209 = kI (N35 : Int) ∧ N35 ≤ 1000000 ∧ 3 + 1 ≤ 4 ∧ 0 + N8 + N17 + N26 + N35 ≤ 835) ∧ ((4 ≤ 4 ∧ 0 + N8 + N17 + N26 + N35 ≤ 835) ∧ Post none [ob 7 [.ref 1, vI 0, .ref 2, .ref 3, .ref 4, vI 0], cB N8 (fun _ => 0), cI N17 (fun _ => 0), cI N26 (fun _ => 0), cJ N35 (fun _ => 0)])
  refine ⟨208, ⟨rfl, Nat.le_of_ble_eq_true rfl, Nat.le_of_ble_eq_true rfl, Nat.le_of_ble_eq_true rfl⟩, ?_⟩
  refine ⟨209, ⟨rfl, Nat.le_of_ble_eq_true rfl, Nat.le_of_ble_eq_true rfl, Nat.le_of_ble_eq_true rfl⟩, ?_⟩
  refine ⟨209, ⟨rfl, Nat.le_of_ble_eq_true rfl, Nat.le_of_ble_eq_true rfl, Nat.le_of_ble_eq_true rfl⟩, ?_⟩
  refine ⟨209, ⟨rfl, Nat.le_of_ble_eq_true rfl, Nat.le_of_ble_eq_true rfl, Nat.le_of_ble_eq_true rfl⟩, ?_⟩
  refine ⟨⟨Nat.le_refl _, Nat.le_of_ble_eq_true rfl⟩, hp _ _ ?_⟩
  exact ⟨rfl, rfl⟩

set_option maxRecDepth 100000 in
set_option maxHeartbeats 4000000 in
theorem c_X7_plain (x : Int32) : CT mX7_plain 0 0 [.int x] [] (fun r w => (∃ b : Bool, r = some (vZ b) ∧ (b = true ↔ pln x)) ∧ w = []) := by
  refine CT.intro rfl (Nat.le_of_ble_eq_true rfl) ?_
  generalize hPost : (fun r w => (∃ b : Bool, r = some (vZ b) ∧ (b = true ↔ pln x)) ∧ w = [] : MP) = Post
  have hp : ∀ r w', (fun r w => (∃ b : Bool, r = some (vZ b) ∧ (b = true ↔ pln x)) ∧ w = [] : MP) r w' → Post r w' := by rw [← hPost]; exact fun _ _ h => h
  clear hPost
  show WM mX7_plain 0 0 Post 0 0 [(0, .int x)] [] [] 0 0
  refine sq_ok rfl [(.bipush 24, 0, 0, 0), (.istore_n 1, 0, 0, 0)] 0 _ _ _ _ _ (by decide +kernel) ?_
  show WM mX7_plain 0 0 Post 0 3 [(0, .int x), (1, vI 24)] [] [] 0 0
  have lp3 : ∀ (n3 : Nat) (k : Nat), (k ≤ 4) → (∀ j, k ≤ j → j < 4 → 32 ≤ by4 x j ∧ by4 x j ≤ 126) → k < n3 → WM mX7_plain 0 0 Post 0 3 [(0, .int x), (1, vI (8 * (k : Int) - 8))] [] [] 0 0 := by
    intro n3
    induction n3 with
    | zero => intro k hk hq hm; exact absurd hm (Nat.not_lt_zero _)
    | succ n3 ih3 =>
      intro k hk hq hm3
      refine sq_ok rfl [(.iload_n 1, 0, 0, 0), (.ifCond .lt 31, 0, 0, 0)] 3 _ _ _ _ _ (by decide +kernel) ?_
      show (kI (8 * (k : Int) - 8) < kI 0 → WM mX7_plain 0 0 Post 0 35 [(0, .int x), (1, vI (8 * (k : Int) - 8))] [] [] 0 0) ∧ (¬ kI (8 * (k : Int) - 8) < kI 0 → WM mX7_plain 0 0 Post 0 7 [(0, .int x), (1, vI (8 * (k : Int) - 8))] [] [] 0 0)
      refine ⟨fun c4 => ?_, fun c4 => ?_⟩
      · 
        rw [kI_lt (by omega)] at c4
        refine sq_ok rfl [(.iconst 1, 0, 0, 0), (.ireturn, 0, 0, 0)] 35 _ _ _ _ _ (by decide +kernel) ?_
        show narrow .boolean (.int (kI 1)) = .int (kI 1) ∧ ((0 ≤ 0 ∧ 0 ≤ 0) ∧ Post (some (vI 1)) [])
        refine ⟨(bI_fits true).1, ?_⟩
        refine ⟨⟨Nat.le_refl _, Nat.le_refl _⟩, hp _ _ ?_⟩
        exact ⟨⟨true, rfl, by constructor; (intro _ j hj; exact hq j (by omega) hj); (intro _; rfl)⟩, rfl⟩
      · 
        rw [kI_lt (by omega)] at c4
        have hlt : by4 x (k - 1) < 256 := Nat.mod_lt _ (by omega)
        refine sq_ok rfl [(.iload_n 0, 0, 0, 0), (.iload_n 1, 0, 0, 0), (.iushr, 0, 0, 0), (.sipush 255, 0, 0, 0), (.iand, 0, 0, 0)] 7 _ _ _ _ _ (by decide +kernel) ?_
        show WM mX7_plain 0 0 Post 0 14 [(0, .int x), (1, vI (8 * (k : Int) - 8))] [.int (((x.toUInt32 >>> ((kI (8 * (k : Int) - 8)).toUInt32 &&& Int32.toUInt32 31)).toInt32) &&& (kI 255))] [] 0 0
        have e2 : (((x.toUInt32 >>> ((kI (8 * (k : Int) - 8)).toUInt32 &&& Int32.toUInt32 31)).toInt32) &&& (kI 255)) = kI (((by4 x (k - 1)) : Nat) : Int) := by exact by4_eq x (by omega) (by omega)
        rw [e2]
        refine sq_ok rfl [(.istore_n 2, 0, 0, 0), (.iload_n 2, 0, 0, 0), (.bipush 32, 0, 0, 0), (.if_icmp .lt 9, 0, 0, 0)] 14 _ _ _ _ _ (by decide +kernel) ?_
        show (kI (((by4 x (k - 1)) : Nat) : Int) < kI 32 → WM mX7_plain 0 0 Post 0 27 [(0, .int x), (1, vI (8 * (k : Int) - 8)), (2, vI (((by4 x (k - 1)) : Nat) : Int))] [] [] 0 0) ∧ (¬ kI (((by4 x (k - 1)) : Nat) : Int) < kI 32 → WM mX7_plain 0 0 Post 0 21 [(0, .int x), (1, vI (8 * (k : Int) - 8)), (2, vI (((by4 x (k - 1)) : Nat) : Int))] [] [] 0 0)
        refine ⟨fun c18 => ?_, fun c18 => ?_⟩
        · 
          rw [kI_lt (by omega)] at c18
          refine sq_ok rfl [(.iconst 0, 0, 0, 0), (.ireturn, 0, 0, 0)] 27 _ _ _ _ _ (by decide +kernel) ?_
          show narrow .boolean (.int (kI 0)) = .int (kI 0) ∧ ((0 ≤ 0 ∧ 0 ≤ 0) ∧ Post (some (vI 0)) [])
          refine ⟨(bI_fits false).1, ?_⟩
          refine ⟨⟨Nat.le_refl _, Nat.le_refl _⟩, hp _ _ ?_⟩
          exact ⟨⟨false, rfl, by constructor; (intro h; cases h); (intro h; have := h (k - 1) (by omega); omega)⟩, rfl⟩
        · 
          rw [kI_lt (by omega)] at c18
          refine sq_ok rfl [(.iload_n 2, 0, 0, 0), (.bipush 126, 0, 0, 0), (.if_icmp .le 5, 0, 0, 0)] 21 _ _ _ _ _ (by decide +kernel) ?_
          show (kI (((by4 x (k - 1)) : Nat) : Int) ≤ kI 126 → WM mX7_plain 0 0 Post 0 29 [(0, .int x), (1, vI (8 * (k : Int) - 8)), (2, vI (((by4 x (k - 1)) : Nat) : Int))] [] [] 0 0) ∧ (¬ kI (((by4 x (k - 1)) : Nat) : Int) ≤ kI 126 → WM mX7_plain 0 0 Post 0 27 [(0, .int x), (1, vI (8 * (k : Int) - 8)), (2, vI (((by4 x (k - 1)) : Nat) : Int))] [] [] 0 0)
          refine ⟨fun c24 => ?_, fun c24 => ?_⟩
          · 
            rw [kI_le (by omega)] at c24
            refine sq_ok rfl [(.iinc 1 (-8), 0, 0, 0), (.goto (-29), 0, 0, 0)] 29 _ _ _ _ _ (by decide +kernel) ?_
            show WM mX7_plain 0 0 Post 0 3 [(0, .int x), (1, .int ((kI (8 * (k : Int) - 8)) + (kI (-8)))), (2, vI (((by4 x (k - 1)) : Nat) : Int))] [] [] 0 0
            have e5 : ((kI (8 * (k : Int) - 8)) + (kI (-8))) = kI ((8 * (k : Int) - 8) + (-8)) := by simp only [kI_add, kI_sub, kI_mul]
            rw [e5]
            rw [show ((8 * (k : Int) - 8) + (-8)) = 8 * ((k - 1 : Nat) : Int) - 8 by omega]
            exact WM.pick [0, 1] rfl (ih3 (k - 1) (by omega) (fun j h1 h2 => by rcases (show j = k - 1 ∨ k ≤ j by omega) with h | h; subst h; omega; exact hq j h h2) (by omega))
          · 
            rw [kI_le (by omega)] at c24
            refine sq_ok rfl [(.iconst 0, 0, 0, 0), (.ireturn, 0, 0, 0)] 27 _ _ _ _ _ (by decide +kernel) ?_
            show narrow .boolean (.int (kI 0)) = .int (kI 0) ∧ ((0 ≤ 0 ∧ 0 ≤ 0) ∧ Post (some (vI 0)) [])
            refine ⟨(bI_fits false).1, ?_⟩
            refine ⟨⟨Nat.le_refl _, Nat.le_refl _⟩, hp _ _ ?_⟩
            exact ⟨⟨false, rfl, by constructor; (intro h; cases h); (intro h; have := h (k - 1) (by omega); omega)⟩, rfl⟩
  exact WM.pick [0, 1] rfl (lp3 _ 4 (by omega) (fun j h1 h2 => by omega) (Nat.lt_succ_self _))

set_option maxRecDepth 100000 in
set_option maxHeartbeats 4000000 in
theorem c_X7_addFour (B : Nat → Int) (ln : Nat) (K Pl C : Nat → Nat) (t : Nat) (x : Int32) (hx : pln x) (hl : ln + 4 ≤ 208) : CT mX7_addFour 0 0 [.ref 0, .int x] [ob 7 [.ref 1, vI (ln : Int), .ref 2, .ref 3, .ref 4, vI (t : Int)], cB 208 B, cN 209 K, cN 209 Pl, cK 209 C] (fun r w => r = none ∧ w = [ob 7 [.ref 1, vI (((ln + 4) : Nat) : Int), .ref 2, .ref 3, .ref 4, vI (t : Int)], cB 208 (fed B ln x 4), cN 209 K, cN 209 Pl, cK 209 C]) := by
  refine CT.intro rfl (Nat.le_of_ble_eq_true rfl) ?_
  generalize hPost : (fun r w => r = none ∧ w = [ob 7 [.ref 1, vI (((ln + 4) : Nat) : Int), .ref 2, .ref 3, .ref 4, vI (t : Int)], cB 208 (fed B ln x 4), cN 209 K, cN 209 Pl, cK 209 C] : MP) = Post
  have hp : ∀ r w', (fun r w => r = none ∧ w = [ob 7 [.ref 1, vI (((ln + 4) : Nat) : Int), .ref 2, .ref 3, .ref 4, vI (t : Int)], cB 208 (fed B ln x 4), cN 209 K, cN 209 Pl, cK 209 C] : MP) r w' → Post r w' := by rw [← hPost]; exact fun _ _ h => h
  clear hPost
  show WM mX7_addFour 0 0 Post 5 0 [(0, .ref 0), (1, .int x)] [] [ob 7 [.ref 1, vI (ln : Int), .ref 2, .ref 3, .ref 4, vI (t : Int)], cB 208 B, cN 209 K, cN 209 Pl, cK 209 C] 0 0
  refine sq_ok rfl [(.bipush 24, 0, 0, 0), (.istore_n 2, 0, 0, 0)] 0 _ _ _ _ _ (by decide +kernel) ?_
  show WM mX7_addFour 0 0 Post 5 3 [(0, .ref 0), (1, .int x), (2, vI 24)] [] [ob 7 [.ref 1, vI (ln : Int), .ref 2, .ref 3, .ref 4, vI (t : Int)], cB 208 B, cN 209 K, cN 209 Pl, cK 209 C] 0 0
  have lp3 : ∀ (n3 : Nat) (k : Nat) (n : Nat) (g : Nat → Int), (k ≤ 4) → (n = ln + (4 - k)) → (g = fed B ln x (4 - k)) → k < n3 → WM mX7_addFour 0 0 Post 5 3 [(0, .ref 0), (1, .int x), (2, vI (8 * (k : Int) - 8))] [] [ob 7 [.ref 1, vI (n : Int), .ref 2, .ref 3, .ref 4, vI (t : Int)], cB 208 g, cN 209 K, cN 209 Pl, cK 209 C] 0 0 := by
    intro n3
    induction n3 with
    | zero => intro k n g hk hn hg hm; exact absurd hm (Nat.not_lt_zero _)
    | succ n3 ih3 =>
      intro k n g hk hn hg hm3
      refine sq_ok rfl [(.iload_n 2, 0, 0, 0), (.ifCond .lt 42, 0, 0, 0)] 3 _ _ _ _ _ (by decide +kernel) ?_
      show (kI (8 * (k : Int) - 8) < kI 0 → WM mX7_addFour 0 0 Post 5 46 [(0, .ref 0), (1, .int x), (2, vI (8 * (k : Int) - 8))] [] [ob 7 [.ref 1, vI (n : Int), .ref 2, .ref 3, .ref 4, vI (t : Int)], cB 208 g, cN 209 K, cN 209 Pl, cK 209 C] 0 0) ∧ (¬ kI (8 * (k : Int) - 8) < kI 0 → WM mX7_addFour 0 0 Post 5 7 [(0, .ref 0), (1, .int x), (2, vI (8 * (k : Int) - 8))] [] [ob 7 [.ref 1, vI (n : Int), .ref 2, .ref 3, .ref 4, vI (t : Int)], cB 208 g, cN 209 K, cN 209 Pl, cK 209 C] 0 0)
      refine ⟨fun c4 => ?_, fun c4 => ?_⟩
      · 
        rw [kI_lt (by omega)] at c4
        refine sq_ok rfl [(.return_, 0, 0, 0)] 46 _ _ _ _ _ (by decide +kernel) ?_
        show ((0 ≤ 0 ∧ 0 ≤ 0) ∧ Post none [ob 7 [.ref 1, vI (n : Int), .ref 2, .ref 3, .ref 4, vI (t : Int)], cB 208 g, cN 209 K, cN 209 Pl, cK 209 C])
        refine ⟨⟨Nat.le_refl _, Nat.le_refl _⟩, hp _ _ ?_⟩
        have e : k = 0 := by omega
        subst e
        subst hg
        subst hn
        exact ⟨rfl, rfl⟩
      · 
        rw [kI_lt (by omega)] at c4
        refine sq_ok rfl [(.aload_n 0, 0, 0, 0), (.getfield 26, 7, 1, 0), (.sipush 208, 0, 0, 0), (.if_icmp .ge 26, 0, 0, 0)] 7 _ _ _ _ _ (by decide +kernel) ?_
        show (kI 208 ≤ kI (n : Int) → WM mX7_addFour 0 0 Post 5 40 [(0, .ref 0), (1, .int x), (2, vI (8 * (k : Int) - 8))] [] [ob 7 [.ref 1, vI (n : Int), .ref 2, .ref 3, .ref 4, vI (t : Int)], cB 208 g, cN 209 K, cN 209 Pl, cK 209 C] 0 0) ∧ (¬ kI 208 ≤ kI (n : Int) → WM mX7_addFour 0 0 Post 5 17 [(0, .ref 0), (1, .int x), (2, vI (8 * (k : Int) - 8))] [] [ob 7 [.ref 1, vI (n : Int), .ref 2, .ref 3, .ref 4, vI (t : Int)], cB 208 g, cN 209 K, cN 209 Pl, cK 209 C] 0 0)
        refine ⟨fun c14 => ?_, fun c14 => ?_⟩
        · 
          exact absurd c14 (by rw [kI_le (by omega)]; omega)
        · 
          rw [kI_le (by omega)] at c14
          have hb := hx (k - 1) (by omega)
          refine sq_ok rfl [(.aload_n 0, 0, 0, 0), (.getfield 9, 7, 0, 0), (.aload_n 0, 0, 0, 0), (.getfield 26, 7, 1, 0), (.iload_n 1, 0, 0, 0), (.iload_n 2, 0, 0, 0), (.iushr, 0, 0, 0), (.i2b, 0, 0, 0), (.bastore, 0, 0, 0)] 17 _ _ _ _ _ (by decide +kernel) ?_
          show ∃ (j29 : Nat) (g29 : Nat → Int32), (mj 208 (kI (n : Int)) j29 ∧ g29 = upd (fun q => kI (g q)) j29 (vp_nar .byte (((x.toUInt32 >>> ((kI (8 * (k : Int) - 8)).toUInt32 &&& Int32.toUInt32 31)).toInt32).toInt8.toInt32))) ∧ WM mX7_addFour 0 0 Post 5 30 [(0, .ref 0), (1, .int x), (2, vI (8 * (k : Int) - 8))] [] [ob 7 [.ref 1, vI (n : Int), .ref 2, .ref 3, .ref 4, vI (t : Int)], .inl (2, 208, .inl g29), cN 209 K, cN 209 Pl, cK 209 C] 0 0
          refine ⟨n, fun q => kI ((va_up g n ((by4 x (k - 1) : Nat) : Int)) q), ⟨⟨by omega, by omega, rfl⟩, st_B (by rw [by4_b x (by omega) (by omega) (by omega)]; exact nar_b (by omega))⟩, ?_⟩
          refine sq_ok rfl [(.aload_n 0, 0, 0, 0), (.dup, 0, 0, 0), (.getfield 26, 7, 1, 0), (.iconst 1, 0, 0, 0), (.iadd, 0, 0, 0), (.putfield 26, 7, 1, 0), (.iinc 2 (-8), 0, 0, 0), (.goto (-40), 0, 0, 0)] 30 _ _ _ _ _ (by decide +kernel) ?_
          show WM mX7_addFour 0 0 Post 5 3 [(0, .ref 0), (1, .int x), (2, .int ((kI (8 * (k : Int) - 8)) + (kI (-8))))] [] [ob 7 [.ref 1, .int ((kI (n : Int)) + (kI 1)), .ref 2, .ref 3, .ref 4, vI (t : Int)], cB 208 (va_up g n ((by4 x (k - 1) : Nat) : Int)), cN 209 K, cN 209 Pl, cK 209 C] 0 0
          have e3 : ((kI (8 * (k : Int) - 8)) + (kI (-8))) = kI ((8 * (k : Int) - 8) + (-8)) := by simp only [kI_add, kI_sub, kI_mul]
          rw [e3]
          have e4 : ((kI (n : Int)) + (kI 1)) = kI ((n : Int) + 1) := by simp only [kI_add, kI_sub, kI_mul]
          rw [e4]
          rw [show ((8 * (k : Int) - 8) + (-8)) = 8 * ((k - 1 : Nat) : Int) - 8 by omega]
          exact WM.pick [0, 1, 2] rfl (ih3 (k - 1) (n + 1) (va_up g n ((by4 x (k - 1) : Nat) : Int)) (by omega) (by omega) (by subst hg; subst hn; exact fed_step (by omega) hk) (by omega))
  exact WM.pick [0, 1, 2] rfl (lp3 _ 4 ln B (by omega) (by omega) (by funext q; simp [fed]; omega) (Nat.lt_succ_self _))

set_option maxRecDepth 100000 in
set_option maxHeartbeats 4000000 in
theorem c_X7_addToken (B : Nat → Int) (ln : Nat) (K Pl C : Nat → Nat) (t : Nat) (ht : t < 209) (kd pl c : Nat) : CT mX7_addToken 0 0 [.ref 0, vI (kd : Int), vI (pl : Int), vJ (c : Int)] [ob 7 [.ref 1, vI (ln : Int), .ref 2, .ref 3, .ref 4, vI (t : Int)], cB 208 B, cN 209 K, cN 209 Pl, cK 209 C] (fun r w => r = none ∧ w = [ob 7 [.ref 1, vI (ln : Int), .ref 2, .ref 3, .ref 4, vI (((t + 1) : Nat) : Int)], cB 208 B, cN 209 (va_up K t kd), cN 209 (va_up Pl t pl), cK 209 (va_up C t c)]) := by
  refine CT.intro rfl (Nat.le_of_ble_eq_true rfl) ?_
  generalize hPost : (fun r w => r = none ∧ w = [ob 7 [.ref 1, vI (ln : Int), .ref 2, .ref 3, .ref 4, vI (((t + 1) : Nat) : Int)], cB 208 B, cN 209 (va_up K t kd), cN 209 (va_up Pl t pl), cK 209 (va_up C t c)] : MP) = Post
  have hp : ∀ r w', (fun r w => r = none ∧ w = [ob 7 [.ref 1, vI (ln : Int), .ref 2, .ref 3, .ref 4, vI (((t + 1) : Nat) : Int)], cB 208 B, cN 209 (va_up K t kd), cN 209 (va_up Pl t pl), cK 209 (va_up C t c)] : MP) r w' → Post r w' := by rw [← hPost]; exact fun _ _ h => h
  clear hPost
  show WM mX7_addToken 0 0 Post 5 0 [(0, .ref 0), (1, vI (kd : Int)), (2, vI (pl : Int)), (3, vJ (c : Int))] [] [ob 7 [.ref 1, vI (ln : Int), .ref 2, .ref 3, .ref 4, vI (t : Int)], cB 208 B, cN 209 K, cN 209 Pl, cK 209 C] 0 0
  refine sq_ok rfl [(.aload_n 0, 0, 0, 0), (.getfield 30, 7, 5, 0), (.aload_n 0, 0, 0, 0), (.getfield 15, 7, 2, 0), (.arraylength, 0, 0, 0), (.if_icmp .ge 43, 0, 0, 0)] 0 _ _ _ _ _ (by decide +kernel) ?_
  show (kI 209 ≤ kI (t : Int) → WM mX7_addToken 0 0 Post 5 52 [(0, .ref 0), (1, vI (kd : Int)), (2, vI (pl : Int)), (3, vJ (c : Int))] [] [ob 7 [.ref 1, vI (ln : Int), .ref 2, .ref 3, .ref 4, vI (t : Int)], cB 208 B, cN 209 K, cN 209 Pl, cK 209 C] 0 0) ∧ (¬ kI 209 ≤ kI (t : Int) → WM mX7_addToken 0 0 Post 5 12 [(0, .ref 0), (1, vI (kd : Int)), (2, vI (pl : Int)), (3, vJ (c : Int))] [] [ob 7 [.ref 1, vI (ln : Int), .ref 2, .ref 3, .ref 4, vI (t : Int)], cB 208 B, cN 209 K, cN 209 Pl, cK 209 C] 0 0)
  refine ⟨fun c9 => ?_, fun c9 => ?_⟩
  · 
    exact absurd c9 (by rw [kI_le (by omega)]; omega)
  · 
    rw [kI_le (by omega)] at c9
    refine sq_ok rfl [(.aload_n 0, 0, 0, 0), (.getfield 15, 7, 2, 0), (.aload_n 0, 0, 0, 0), (.getfield 30, 7, 5, 0), (.iload_n 1, 0, 0, 0), (.iastore, 0, 0, 0)] 12 _ _ _ _ _ (by decide +kernel) ?_
    show ∃ (j21 : Nat) (g21 : Nat → Int32), (mj 209 (kI (t : Int)) j21 ∧ g21 = upd (fun q => kI ((K q : Nat) : Int)) j21 (kI (kd : Int))) ∧ WM mX7_addToken 0 0 Post 5 22 [(0, .ref 0), (1, vI (kd : Int)), (2, vI (pl : Int)), (3, vJ (c : Int))] [] [ob 7 [.ref 1, vI (ln : Int), .ref 2, .ref 3, .ref 4, vI (t : Int)], cB 208 B, .inl (0, 209, .inl g21), cN 209 Pl, cK 209 C] 0 0
    refine ⟨t, fun q => kI (((va_up K t kd) q : Nat) : Int), ⟨⟨by omega, by omega, rfl⟩, st_N (rfl)⟩, ?_⟩
    refine sq_ok rfl [(.aload_n 0, 0, 0, 0), (.getfield 19, 7, 3, 0), (.aload_n 0, 0, 0, 0), (.getfield 30, 7, 5, 0), (.iload_n 2, 0, 0, 0), (.iastore, 0, 0, 0)] 22 _ _ _ _ _ (by decide +kernel) ?_
    show ∃ (j31 : Nat) (g31 : Nat → Int32), (mj 209 (kI (t : Int)) j31 ∧ g31 = upd (fun q => kI ((Pl q : Nat) : Int)) j31 (kI (pl : Int))) ∧ WM mX7_addToken 0 0 Post 5 32 [(0, .ref 0), (1, vI (kd : Int)), (2, vI (pl : Int)), (3, vJ (c : Int))] [] [ob 7 [.ref 1, vI (ln : Int), .ref 2, .ref 3, .ref 4, vI (t : Int)], cB 208 B, cN 209 (va_up K t kd), .inl (0, 209, .inl g31), cK 209 C] 0 0
    refine ⟨t, fun q => kI (((va_up Pl t pl) q : Nat) : Int), ⟨⟨by omega, by omega, rfl⟩, st_N (rfl)⟩, ?_⟩
    refine sq_ok rfl [(.aload_n 0, 0, 0, 0), (.getfield 22, 7, 4, 0), (.aload_n 0, 0, 0, 0), (.getfield 30, 7, 5, 0), (.lload_n 3, 0, 0, 0), (.lastore, 0, 0, 0)] 32 _ _ _ _ _ (by decide +kernel) ?_
    show ∃ (j41 : Nat) (g41 : Nat → Int64), (mj 209 (kI (t : Int)) j41 ∧ g41 = vp_updL (fun q => kL ((C q : Nat) : Int)) j41 (kL (c : Int))) ∧ WM mX7_addToken 0 0 Post 5 42 [(0, .ref 0), (1, vI (kd : Int)), (2, vI (pl : Int)), (3, vJ (c : Int))] [] [ob 7 [.ref 1, vI (ln : Int), .ref 2, .ref 3, .ref 4, vI (t : Int)], cB 208 B, cN 209 (va_up K t kd), cN 209 (va_up Pl t pl), .inl (1, 209, .inr (.inl g41))] 0 0
    refine ⟨t, fun q => kL (((va_up C t c) q : Nat) : Int), ⟨⟨by omega, by omega, rfl⟩, st_K (rfl)⟩, ?_⟩
    refine sq_ok rfl [(.aload_n 0, 0, 0, 0), (.dup, 0, 0, 0), (.getfield 30, 7, 5, 0), (.iconst 1, 0, 0, 0), (.iadd, 0, 0, 0), (.putfield 30, 7, 5, 0), (.return_, 0, 0, 0)] 42 _ _ _ _ _ (by decide +kernel) ?_
    show ((0 ≤ 0 ∧ 0 ≤ 0) ∧ Post none [ob 7 [.ref 1, vI (ln : Int), .ref 2, .ref 3, .ref 4, .int ((kI (t : Int)) + (kI 1))], cB 208 B, cN 209 (va_up K t kd), cN 209 (va_up Pl t pl), cK 209 (va_up C t c)])
    have e2 : ((kI (t : Int)) + (kI 1)) = kI ((t : Int) + 1) := by simp only [kI_add, kI_sub, kI_mul]
    rw [e2]
    refine ⟨⟨Nat.le_refl _, Nat.le_refl _⟩, hp _ _ ?_⟩
    exact ⟨rfl, rfl⟩

set_option maxRecDepth 100000 in
set_option maxHeartbeats 4000000 in
theorem c_X7_faultAt (B : Nat → Int) (ln : Nat) (K Pl C : Nat → Nat) (t : Nat) (ht : t ≤ 209) (k : Nat) (hk : k < 209) : CT mX7_faultAt 0 0 [.ref 0, vI (k : Int)] [ob 7 [.ref 1, vI (ln : Int), .ref 2, .ref 3, .ref 4, vI (t : Int)], cB 208 B, cN 209 K, cN 209 Pl, cK 209 C] (fun r w => r = some (vI (-10 - (Pl k : Int))) ∧ w = [ob 7 [.ref 1, vI (ln : Int), .ref 2, .ref 3, .ref 4, vI (t : Int)], cB 208 B, cN 209 K, cN 209 Pl, cK 209 C]) := by
  refine CT.intro rfl (Nat.le_of_ble_eq_true rfl) ?_
  generalize hPost : (fun r w => r = some (vI (-10 - (Pl k : Int))) ∧ w = [ob 7 [.ref 1, vI (ln : Int), .ref 2, .ref 3, .ref 4, vI (t : Int)], cB 208 B, cN 209 K, cN 209 Pl, cK 209 C] : MP) = Post
  have hp : ∀ r w', (fun r w => r = some (vI (-10 - (Pl k : Int))) ∧ w = [ob 7 [.ref 1, vI (ln : Int), .ref 2, .ref 3, .ref 4, vI (t : Int)], cB 208 B, cN 209 K, cN 209 Pl, cK 209 C] : MP) r w' → Post r w' := by rw [← hPost]; exact fun _ _ h => h
  clear hPost
  show WM mX7_faultAt 0 0 Post 5 0 [(0, .ref 0), (1, vI (k : Int))] [] [ob 7 [.ref 1, vI (ln : Int), .ref 2, .ref 3, .ref 4, vI (t : Int)], cB 208 B, cN 209 K, cN 209 Pl, cK 209 C] 0 0
  refine sq_ok rfl [(.bipush (-10), 0, 0, 0), (.aload_n 0, 0, 0, 0), (.getfield 19, 7, 3, 0), (.iload_n 1, 0, 0, 0), (.iaload, 0, 0, 0), (.isub, 0, 0, 0), (.ireturn, 0, 0, 0)] 0 _ _ _ _ _ (by decide +kernel) ?_
  show ∃ j7 : Nat, mj 209 (kI (k : Int)) j7 ∧ ((0 ≤ 0 ∧ 0 ≤ 0) ∧ Post (some (.int ((kI (-10)) - (kI ((Pl j7 : Nat) : Int))))) [ob 7 [.ref 1, vI (ln : Int), .ref 2, .ref 3, .ref 4, vI (t : Int)], cB 208 B, cN 209 K, cN 209 Pl, cK 209 C])
  refine ⟨k, ⟨by omega, by omega, rfl⟩, ?_⟩
  have e1 : ((kI (-10)) - (kI ((Pl k : Nat) : Int))) = kI ((-10) - ((Pl k : Nat) : Int)) := by simp only [kI_add, kI_sub, kI_mul]
  rw [e1]
  refine ⟨⟨Nat.le_refl _, Nat.le_refl _⟩, hp _ _ ?_⟩
  exact ⟨rfl, rfl⟩

set_option maxRecDepth 100000 in
set_option maxHeartbeats 4000000 in
theorem c_X7_addDigit (B : Nat → Int) (ln : Nat) (K Pl C : Nat → Nat) (t : Nat) (ht : t < 209) (d wb i : Nat) (hd : d < 2147483648) (hwb : wb < 2147483648) : CT mX7_addDigit 0 0 [.ref 0, vI (d : Int), vI (wb : Int), vI (i : Int)] [ob 7 [.ref 1, vI (ln : Int), .ref 2, .ref 3, .ref 4, vI (t : Int)], cB 208 B, cN 209 K, cN 209 Pl, cK 209 C] (fun r w => r = none ∧ ∃ (K2 Pl2 C2 : Nat → Nat) (t2 : Nat), w = [ob 7 [.ref 1, vI (ln : Int), .ref 2, .ref 3, .ref 4, vI (t2 : Int)], cB 208 B, cN 209 K2, cN 209 Pl2, cK 209 C2] ∧ t2 ≤ t + 1 ∧ tk3 K2 Pl2 C2 t2 = tdig (tk3 K Pl C t) wb d i) := by
  refine CT.intro rfl (Nat.le_of_ble_eq_true rfl) ?_
  generalize hPost : (fun r w => r = none ∧ ∃ (K2 Pl2 C2 : Nat → Nat) (t2 : Nat), w = [ob 7 [.ref 1, vI (ln : Int), .ref 2, .ref 3, .ref 4, vI (t2 : Int)], cB 208 B, cN 209 K2, cN 209 Pl2, cK 209 C2] ∧ t2 ≤ t + 1 ∧ tk3 K2 Pl2 C2 t2 = tdig (tk3 K Pl C t) wb d i : MP) = Post
  have hp : ∀ r w', (fun r w => r = none ∧ ∃ (K2 Pl2 C2 : Nat → Nat) (t2 : Nat), w = [ob 7 [.ref 1, vI (ln : Int), .ref 2, .ref 3, .ref 4, vI (t2 : Int)], cB 208 B, cN 209 K2, cN 209 Pl2, cK 209 C2] ∧ t2 ≤ t + 1 ∧ tk3 K2 Pl2 C2 t2 = tdig (tk3 K Pl C t) wb d i : MP) r w' → Post r w' := by rw [← hPost]; exact fun _ _ h => h
  clear hPost
  show WM mX7_addDigit 0 0 Post 5 0 [(0, .ref 0), (1, vI (d : Int)), (2, vI (wb : Int)), (3, vI (i : Int))] [] [ob 7 [.ref 1, vI (ln : Int), .ref 2, .ref 3, .ref 4, vI (t : Int)], cB 208 B, cN 209 K, cN 209 Pl, cK 209 C] 0 0
  refine sq_ok rfl [(.iload_n 2, 0, 0, 0), (.iconst 1, 0, 0, 0), (.if_icmp .eq 10, 0, 0, 0)] 0 _ _ _ _ _ (by decide +kernel) ?_
  show (kI (wb : Int) = kI 1 → WM mX7_addDigit 0 0 Post 5 12 [(0, .ref 0), (1, vI (d : Int)), (2, vI (wb : Int)), (3, vI (i : Int))] [] [ob 7 [.ref 1, vI (ln : Int), .ref 2, .ref 3, .ref 4, vI (t : Int)], cB 208 B, cN 209 K, cN 209 Pl, cK 209 C] 0 0) ∧ (¬ kI (wb : Int) = kI 1 → WM mX7_addDigit 0 0 Post 5 5 [(0, .ref 0), (1, vI (d : Int)), (2, vI (wb : Int)), (3, vI (i : Int))] [] [ob 7 [.ref 1, vI (ln : Int), .ref 2, .ref 3, .ref 4, vI (t : Int)], cB 208 B, cN 209 K, cN 209 Pl, cK 209 C] 0 0)
  refine ⟨fun c2 => ?_, fun c2 => ?_⟩
  · 
    rw [kI_eq (by omega)] at c2
    refine sq_ok rfl [(.aload_n 0, 0, 0, 0), (.iconst 0, 0, 0, 0), (.iload_n 3, 0, 0, 0), (.iload_n 1, 0, 0, 0), (.i2l, 0, 0, 0)] 12 _ _ _ _ _ (by decide +kernel) ?_
    show WM mX7_addDigit 0 0 Post 5 17 [(0, .ref 0), (1, vI (d : Int)), (2, vI (wb : Int)), (3, vI (i : Int))] [.long ((kI (d : Int)).toInt64), vI (i : Int), vI 0, .ref 0] [ob 7 [.ref 1, vI (ln : Int), .ref 2, .ref 3, .ref 4, vI (t : Int)], cB 208 B, cN 209 K, cN 209 Pl, cK 209 C] 0 0
    have e2 : (kI (d : Int)).toInt64 = kL (d : Int) := by exact kI_i2l (by omega)
    rw [e2]
    refine wm_callV mX7_addToken [0, 1, 2, 3, 4] (pc := 17) (rest := []) (mc' := 0) (ms' := 0) (by decide +kernel) kX7_47 (c_X7_addToken B ln K Pl C t (by omega) 0 i d) rfl rfl ⟨_, rfl, rfl⟩ ⟨Nat.le_of_ble_eq_true rfl, Nat.le_of_ble_eq_true rfl⟩ ⟨Nat.le_of_ble_eq_true rfl, Nat.le_of_ble_eq_true rfl⟩ (Nat.le_of_ble_eq_true rfl) rfl rfl (Nat.le_of_ble_eq_true rfl) rfl ?_
    rintro _ _ ⟨rfl, rfl⟩
    show WM mX7_addDigit 0 0 Post 5 20 [(0, .ref 0), (1, vI (d : Int)), (2, vI (wb : Int)), (3, vI (i : Int))] [] [ob 7 [.ref 1, vI (ln : Int), .ref 2, .ref 3, .ref 4, vI (((t + 1) : Nat) : Int)], cB 208 B, cN 209 (va_up K t 0), cN 209 (va_up Pl t i), cK 209 (va_up C t d)] 0 0
    refine sq_ok rfl [(.goto 53, 0, 0, 0)] 20 _ _ _ _ _ (by decide +kernel) ?_
    show WM mX7_addDigit 0 0 Post 5 73 [(0, .ref 0), (1, vI (d : Int)), (2, vI (wb : Int)), (3, vI (i : Int))] [] [ob 7 [.ref 1, vI (ln : Int), .ref 2, .ref 3, .ref 4, vI (((t + 1) : Nat) : Int)], cB 208 B, cN 209 (va_up K t 0), cN 209 (va_up Pl t i), cK 209 (va_up C t d)] 0 0
    refine sq_ok rfl [(.return_, 0, 0, 0)] 73 _ _ _ _ _ (by decide +kernel) ?_
    show ((0 ≤ 0 ∧ 0 ≤ 0) ∧ Post none [ob 7 [.ref 1, vI (ln : Int), .ref 2, .ref 3, .ref 4, vI (((t + 1) : Nat) : Int)], cB 208 B, cN 209 (va_up K t 0), cN 209 (va_up Pl t i), cK 209 (va_up C t d)])
    refine ⟨⟨Nat.le_refl _, Nat.le_refl _⟩, hp _ _ ?_⟩
    refine ⟨rfl, _, _, _, _, rfl, by omega, ?_⟩
    rw [tk3_up]
    unfold tdig
    rw [if_pos (by first | (exact Or.inl (by omega)) | (exact Or.inr (by rw [show t = 0 by omega]; rfl)))]
  · 
    rw [kI_eq (by omega)] at c2
    refine sq_ok rfl [(.aload_n 0, 0, 0, 0), (.getfield 30, 7, 5, 0), (.ifCond .ne 14, 0, 0, 0)] 5 _ _ _ _ _ (by decide +kernel) ?_
    show (¬ kI (t : Int) = kI 0 → WM mX7_addDigit 0 0 Post 5 23 [(0, .ref 0), (1, vI (d : Int)), (2, vI (wb : Int)), (3, vI (i : Int))] [] [ob 7 [.ref 1, vI (ln : Int), .ref 2, .ref 3, .ref 4, vI (t : Int)], cB 208 B, cN 209 K, cN 209 Pl, cK 209 C] 0 0) ∧ (kI (t : Int) = kI 0 → WM mX7_addDigit 0 0 Post 5 12 [(0, .ref 0), (1, vI (d : Int)), (2, vI (wb : Int)), (3, vI (i : Int))] [] [ob 7 [.ref 1, vI (ln : Int), .ref 2, .ref 3, .ref 4, vI (t : Int)], cB 208 B, cN 209 K, cN 209 Pl, cK 209 C] 0 0)
    refine ⟨fun c9 => ?_, fun c9 => ?_⟩
    · 
      rw [kI_eq (by omega)] at c9
      refine sq_ok rfl [(.iload_n 2, 0, 0, 0), (.bipush 12, 0, 0, 0), (.if_icmp .le 18, 0, 0, 0)] 23 _ _ _ _ _ (by decide +kernel) ?_
      show (kI (wb : Int) ≤ kI 12 → WM mX7_addDigit 0 0 Post 5 44 [(0, .ref 0), (1, vI (d : Int)), (2, vI (wb : Int)), (3, vI (i : Int))] [] [ob 7 [.ref 1, vI (ln : Int), .ref 2, .ref 3, .ref 4, vI (t : Int)], cB 208 B, cN 209 K, cN 209 Pl, cK 209 C] 0 0) ∧ (¬ kI (wb : Int) ≤ kI 12 → WM mX7_addDigit 0 0 Post 5 29 [(0, .ref 0), (1, vI (d : Int)), (2, vI (wb : Int)), (3, vI (i : Int))] [] [ob 7 [.ref 1, vI (ln : Int), .ref 2, .ref 3, .ref 4, vI (t : Int)], cB 208 B, cN 209 K, cN 209 Pl, cK 209 C] 0 0)
      refine ⟨fun c26 => ?_, fun c26 => ?_⟩
      · 
        rw [kI_le (by omega)] at c26
        refine sq_ok rfl [(.aload_n 0, 0, 0, 0), (.getfield 22, 7, 4, 0), (.aload_n 0, 0, 0, 0), (.getfield 30, 7, 5, 0), (.iconst 1, 0, 0, 0), (.isub, 0, 0, 0), (.aload_n 0, 0, 0, 0), (.getfield 22, 7, 4, 0), (.aload_n 0, 0, 0, 0), (.getfield 30, 7, 5, 0), (.iconst 1, 0, 0, 0), (.isub, 0, 0, 0), (.laload, 0, 0, 0), (.ldc2_w 51, 0, 0, 37), (.lmul, 0, 0, 0), (.iload_n 1, 0, 0, 0), (.i2l, 0, 0, 0)] 44 _ _ _ _ _ (by decide +kernel) ?_
        show ∃ j64 : Nat, mj 209 ((kI (t : Int)) - (kI 1)) j64 ∧ WM mX7_addDigit 0 0 Post 5 71 [(0, .ref 0), (1, vI (d : Int)), (2, vI (wb : Int)), (3, vI (i : Int))] [.long ((kI (d : Int)).toInt64), .long ((kL ((C j64 : Nat) : Int)) * (kL 37)), .int ((kI (t : Int)) - (kI 1)), .ref 4] [ob 7 [.ref 1, vI (ln : Int), .ref 2, .ref 3, .ref 4, vI (t : Int)], cB 208 B, cN 209 K, cN 209 Pl, cK 209 C] 0 0
        refine ⟨(t - 1), ⟨by omega, by omega, by rw [kI_sub]; congr 1; omega⟩, ?_⟩
        have e5 : (kI (d : Int)).toInt64 = kL (d : Int) := by exact kI_i2l (by omega)
        rw [e5]
        have e6 : ((kL ((C (t - 1) : Nat) : Int)) * (kL 37)) = kL (((C (t - 1) : Nat) : Int) * 37) := by simp only [kL_add, kL_sub, kL_mul]
        rw [e6]
        have e7 : ((kI (t : Int)) - (kI 1)) = kI ((t : Int) - 1) := by simp only [kI_add, kI_sub, kI_mul]
        rw [e7]
        refine sq_ok rfl [(.ladd, 0, 0, 0), (.lastore, 0, 0, 0)] 71 _ _ _ _ _ (by decide +kernel) ?_
        show ∃ (j72 : Nat) (g72 : Nat → Int64), (mj 209 (kI ((t : Int) - 1)) j72 ∧ g72 = vp_updL (fun q => kL ((C q : Nat) : Int)) j72 ((kL (((C (t - 1) : Nat) : Int) * 37)) + (kL (d : Int)))) ∧ WM mX7_addDigit 0 0 Post 5 73 [(0, .ref 0), (1, vI (d : Int)), (2, vI (wb : Int)), (3, vI (i : Int))] [] [ob 7 [.ref 1, vI (ln : Int), .ref 2, .ref 3, .ref 4, vI (t : Int)], cB 208 B, cN 209 K, cN 209 Pl, .inl (1, 209, .inr (.inl g72))] 0 0
        refine ⟨(t - 1), fun q => kL (((va_up C (t - 1) (((C (t - 1)) * 37) + d)) q : Nat) : Int), ⟨⟨by omega, by omega, by congr 1; omega⟩, st_K (by first | rfl | (simp only [kI_add, kI_sub, kI_mul, kL_add, kL_sub, kL_mul]; done) | (simp only [kI_add, kI_sub, kI_mul, kL_add, kL_sub, kL_mul]; rfl))⟩, ?_⟩
        refine sq_ok rfl [(.return_, 0, 0, 0)] 73 _ _ _ _ _ (by decide +kernel) ?_
        show ((0 ≤ 0 ∧ 0 ≤ 0) ∧ Post none [ob 7 [.ref 1, vI (ln : Int), .ref 2, .ref 3, .ref 4, vI (t : Int)], cB 208 B, cN 209 K, cN 209 Pl, cK 209 (va_up C (t - 1) (((C (t - 1)) * 37) + d))])
        refine ⟨⟨Nat.le_refl _, Nat.le_refl _⟩, hp _ _ ?_⟩
        refine ⟨rfl, _, _, _, _, rfl, by omega, ?_⟩
        rw [tk3_set (K := K) (C := C) (by omega) (fun j hj => by first | rfl | (simp only [va_up]; rw [if_neg (by omega)])) (fun j hj => by first | rfl | (simp only [va_up]; rw [if_neg (by omega)]))]
        unfold tdig
        rw [if_neg (by intro h; rcases h with h | h; omega; exact tk3_ne K Pl C (by omega) h), tk3_last K Pl C (by omega)]
        simp only [va_up, if_true]
        first | rw [if_pos (by omega)] | rw [if_neg (by omega)]
      · 
        rw [kI_le (by omega)] at c26
        refine sq_ok rfl [(.aload_n 0, 0, 0, 0), (.getfield 15, 7, 2, 0), (.aload_n 0, 0, 0, 0), (.getfield 30, 7, 5, 0), (.iconst 1, 0, 0, 0), (.isub, 0, 0, 0), (.iconst 5, 0, 0, 0), (.iastore, 0, 0, 0)] 29 _ _ _ _ _ (by decide +kernel) ?_
        show ∃ (j40 : Nat) (g40 : Nat → Int32), (mj 209 ((kI (t : Int)) - (kI 1)) j40 ∧ g40 = upd (fun q => kI ((K q : Nat) : Int)) j40 (kI 5)) ∧ WM mX7_addDigit 0 0 Post 5 41 [(0, .ref 0), (1, vI (d : Int)), (2, vI (wb : Int)), (3, vI (i : Int))] [] [ob 7 [.ref 1, vI (ln : Int), .ref 2, .ref 3, .ref 4, vI (t : Int)], cB 208 B, .inl (0, 209, .inl g40), cN 209 Pl, cK 209 C] 0 0
        refine ⟨(t - 1), fun q => kI (((va_up K (t - 1) 5) q : Nat) : Int), ⟨⟨by omega, by omega, by rw [kI_sub]; congr 1; omega⟩, st_N (rfl)⟩, ?_⟩
        refine sq_ok rfl [(.goto 32, 0, 0, 0)] 41 _ _ _ _ _ (by decide +kernel) ?_
        show WM mX7_addDigit 0 0 Post 5 73 [(0, .ref 0), (1, vI (d : Int)), (2, vI (wb : Int)), (3, vI (i : Int))] [] [ob 7 [.ref 1, vI (ln : Int), .ref 2, .ref 3, .ref 4, vI (t : Int)], cB 208 B, cN 209 (va_up K (t - 1) 5), cN 209 Pl, cK 209 C] 0 0
        refine sq_ok rfl [(.return_, 0, 0, 0)] 73 _ _ _ _ _ (by decide +kernel) ?_
        show ((0 ≤ 0 ∧ 0 ≤ 0) ∧ Post none [ob 7 [.ref 1, vI (ln : Int), .ref 2, .ref 3, .ref 4, vI (t : Int)], cB 208 B, cN 209 (va_up K (t - 1) 5), cN 209 Pl, cK 209 C])
        refine ⟨⟨Nat.le_refl _, Nat.le_refl _⟩, hp _ _ ?_⟩
        refine ⟨rfl, _, _, _, _, rfl, by omega, ?_⟩
        rw [tk3_set (K := K) (C := C) (by omega) (fun j hj => by first | rfl | (simp only [va_up]; rw [if_neg (by omega)])) (fun j hj => by first | rfl | (simp only [va_up]; rw [if_neg (by omega)]))]
        unfold tdig
        rw [if_neg (by intro h; rcases h with h | h; omega; exact tk3_ne K Pl C (by omega) h), tk3_last K Pl C (by omega)]
        simp only [va_up, if_true]
        first | rw [if_pos (by omega)] | rw [if_neg (by omega)]
    · 
      rw [kI_eq (by omega)] at c9
      refine sq_ok rfl [(.aload_n 0, 0, 0, 0), (.iconst 0, 0, 0, 0), (.iload_n 3, 0, 0, 0), (.iload_n 1, 0, 0, 0), (.i2l, 0, 0, 0)] 12 _ _ _ _ _ (by decide +kernel) ?_
      show WM mX7_addDigit 0 0 Post 5 17 [(0, .ref 0), (1, vI (d : Int)), (2, vI (wb : Int)), (3, vI (i : Int))] [.long ((kI (d : Int)).toInt64), vI (i : Int), vI 0, .ref 0] [ob 7 [.ref 1, vI (ln : Int), .ref 2, .ref 3, .ref 4, vI (t : Int)], cB 208 B, cN 209 K, cN 209 Pl, cK 209 C] 0 0
      have e8 : (kI (d : Int)).toInt64 = kL (d : Int) := by exact kI_i2l (by omega)
      rw [e8]
      refine wm_callV mX7_addToken [0, 1, 2, 3, 4] (pc := 17) (rest := []) (mc' := 0) (ms' := 0) (by decide +kernel) kX7_47 (c_X7_addToken B ln K Pl C t (by omega) 0 i d) rfl rfl ⟨_, rfl, rfl⟩ ⟨Nat.le_of_ble_eq_true rfl, Nat.le_of_ble_eq_true rfl⟩ ⟨Nat.le_of_ble_eq_true rfl, Nat.le_of_ble_eq_true rfl⟩ (Nat.le_of_ble_eq_true rfl) rfl rfl (Nat.le_of_ble_eq_true rfl) rfl ?_
      rintro _ _ ⟨rfl, rfl⟩
      show WM mX7_addDigit 0 0 Post 5 20 [(0, .ref 0), (1, vI (d : Int)), (2, vI (wb : Int)), (3, vI (i : Int))] [] [ob 7 [.ref 1, vI (ln : Int), .ref 2, .ref 3, .ref 4, vI (((t + 1) : Nat) : Int)], cB 208 B, cN 209 (va_up K t 0), cN 209 (va_up Pl t i), cK 209 (va_up C t d)] 0 0
      refine sq_ok rfl [(.goto 53, 0, 0, 0)] 20 _ _ _ _ _ (by decide +kernel) ?_
      show WM mX7_addDigit 0 0 Post 5 73 [(0, .ref 0), (1, vI (d : Int)), (2, vI (wb : Int)), (3, vI (i : Int))] [] [ob 7 [.ref 1, vI (ln : Int), .ref 2, .ref 3, .ref 4, vI (((t + 1) : Nat) : Int)], cB 208 B, cN 209 (va_up K t 0), cN 209 (va_up Pl t i), cK 209 (va_up C t d)] 0 0
      refine sq_ok rfl [(.return_, 0, 0, 0)] 73 _ _ _ _ _ (by decide +kernel) ?_
      show ((0 ≤ 0 ∧ 0 ≤ 0) ∧ Post none [ob 7 [.ref 1, vI (ln : Int), .ref 2, .ref 3, .ref 4, vI (((t + 1) : Nat) : Int)], cB 208 B, cN 209 (va_up K t 0), cN 209 (va_up Pl t i), cK 209 (va_up C t d)])
      refine ⟨⟨Nat.le_refl _, Nat.le_refl _⟩, hp _ _ ?_⟩
      refine ⟨rfl, _, _, _, _, rfl, by omega, ?_⟩
      rw [tk3_up]
      unfold tdig
      rw [if_pos (by first | (exact Or.inl (by omega)) | (exact Or.inr (by rw [show t = 0 by omega]; rfl)))]
