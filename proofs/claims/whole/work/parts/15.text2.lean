/-! Text: split, readRow -/
theorem dig_lt (b : Int) : dig b < 37 := by
  unfold dig
  split
  · omega
  · split <;> omega
def rrow (most : Nat) : List Nat → List (Nat × Nat × Nat) → Int × List Nat
  | acc, [] => (0, acc)
  | acc, x :: T => if x.1 = 4 then (0, acc) else if x.1 ≠ 0 ∨ most ≤ acc.length then (-10 - (x.2.1 : Int), acc) else rrow most (acc ++ [x.2.2]) T
theorem rrow_cons (most : Nat) (acc : List Nat) (x : Nat × Nat × Nat) (T : List (Nat × Nat × Nat)) : rrow most acc (x :: T) = if x.1 = 4 then (0, acc) else if x.1 ≠ 0 ∨ most ≤ acc.length then (-10 - (x.2.1 : Int), acc) else rrow most (acc ++ [x.2.2]) T := rfl

set_option maxRecDepth 100000 in
set_option maxHeartbeats 4000000 in
theorem c_X7_addMark (B : Nat → Int) (ln : Nat) (K Pl C : Nat → Nat) (t : Nat) (hln : ln ≤ 208) (ht : t < 209) (i : Nat) (hi : i < ln) (hB : ∀ q, q < 208 → -128 ≤ B q ∧ B q ≤ 127) : CT mX7_addMark 0 0 [.ref 0, vI (i : Int)] [ob 7 [.ref 1, vI (ln : Int), .ref 2, .ref 3, .ref 4, vI (t : Int)], cB 208 B, cN 209 K, cN 209 Pl, cK 209 C] (fun r w => r = none ∧ ∃ (K2 Pl2 C2 : Nat → Nat) (t2 : Nat), w = [ob 7 [.ref 1, vI (ln : Int), .ref 2, .ref 3, .ref 4, vI (t2 : Int)], cB 208 B, cN 209 K2, cN 209 Pl2, cK 209 C2] ∧ t2 ≤ t + 1 ∧ tk3 K2 Pl2 C2 t2 = tmark B ln (tk3 K Pl C t) i) := by
  refine CT.intro rfl (Nat.le_of_ble_eq_true rfl) ?_
  generalize hPost : (fun r w => r = none ∧ ∃ (K2 Pl2 C2 : Nat → Nat) (t2 : Nat), w = [ob 7 [.ref 1, vI (ln : Int), .ref 2, .ref 3, .ref 4, vI (t2 : Int)], cB 208 B, cN 209 K2, cN 209 Pl2, cK 209 C2] ∧ t2 ≤ t + 1 ∧ tk3 K2 Pl2 C2 t2 = tmark B ln (tk3 K Pl C t) i : MP) = Post
  have hp : ∀ r w', (fun r w => r = none ∧ ∃ (K2 Pl2 C2 : Nat → Nat) (t2 : Nat), w = [ob 7 [.ref 1, vI (ln : Int), .ref 2, .ref 3, .ref 4, vI (t2 : Int)], cB 208 B, cN 209 K2, cN 209 Pl2, cK 209 C2] ∧ t2 ≤ t + 1 ∧ tk3 K2 Pl2 C2 t2 = tmark B ln (tk3 K Pl C t) i : MP) r w' → Post r w' := by rw [← hPost]; exact fun _ _ h => h
  clear hPost
  have hBi := hB i (by omega)
  show WM mX7_addMark 0 0 Post 5 0 [(0, .ref 0), (1, vI (i : Int))] [] [ob 7 [.ref 1, vI (ln : Int), .ref 2, .ref 3, .ref 4, vI (t : Int)], cB 208 B, cN 209 K, cN 209 Pl, cK 209 C] 0 0
  refine sq_ok rfl [(.aload_n 0, 0, 0, 0), (.getfield 9, 7, 0, 0), (.iload_n 1, 0, 0, 0), (.baload, 0, 0, 0), (.lookupswitch 137 #[(32, 50), (44, 53), (61, 73), (62, 110), (94, 63)], 0, 0, 50)] 0 _ _ _ _ _ (by decide +kernel) ?_
  show ∃ j5 : Nat, mj 208 (kI (i : Int)) j5 ∧ (kI (B j5) = kI 32 → WM mX7_addMark 0 0 Post 5 56 [(0, .ref 0), (1, vI (i : Int))] [] [ob 7 [.ref 1, vI (ln : Int), .ref 2, .ref 3, .ref 4, vI (t : Int)], cB 208 B, cN 209 K, cN 209 Pl, cK 209 C] 0 0) ∧ (¬ kI (B j5) = kI 32 → (kI (B j5) = kI 44 → WM mX7_addMark 0 0 Post 5 59 [(0, .ref 0), (1, vI (i : Int))] [] [ob 7 [.ref 1, vI (ln : Int), .ref 2, .ref 3, .ref 4, vI (t : Int)], cB 208 B, cN 209 K, cN 209 Pl, cK 209 C] 0 0) ∧ (¬ kI (B j5) = kI 44 → (kI (B j5) = kI 61 → WM mX7_addMark 0 0 Post 5 79 [(0, .ref 0), (1, vI (i : Int))] [] [ob 7 [.ref 1, vI (ln : Int), .ref 2, .ref 3, .ref 4, vI (t : Int)], cB 208 B, cN 209 K, cN 209 Pl, cK 209 C] 0 0) ∧ (¬ kI (B j5) = kI 61 → (kI (B j5) = kI 62 → WM mX7_addMark 0 0 Post 5 116 [(0, .ref 0), (1, vI (i : Int))] [] [ob 7 [.ref 1, vI (ln : Int), .ref 2, .ref 3, .ref 4, vI (t : Int)], cB 208 B, cN 209 K, cN 209 Pl, cK 209 C] 0 0) ∧ (¬ kI (B j5) = kI 62 → (kI (B j5) = kI 94 → WM mX7_addMark 0 0 Post 5 69 [(0, .ref 0), (1, vI (i : Int))] [] [ob 7 [.ref 1, vI (ln : Int), .ref 2, .ref 3, .ref 4, vI (t : Int)], cB 208 B, cN 209 K, cN 209 Pl, cK 209 C] 0 0) ∧ (¬ kI (B j5) = kI 94 → WM mX7_addMark 0 0 Post 5 143 [(0, .ref 0), (1, vI (i : Int))] [] [ob 7 [.ref 1, vI (ln : Int), .ref 2, .ref 3, .ref 4, vI (t : Int)], cB 208 B, cN 209 K, cN 209 Pl, cK 209 C] 0 0)))))
  refine ⟨i, ⟨by omega, by omega, rfl⟩, ?_⟩
  refine ⟨fun s6_32 => ?_, fun s6_32 => ?_⟩
  · 
    rw [kI_eq (by omega)] at s6_32
    refine sq_ok rfl [(.goto 94, 0, 0, 0)] 56 _ _ _ _ _ (by decide +kernel) ?_
    show WM mX7_addMark 0 0 Post 5 150 [(0, .ref 0), (1, vI (i : Int))] [] [ob 7 [.ref 1, vI (ln : Int), .ref 2, .ref 3, .ref 4, vI (t : Int)], cB 208 B, cN 209 K, cN 209 Pl, cK 209 C] 0 0
    refine sq_ok rfl [(.return_, 0, 0, 0)] 150 _ _ _ _ _ (by decide +kernel) ?_
    show ((0 ≤ 0 ∧ 0 ≤ 0) ∧ Post none [ob 7 [.ref 1, vI (ln : Int), .ref 2, .ref 3, .ref 4, vI (t : Int)], cB 208 B, cN 209 K, cN 209 Pl, cK 209 C])
    refine ⟨⟨Nat.le_refl _, Nat.le_refl _⟩, hp _ _ ?_⟩
    refine ⟨rfl, _, _, _, _, rfl, by omega, ?_⟩
    try rw [tk3_up]
    unfold tmark
    repeat (first | rw [if_pos (by first | assumption | omega)] | rw [if_neg (by first | assumption | omega)])
  · 
    rw [kI_eq (by omega)] at s6_32
    refine ⟨fun s6_44 => ?_, fun s6_44 => ?_⟩
    · 
      rw [kI_eq (by omega)] at s6_44
      refine sq_ok rfl [(.aload_n 0, 0, 0, 0), (.iconst 1, 0, 0, 0), (.iload_n 1, 0, 0, 0), (.lconst 0, 0, 0, 0)] 59 _ _ _ _ _ (by decide +kernel) ?_
      show WM mX7_addMark 0 0 Post 5 63 [(0, .ref 0), (1, vI (i : Int))] [vJ 0, vI (i : Int), vI 1, .ref 0] [ob 7 [.ref 1, vI (ln : Int), .ref 2, .ref 3, .ref 4, vI (t : Int)], cB 208 B, cN 209 K, cN 209 Pl, cK 209 C] 0 0
      refine wm_callV mX7_addToken [0, 1, 2, 3, 4] (pc := 63) (rest := []) (mc' := 0) (ms' := 0) (by decide +kernel) kX7_47 (c_X7_addToken B ln K Pl C t (by omega) 1 i 0) rfl rfl ⟨_, rfl, rfl⟩ ⟨Nat.le_of_ble_eq_true rfl, Nat.le_of_ble_eq_true rfl⟩ ⟨Nat.le_of_ble_eq_true rfl, Nat.le_of_ble_eq_true rfl⟩ (Nat.le_of_ble_eq_true rfl) rfl rfl (Nat.le_of_ble_eq_true rfl) rfl ?_
      rintro _ _ ⟨rfl, rfl⟩
      show WM mX7_addMark 0 0 Post 5 66 [(0, .ref 0), (1, vI (i : Int))] [] [ob 7 [.ref 1, vI (ln : Int), .ref 2, .ref 3, .ref 4, vI (((t + 1) : Nat) : Int)], cB 208 B, cN 209 (va_up K t 1), cN 209 (va_up Pl t i), cK 209 (va_up C t 0)] 0 0
      refine sq_ok rfl [(.goto 84, 0, 0, 0)] 66 _ _ _ _ _ (by decide +kernel) ?_
      show WM mX7_addMark 0 0 Post 5 150 [(0, .ref 0), (1, vI (i : Int))] [] [ob 7 [.ref 1, vI (ln : Int), .ref 2, .ref 3, .ref 4, vI (((t + 1) : Nat) : Int)], cB 208 B, cN 209 (va_up K t 1), cN 209 (va_up Pl t i), cK 209 (va_up C t 0)] 0 0
      refine sq_ok rfl [(.return_, 0, 0, 0)] 150 _ _ _ _ _ (by decide +kernel) ?_
      show ((0 ≤ 0 ∧ 0 ≤ 0) ∧ Post none [ob 7 [.ref 1, vI (ln : Int), .ref 2, .ref 3, .ref 4, vI (((t + 1) : Nat) : Int)], cB 208 B, cN 209 (va_up K t 1), cN 209 (va_up Pl t i), cK 209 (va_up C t 0)])
      refine ⟨⟨Nat.le_refl _, Nat.le_refl _⟩, hp _ _ ?_⟩
      refine ⟨rfl, _, _, _, _, rfl, by omega, ?_⟩
      try rw [tk3_up]
      unfold tmark
      repeat (first | rw [if_pos (by first | assumption | omega)] | rw [if_neg (by first | assumption | omega)])
    · 
      rw [kI_eq (by omega)] at s6_44
      refine ⟨fun s6_61 => ?_, fun s6_61 => ?_⟩
      · 
        rw [kI_eq (by omega)] at s6_61
        refine sq_ok rfl [(.aload_n 0, 0, 0, 0), (.iload_n 1, 0, 0, 0), (.iconst 1, 0, 0, 0), (.iadd, 0, 0, 0), (.aload_n 0, 0, 0, 0), (.getfield 26, 7, 1, 0), (.if_icmp .ge 20, 0, 0, 0)] 79 _ _ _ _ _ (by decide +kernel) ?_
        show (kI (ln : Int) ≤ ((kI (i : Int)) + (kI 1)) → WM mX7_addMark 0 0 Post 5 107 [(0, .ref 0), (1, vI (i : Int))] [.ref 0] [ob 7 [.ref 1, vI (ln : Int), .ref 2, .ref 3, .ref 4, vI (t : Int)], cB 208 B, cN 209 K, cN 209 Pl, cK 209 C] 0 0) ∧ (¬ kI (ln : Int) ≤ ((kI (i : Int)) + (kI 1)) → WM mX7_addMark 0 0 Post 5 90 [(0, .ref 0), (1, vI (i : Int))] [.ref 0] [ob 7 [.ref 1, vI (ln : Int), .ref 2, .ref 3, .ref 4, vI (t : Int)], cB 208 B, cN 209 K, cN 209 Pl, cK 209 C] 0 0)
        have e1 : ((kI (i : Int)) + (kI 1)) = kI ((i : Int) + 1) := by simp only [kI_add, kI_sub, kI_mul]
        rw [e1]
        refine ⟨fun c87 => ?_, fun c87 => ?_⟩
        · 
          rw [kI_le (by omega)] at c87
          refine sq_ok rfl [(.iconst 5, 0, 0, 0), (.iload_n 1, 0, 0, 0), (.lconst 0, 0, 0, 0)] 107 _ _ _ _ _ (by decide +kernel) ?_
          show WM mX7_addMark 0 0 Post 5 110 [(0, .ref 0), (1, vI (i : Int))] [vJ 0, vI (i : Int), vI 5, .ref 0] [ob 7 [.ref 1, vI (ln : Int), .ref 2, .ref 3, .ref 4, vI (t : Int)], cB 208 B, cN 209 K, cN 209 Pl, cK 209 C] 0 0
          refine wm_callV mX7_addToken [0, 1, 2, 3, 4] (pc := 110) (rest := []) (mc' := 0) (ms' := 0) (by decide +kernel) kX7_47 (c_X7_addToken B ln K Pl C t (by omega) 5 i 0) rfl rfl ⟨_, rfl, rfl⟩ ⟨Nat.le_of_ble_eq_true rfl, Nat.le_of_ble_eq_true rfl⟩ ⟨Nat.le_of_ble_eq_true rfl, Nat.le_of_ble_eq_true rfl⟩ (Nat.le_of_ble_eq_true rfl) rfl rfl (Nat.le_of_ble_eq_true rfl) rfl ?_
          rintro _ _ ⟨rfl, rfl⟩
          show WM mX7_addMark 0 0 Post 5 113 [(0, .ref 0), (1, vI (i : Int))] [] [ob 7 [.ref 1, vI (ln : Int), .ref 2, .ref 3, .ref 4, vI (((t + 1) : Nat) : Int)], cB 208 B, cN 209 (va_up K t 5), cN 209 (va_up Pl t i), cK 209 (va_up C t 0)] 0 0
          refine sq_ok rfl [(.goto 37, 0, 0, 0)] 113 _ _ _ _ _ (by decide +kernel) ?_
          show WM mX7_addMark 0 0 Post 5 150 [(0, .ref 0), (1, vI (i : Int))] [] [ob 7 [.ref 1, vI (ln : Int), .ref 2, .ref 3, .ref 4, vI (((t + 1) : Nat) : Int)], cB 208 B, cN 209 (va_up K t 5), cN 209 (va_up Pl t i), cK 209 (va_up C t 0)] 0 0
          refine sq_ok rfl [(.return_, 0, 0, 0)] 150 _ _ _ _ _ (by decide +kernel) ?_
          show ((0 ≤ 0 ∧ 0 ≤ 0) ∧ Post none [ob 7 [.ref 1, vI (ln : Int), .ref 2, .ref 3, .ref 4, vI (((t + 1) : Nat) : Int)], cB 208 B, cN 209 (va_up K t 5), cN 209 (va_up Pl t i), cK 209 (va_up C t 0)])
          refine ⟨⟨Nat.le_refl _, Nat.le_refl _⟩, hp _ _ ?_⟩
          refine ⟨rfl, _, _, _, _, rfl, by omega, ?_⟩
          try rw [tk3_up]
          unfold tmark
          repeat (first | rw [if_pos (by first | assumption | omega)] | rw [if_neg (by first | assumption | omega)])
        · 
          rw [kI_le (by omega)] at c87
          have hB1 := hB (i + 1) (by omega)
          refine sq_ok rfl [(.aload_n 0, 0, 0, 0), (.getfield 9, 7, 0, 0), (.iload_n 1, 0, 0, 0), (.iconst 1, 0, 0, 0), (.iadd, 0, 0, 0), (.baload, 0, 0, 0), (.bipush 62, 0, 0, 0), (.if_icmp .ne 7, 0, 0, 0)] 90 _ _ _ _ _ (by decide +kernel) ?_
          show ∃ j97 : Nat, mj 208 ((kI (i : Int)) + (kI 1)) j97 ∧ (¬ kI (B j97) = kI 62 → WM mX7_addMark 0 0 Post 5 107 [(0, .ref 0), (1, vI (i : Int))] [.ref 0] [ob 7 [.ref 1, vI (ln : Int), .ref 2, .ref 3, .ref 4, vI (t : Int)], cB 208 B, cN 209 K, cN 209 Pl, cK 209 C] 0 0) ∧ (kI (B j97) = kI 62 → WM mX7_addMark 0 0 Post 5 103 [(0, .ref 0), (1, vI (i : Int))] [.ref 0] [ob 7 [.ref 1, vI (ln : Int), .ref 2, .ref 3, .ref 4, vI (t : Int)], cB 208 B, cN 209 K, cN 209 Pl, cK 209 C] 0 0)
          refine ⟨(i + 1), ⟨by omega, by omega, by first | rfl | (rw [kI_add]; rfl)⟩, ?_⟩
          refine ⟨fun c100 => ?_, fun c100 => ?_⟩
          · 
            rw [kI_eq (by omega)] at c100
            refine sq_ok rfl [(.iconst 5, 0, 0, 0), (.iload_n 1, 0, 0, 0), (.lconst 0, 0, 0, 0)] 107 _ _ _ _ _ (by decide +kernel) ?_
            show WM mX7_addMark 0 0 Post 5 110 [(0, .ref 0), (1, vI (i : Int))] [vJ 0, vI (i : Int), vI 5, .ref 0] [ob 7 [.ref 1, vI (ln : Int), .ref 2, .ref 3, .ref 4, vI (t : Int)], cB 208 B, cN 209 K, cN 209 Pl, cK 209 C] 0 0
            refine wm_callV mX7_addToken [0, 1, 2, 3, 4] (pc := 110) (rest := []) (mc' := 0) (ms' := 0) (by decide +kernel) kX7_47 (c_X7_addToken B ln K Pl C t (by omega) 5 i 0) rfl rfl ⟨_, rfl, rfl⟩ ⟨Nat.le_of_ble_eq_true rfl, Nat.le_of_ble_eq_true rfl⟩ ⟨Nat.le_of_ble_eq_true rfl, Nat.le_of_ble_eq_true rfl⟩ (Nat.le_of_ble_eq_true rfl) rfl rfl (Nat.le_of_ble_eq_true rfl) rfl ?_
            rintro _ _ ⟨rfl, rfl⟩
            show WM mX7_addMark 0 0 Post 5 113 [(0, .ref 0), (1, vI (i : Int))] [] [ob 7 [.ref 1, vI (ln : Int), .ref 2, .ref 3, .ref 4, vI (((t + 1) : Nat) : Int)], cB 208 B, cN 209 (va_up K t 5), cN 209 (va_up Pl t i), cK 209 (va_up C t 0)] 0 0
            refine sq_ok rfl [(.goto 37, 0, 0, 0)] 113 _ _ _ _ _ (by decide +kernel) ?_
            show WM mX7_addMark 0 0 Post 5 150 [(0, .ref 0), (1, vI (i : Int))] [] [ob 7 [.ref 1, vI (ln : Int), .ref 2, .ref 3, .ref 4, vI (((t + 1) : Nat) : Int)], cB 208 B, cN 209 (va_up K t 5), cN 209 (va_up Pl t i), cK 209 (va_up C t 0)] 0 0
            refine sq_ok rfl [(.return_, 0, 0, 0)] 150 _ _ _ _ _ (by decide +kernel) ?_
            show ((0 ≤ 0 ∧ 0 ≤ 0) ∧ Post none [ob 7 [.ref 1, vI (ln : Int), .ref 2, .ref 3, .ref 4, vI (((t + 1) : Nat) : Int)], cB 208 B, cN 209 (va_up K t 5), cN 209 (va_up Pl t i), cK 209 (va_up C t 0)])
            refine ⟨⟨Nat.le_refl _, Nat.le_refl _⟩, hp _ _ ?_⟩
            refine ⟨rfl, _, _, _, _, rfl, by omega, ?_⟩
            try rw [tk3_up]
            unfold tmark
            repeat (first | rw [if_pos (by first | assumption | omega)] | rw [if_neg (by first | assumption | omega)])
          · 
            rw [kI_eq (by omega)] at c100
            refine sq_ok rfl [(.iconst 3, 0, 0, 0), (.goto 4, 0, 0, 0)] 103 _ _ _ _ _ (by decide +kernel) ?_
            show WM mX7_addMark 0 0 Post 5 108 [(0, .ref 0), (1, vI (i : Int))] [vI 3, .ref 0] [ob 7 [.ref 1, vI (ln : Int), .ref 2, .ref 3, .ref 4, vI (t : Int)], cB 208 B, cN 209 K, cN 209 Pl, cK 209 C] 0 0
            refine sq_ok rfl [(.iload_n 1, 0, 0, 0), (.lconst 0, 0, 0, 0)] 108 _ _ _ _ _ (by decide +kernel) ?_
            show WM mX7_addMark 0 0 Post 5 110 [(0, .ref 0), (1, vI (i : Int))] [vJ 0, vI (i : Int), vI 3, .ref 0] [ob 7 [.ref 1, vI (ln : Int), .ref 2, .ref 3, .ref 4, vI (t : Int)], cB 208 B, cN 209 K, cN 209 Pl, cK 209 C] 0 0
            refine wm_callV mX7_addToken [0, 1, 2, 3, 4] (pc := 110) (rest := []) (mc' := 0) (ms' := 0) (by decide +kernel) kX7_47 (c_X7_addToken B ln K Pl C t (by omega) 3 i 0) rfl rfl ⟨_, rfl, rfl⟩ ⟨Nat.le_of_ble_eq_true rfl, Nat.le_of_ble_eq_true rfl⟩ ⟨Nat.le_of_ble_eq_true rfl, Nat.le_of_ble_eq_true rfl⟩ (Nat.le_of_ble_eq_true rfl) rfl rfl (Nat.le_of_ble_eq_true rfl) rfl ?_
            rintro _ _ ⟨rfl, rfl⟩
            show WM mX7_addMark 0 0 Post 5 113 [(0, .ref 0), (1, vI (i : Int))] [] [ob 7 [.ref 1, vI (ln : Int), .ref 2, .ref 3, .ref 4, vI (((t + 1) : Nat) : Int)], cB 208 B, cN 209 (va_up K t 3), cN 209 (va_up Pl t i), cK 209 (va_up C t 0)] 0 0
            refine sq_ok rfl [(.goto 37, 0, 0, 0)] 113 _ _ _ _ _ (by decide +kernel) ?_
            show WM mX7_addMark 0 0 Post 5 150 [(0, .ref 0), (1, vI (i : Int))] [] [ob 7 [.ref 1, vI (ln : Int), .ref 2, .ref 3, .ref 4, vI (((t + 1) : Nat) : Int)], cB 208 B, cN 209 (va_up K t 3), cN 209 (va_up Pl t i), cK 209 (va_up C t 0)] 0 0
            refine sq_ok rfl [(.return_, 0, 0, 0)] 150 _ _ _ _ _ (by decide +kernel) ?_
            show ((0 ≤ 0 ∧ 0 ≤ 0) ∧ Post none [ob 7 [.ref 1, vI (ln : Int), .ref 2, .ref 3, .ref 4, vI (((t + 1) : Nat) : Int)], cB 208 B, cN 209 (va_up K t 3), cN 209 (va_up Pl t i), cK 209 (va_up C t 0)])
            refine ⟨⟨Nat.le_refl _, Nat.le_refl _⟩, hp _ _ ?_⟩
            refine ⟨rfl, _, _, _, _, rfl, by omega, ?_⟩
            try rw [tk3_up]
            unfold tmark
            repeat (first | rw [if_pos (by first | assumption | omega)] | rw [if_neg (by first | assumption | omega)])
      · 
        rw [kI_eq (by omega)] at s6_61
        refine ⟨fun s6_62 => ?_, fun s6_62 => ?_⟩
        · 
          rw [kI_eq (by omega)] at s6_62
          refine sq_ok rfl [(.iload_n 1, 0, 0, 0), (.ifCond .eq 16, 0, 0, 0)] 116 _ _ _ _ _ (by decide +kernel) ?_
          show (kI (i : Int) = kI 0 → WM mX7_addMark 0 0 Post 5 133 [(0, .ref 0), (1, vI (i : Int))] [] [ob 7 [.ref 1, vI (ln : Int), .ref 2, .ref 3, .ref 4, vI (t : Int)], cB 208 B, cN 209 K, cN 209 Pl, cK 209 C] 0 0) ∧ (¬ kI (i : Int) = kI 0 → WM mX7_addMark 0 0 Post 5 120 [(0, .ref 0), (1, vI (i : Int))] [] [ob 7 [.ref 1, vI (ln : Int), .ref 2, .ref 3, .ref 4, vI (t : Int)], cB 208 B, cN 209 K, cN 209 Pl, cK 209 C] 0 0)
          refine ⟨fun c117 => ?_, fun c117 => ?_⟩
          · 
            rw [kI_eq (by omega)] at c117
            refine sq_ok rfl [(.aload_n 0, 0, 0, 0), (.iconst 5, 0, 0, 0), (.iload_n 1, 0, 0, 0), (.lconst 0, 0, 0, 0)] 133 _ _ _ _ _ (by decide +kernel) ?_
            show WM mX7_addMark 0 0 Post 5 137 [(0, .ref 0), (1, vI (i : Int))] [vJ 0, vI (i : Int), vI 5, .ref 0] [ob 7 [.ref 1, vI (ln : Int), .ref 2, .ref 3, .ref 4, vI (t : Int)], cB 208 B, cN 209 K, cN 209 Pl, cK 209 C] 0 0
            refine wm_callV mX7_addToken [0, 1, 2, 3, 4] (pc := 137) (rest := []) (mc' := 0) (ms' := 0) (by decide +kernel) kX7_47 (c_X7_addToken B ln K Pl C t (by omega) 5 i 0) rfl rfl ⟨_, rfl, rfl⟩ ⟨Nat.le_of_ble_eq_true rfl, Nat.le_of_ble_eq_true rfl⟩ ⟨Nat.le_of_ble_eq_true rfl, Nat.le_of_ble_eq_true rfl⟩ (Nat.le_of_ble_eq_true rfl) rfl rfl (Nat.le_of_ble_eq_true rfl) rfl ?_
            rintro _ _ ⟨rfl, rfl⟩
            show WM mX7_addMark 0 0 Post 5 140 [(0, .ref 0), (1, vI (i : Int))] [] [ob 7 [.ref 1, vI (ln : Int), .ref 2, .ref 3, .ref 4, vI (((t + 1) : Nat) : Int)], cB 208 B, cN 209 (va_up K t 5), cN 209 (va_up Pl t i), cK 209 (va_up C t 0)] 0 0
            refine sq_ok rfl [(.goto 10, 0, 0, 0)] 140 _ _ _ _ _ (by decide +kernel) ?_
            show WM mX7_addMark 0 0 Post 5 150 [(0, .ref 0), (1, vI (i : Int))] [] [ob 7 [.ref 1, vI (ln : Int), .ref 2, .ref 3, .ref 4, vI (((t + 1) : Nat) : Int)], cB 208 B, cN 209 (va_up K t 5), cN 209 (va_up Pl t i), cK 209 (va_up C t 0)] 0 0
            refine sq_ok rfl [(.return_, 0, 0, 0)] 150 _ _ _ _ _ (by decide +kernel) ?_
            show ((0 ≤ 0 ∧ 0 ≤ 0) ∧ Post none [ob 7 [.ref 1, vI (ln : Int), .ref 2, .ref 3, .ref 4, vI (((t + 1) : Nat) : Int)], cB 208 B, cN 209 (va_up K t 5), cN 209 (va_up Pl t i), cK 209 (va_up C t 0)])
            refine ⟨⟨Nat.le_refl _, Nat.le_refl _⟩, hp _ _ ?_⟩
            refine ⟨rfl, _, _, _, _, rfl, by omega, ?_⟩
            try rw [tk3_up]
            unfold tmark
            repeat (first | rw [if_pos (by first | assumption | omega)] | rw [if_neg (by first | assumption | omega)])
          · 
            rw [kI_eq (by omega)] at c117
            have hB2 := hB (i - 1) (by omega)
            refine sq_ok rfl [(.aload_n 0, 0, 0, 0), (.getfield 9, 7, 0, 0), (.iload_n 1, 0, 0, 0), (.iconst 1, 0, 0, 0), (.isub, 0, 0, 0), (.baload, 0, 0, 0), (.bipush 61, 0, 0, 0), (.if_icmp .eq 20, 0, 0, 0)] 120 _ _ _ _ _ (by decide +kernel) ?_
            show ∃ j127 : Nat, mj 208 ((kI (i : Int)) - (kI 1)) j127 ∧ (kI (B j127) = kI 61 → WM mX7_addMark 0 0 Post 5 150 [(0, .ref 0), (1, vI (i : Int))] [] [ob 7 [.ref 1, vI (ln : Int), .ref 2, .ref 3, .ref 4, vI (t : Int)], cB 208 B, cN 209 K, cN 209 Pl, cK 209 C] 0 0) ∧ (¬ kI (B j127) = kI 61 → WM mX7_addMark 0 0 Post 5 133 [(0, .ref 0), (1, vI (i : Int))] [] [ob 7 [.ref 1, vI (ln : Int), .ref 2, .ref 3, .ref 4, vI (t : Int)], cB 208 B, cN 209 K, cN 209 Pl, cK 209 C] 0 0)
            refine ⟨(i - 1), ⟨by omega, by omega, by rw [kI_sub]; congr 1; omega⟩, ?_⟩
            refine ⟨fun c130 => ?_, fun c130 => ?_⟩
            · 
              rw [kI_eq (by omega)] at c130
              refine sq_ok rfl [(.return_, 0, 0, 0)] 150 _ _ _ _ _ (by decide +kernel) ?_
              show ((0 ≤ 0 ∧ 0 ≤ 0) ∧ Post none [ob 7 [.ref 1, vI (ln : Int), .ref 2, .ref 3, .ref 4, vI (t : Int)], cB 208 B, cN 209 K, cN 209 Pl, cK 209 C])
              refine ⟨⟨Nat.le_refl _, Nat.le_refl _⟩, hp _ _ ?_⟩
              refine ⟨rfl, _, _, _, _, rfl, by omega, ?_⟩
              try rw [tk3_up]
              unfold tmark
              repeat (first | rw [if_pos (by first | assumption | omega)] | rw [if_neg (by first | assumption | omega)])
            · 
              rw [kI_eq (by omega)] at c130
              refine sq_ok rfl [(.aload_n 0, 0, 0, 0), (.iconst 5, 0, 0, 0), (.iload_n 1, 0, 0, 0), (.lconst 0, 0, 0, 0)] 133 _ _ _ _ _ (by decide +kernel) ?_
              show WM mX7_addMark 0 0 Post 5 137 [(0, .ref 0), (1, vI (i : Int))] [vJ 0, vI (i : Int), vI 5, .ref 0] [ob 7 [.ref 1, vI (ln : Int), .ref 2, .ref 3, .ref 4, vI (t : Int)], cB 208 B, cN 209 K, cN 209 Pl, cK 209 C] 0 0
              refine wm_callV mX7_addToken [0, 1, 2, 3, 4] (pc := 137) (rest := []) (mc' := 0) (ms' := 0) (by decide +kernel) kX7_47 (c_X7_addToken B ln K Pl C t (by omega) 5 i 0) rfl rfl ⟨_, rfl, rfl⟩ ⟨Nat.le_of_ble_eq_true rfl, Nat.le_of_ble_eq_true rfl⟩ ⟨Nat.le_of_ble_eq_true rfl, Nat.le_of_ble_eq_true rfl⟩ (Nat.le_of_ble_eq_true rfl) rfl rfl (Nat.le_of_ble_eq_true rfl) rfl ?_
              rintro _ _ ⟨rfl, rfl⟩
              show WM mX7_addMark 0 0 Post 5 140 [(0, .ref 0), (1, vI (i : Int))] [] [ob 7 [.ref 1, vI (ln : Int), .ref 2, .ref 3, .ref 4, vI (((t + 1) : Nat) : Int)], cB 208 B, cN 209 (va_up K t 5), cN 209 (va_up Pl t i), cK 209 (va_up C t 0)] 0 0
              refine sq_ok rfl [(.goto 10, 0, 0, 0)] 140 _ _ _ _ _ (by decide +kernel) ?_
              show WM mX7_addMark 0 0 Post 5 150 [(0, .ref 0), (1, vI (i : Int))] [] [ob 7 [.ref 1, vI (ln : Int), .ref 2, .ref 3, .ref 4, vI (((t + 1) : Nat) : Int)], cB 208 B, cN 209 (va_up K t 5), cN 209 (va_up Pl t i), cK 209 (va_up C t 0)] 0 0
              refine sq_ok rfl [(.return_, 0, 0, 0)] 150 _ _ _ _ _ (by decide +kernel) ?_
              show ((0 ≤ 0 ∧ 0 ≤ 0) ∧ Post none [ob 7 [.ref 1, vI (ln : Int), .ref 2, .ref 3, .ref 4, vI (((t + 1) : Nat) : Int)], cB 208 B, cN 209 (va_up K t 5), cN 209 (va_up Pl t i), cK 209 (va_up C t 0)])
              refine ⟨⟨Nat.le_refl _, Nat.le_refl _⟩, hp _ _ ?_⟩
              refine ⟨rfl, _, _, _, _, rfl, by omega, ?_⟩
              try rw [tk3_up]
              unfold tmark
              repeat (first | rw [if_pos (by first | assumption | omega)] | rw [if_neg (by first | assumption | omega)])
        · 
          rw [kI_eq (by omega)] at s6_62
          refine ⟨fun s6_94 => ?_, fun s6_94 => ?_⟩
          · 
            rw [kI_eq (by omega)] at s6_94
            refine sq_ok rfl [(.aload_n 0, 0, 0, 0), (.iconst 2, 0, 0, 0), (.iload_n 1, 0, 0, 0), (.lconst 0, 0, 0, 0)] 69 _ _ _ _ _ (by decide +kernel) ?_
            show WM mX7_addMark 0 0 Post 5 73 [(0, .ref 0), (1, vI (i : Int))] [vJ 0, vI (i : Int), vI 2, .ref 0] [ob 7 [.ref 1, vI (ln : Int), .ref 2, .ref 3, .ref 4, vI (t : Int)], cB 208 B, cN 209 K, cN 209 Pl, cK 209 C] 0 0
            refine wm_callV mX7_addToken [0, 1, 2, 3, 4] (pc := 73) (rest := []) (mc' := 0) (ms' := 0) (by decide +kernel) kX7_47 (c_X7_addToken B ln K Pl C t (by omega) 2 i 0) rfl rfl ⟨_, rfl, rfl⟩ ⟨Nat.le_of_ble_eq_true rfl, Nat.le_of_ble_eq_true rfl⟩ ⟨Nat.le_of_ble_eq_true rfl, Nat.le_of_ble_eq_true rfl⟩ (Nat.le_of_ble_eq_true rfl) rfl rfl (Nat.le_of_ble_eq_true rfl) rfl ?_
            rintro _ _ ⟨rfl, rfl⟩
            show WM mX7_addMark 0 0 Post 5 76 [(0, .ref 0), (1, vI (i : Int))] [] [ob 7 [.ref 1, vI (ln : Int), .ref 2, .ref 3, .ref 4, vI (((t + 1) : Nat) : Int)], cB 208 B, cN 209 (va_up K t 2), cN 209 (va_up Pl t i), cK 209 (va_up C t 0)] 0 0
            refine sq_ok rfl [(.goto 74, 0, 0, 0)] 76 _ _ _ _ _ (by decide +kernel) ?_
            show WM mX7_addMark 0 0 Post 5 150 [(0, .ref 0), (1, vI (i : Int))] [] [ob 7 [.ref 1, vI (ln : Int), .ref 2, .ref 3, .ref 4, vI (((t + 1) : Nat) : Int)], cB 208 B, cN 209 (va_up K t 2), cN 209 (va_up Pl t i), cK 209 (va_up C t 0)] 0 0
            refine sq_ok rfl [(.return_, 0, 0, 0)] 150 _ _ _ _ _ (by decide +kernel) ?_
            show ((0 ≤ 0 ∧ 0 ≤ 0) ∧ Post none [ob 7 [.ref 1, vI (ln : Int), .ref 2, .ref 3, .ref 4, vI (((t + 1) : Nat) : Int)], cB 208 B, cN 209 (va_up K t 2), cN 209 (va_up Pl t i), cK 209 (va_up C t 0)])
            refine ⟨⟨Nat.le_refl _, Nat.le_refl _⟩, hp _ _ ?_⟩
            refine ⟨rfl, _, _, _, _, rfl, by omega, ?_⟩
            try rw [tk3_up]
            unfold tmark
            repeat (first | rw [if_pos (by first | assumption | omega)] | rw [if_neg (by first | assumption | omega)])
          · 
            rw [kI_eq (by omega)] at s6_94
            refine sq_ok rfl [(.aload_n 0, 0, 0, 0), (.iconst 5, 0, 0, 0), (.iload_n 1, 0, 0, 0), (.lconst 0, 0, 0, 0)] 143 _ _ _ _ _ (by decide +kernel) ?_
            show WM mX7_addMark 0 0 Post 5 147 [(0, .ref 0), (1, vI (i : Int))] [vJ 0, vI (i : Int), vI 5, .ref 0] [ob 7 [.ref 1, vI (ln : Int), .ref 2, .ref 3, .ref 4, vI (t : Int)], cB 208 B, cN 209 K, cN 209 Pl, cK 209 C] 0 0
            refine wm_callV mX7_addToken [0, 1, 2, 3, 4] (pc := 147) (rest := []) (mc' := 0) (ms' := 0) (by decide +kernel) kX7_47 (c_X7_addToken B ln K Pl C t (by omega) 5 i 0) rfl rfl ⟨_, rfl, rfl⟩ ⟨Nat.le_of_ble_eq_true rfl, Nat.le_of_ble_eq_true rfl⟩ ⟨Nat.le_of_ble_eq_true rfl, Nat.le_of_ble_eq_true rfl⟩ (Nat.le_of_ble_eq_true rfl) rfl rfl (Nat.le_of_ble_eq_true rfl) rfl ?_
            rintro _ _ ⟨rfl, rfl⟩
            show WM mX7_addMark 0 0 Post 5 150 [(0, .ref 0), (1, vI (i : Int))] [] [ob 7 [.ref 1, vI (ln : Int), .ref 2, .ref 3, .ref 4, vI (((t + 1) : Nat) : Int)], cB 208 B, cN 209 (va_up K t 5), cN 209 (va_up Pl t i), cK 209 (va_up C t 0)] 0 0
            refine sq_ok rfl [(.return_, 0, 0, 0)] 150 _ _ _ _ _ (by decide +kernel) ?_
            show ((0 ≤ 0 ∧ 0 ≤ 0) ∧ Post none [ob 7 [.ref 1, vI (ln : Int), .ref 2, .ref 3, .ref 4, vI (((t + 1) : Nat) : Int)], cB 208 B, cN 209 (va_up K t 5), cN 209 (va_up Pl t i), cK 209 (va_up C t 0)])
            refine ⟨⟨Nat.le_refl _, Nat.le_refl _⟩, hp _ _ ?_⟩
            refine ⟨rfl, _, _, _, _, rfl, by omega, ?_⟩
            try rw [tk3_up]
            unfold tmark
            repeat (first | rw [if_pos (by first | assumption | omega)] | rw [if_neg (by first | assumption | omega)])

set_option maxRecDepth 100000 in
set_option maxHeartbeats 4000000 in
theorem c_X7_split (B : Nat → Int) (ln : Nat) (K Pl C : Nat → Nat) (t : Nat) (hln : ln ≤ 208) (hB : ∀ q, q < 208 → -128 ≤ B q ∧ B q ≤ 127) : CT mX7_split 0 0 [.ref 0] [ob 7 [.ref 1, vI (ln : Int), .ref 2, .ref 3, .ref 4, vI (t : Int)], cB 208 B, cN 209 K, cN 209 Pl, cK 209 C] (fun r w => r = none ∧ ∃ (K2 Pl2 C2 : Nat → Nat) (t2 : Nat), w = [ob 7 [.ref 1, vI 0, .ref 2, .ref 3, .ref 4, vI (t2 : Int)], cB 208 B, cN 209 K2, cN 209 Pl2, cK 209 C2] ∧ (1 ≤ t2 ∧ t2 ≤ ln + 1) ∧ tk3 K2 Pl2 C2 t2 = toks B ln) := by
  refine CT.intro rfl (Nat.le_of_ble_eq_true rfl) ?_
  generalize hPost : (fun r w => r = none ∧ ∃ (K2 Pl2 C2 : Nat → Nat) (t2 : Nat), w = [ob 7 [.ref 1, vI 0, .ref 2, .ref 3, .ref 4, vI (t2 : Int)], cB 208 B, cN 209 K2, cN 209 Pl2, cK 209 C2] ∧ (1 ≤ t2 ∧ t2 ≤ ln + 1) ∧ tk3 K2 Pl2 C2 t2 = toks B ln : MP) = Post
  have hp : ∀ r w', (fun r w => r = none ∧ ∃ (K2 Pl2 C2 : Nat → Nat) (t2 : Nat), w = [ob 7 [.ref 1, vI 0, .ref 2, .ref 3, .ref 4, vI (t2 : Int)], cB 208 B, cN 209 K2, cN 209 Pl2, cK 209 C2] ∧ (1 ≤ t2 ∧ t2 ≤ ln + 1) ∧ tk3 K2 Pl2 C2 t2 = toks B ln : MP) r w' → Post r w' := by rw [← hPost]; exact fun _ _ h => h
  clear hPost
  show WM mX7_split 0 0 Post 5 0 [(0, .ref 0)] [] [ob 7 [.ref 1, vI (ln : Int), .ref 2, .ref 3, .ref 4, vI (t : Int)], cB 208 B, cN 209 K, cN 209 Pl, cK 209 C] 0 0
  refine sq_ok rfl [(.aload_n 0, 0, 0, 0), (.iconst 0, 0, 0, 0), (.putfield 30, 7, 5, 0), (.iconst 0, 0, 0, 0), (.istore_n 1, 0, 0, 0), (.iconst 0, 0, 0, 0), (.istore_n 2, 0, 0, 0)] 0 _ _ _ _ _ (by decide +kernel) ?_
  show WM mX7_split 0 0 Post 5 9 [(0, .ref 0), (1, vI 0), (2, vI 0)] [] [ob 7 [.ref 1, vI (ln : Int), .ref 2, .ref 3, .ref 4, vI 0], cB 208 B, cN 209 K, cN 209 Pl, cK 209 C] 0 0
  have lp9 : ∀ (n9 : Nat) (i : Nat) (wb : Nat) (u : Nat) (K1 : Nat → Nat) (Pl1 : Nat → Nat) (C1 : Nat → Nat), (i ≤ ln) → (u ≤ i) → (wb ≤ i) → ((tk3 K1 Pl1 C1 u, wb) = trun B ln i) → (ln - i) < n9 → WM mX7_split 0 0 Post 5 9 [(0, .ref 0), (1, vI (wb : Int)), (2, vI (i : Int))] [] [ob 7 [.ref 1, vI (ln : Int), .ref 2, .ref 3, .ref 4, vI (u : Int)], cB 208 B, cN 209 K1, cN 209 Pl1, cK 209 C1] 0 0 := by
    intro n9
    induction n9 with
    | zero => intro i wb u K1 Pl1 C1 hi hu hwb hq hm; exact absurd hm (Nat.not_lt_zero _)
    | succ n9 ih9 =>
      intro i wb u K1 Pl1 C1 hi hu hwb hq hm9
      refine sq_ok rfl [(.iload_n 2, 0, 0, 0), (.aload_n 0, 0, 0, 0), (.getfield 26, 7, 1, 0), (.if_icmp .ge 43, 0, 0, 0)] 9 _ _ _ _ _ (by decide +kernel) ?_
      show (kI (ln : Int) ≤ kI (i : Int) → WM mX7_split 0 0 Post 5 57 [(0, .ref 0), (1, vI (wb : Int)), (2, vI (i : Int))] [] [ob 7 [.ref 1, vI (ln : Int), .ref 2, .ref 3, .ref 4, vI (u : Int)], cB 208 B, cN 209 K1, cN 209 Pl1, cK 209 C1] 0 0) ∧ (¬ kI (ln : Int) ≤ kI (i : Int) → WM mX7_split 0 0 Post 5 17 [(0, .ref 0), (1, vI (wb : Int)), (2, vI (i : Int))] [] [ob 7 [.ref 1, vI (ln : Int), .ref 2, .ref 3, .ref 4, vI (u : Int)], cB 208 B, cN 209 K1, cN 209 Pl1, cK 209 C1] 0 0)
      refine ⟨fun c14 => ?_, fun c14 => ?_⟩
      · 
        rw [kI_le (by omega)] at c14
        refine sq_ok rfl [(.aload_n 0, 0, 0, 0), (.iconst 4, 0, 0, 0), (.aload_n 0, 0, 0, 0), (.getfield 26, 7, 1, 0), (.lconst 0, 0, 0, 0)] 57 _ _ _ _ _ (by decide +kernel) ?_
        show WM mX7_split 0 0 Post 5 64 [(0, .ref 0), (1, vI (wb : Int)), (2, vI (i : Int))] [vJ 0, vI (ln : Int), vI 4, .ref 0] [ob 7 [.ref 1, vI (ln : Int), .ref 2, .ref 3, .ref 4, vI (u : Int)], cB 208 B, cN 209 K1, cN 209 Pl1, cK 209 C1] 0 0
        refine wm_callV mX7_addToken [0, 1, 2, 3, 4] (pc := 64) (rest := []) (mc' := 0) (ms' := 0) (by decide +kernel) kX7_47 (c_X7_addToken B ln K1 Pl1 C1 u (by omega) 4 ln 0) rfl rfl ⟨_, rfl, rfl⟩ ⟨Nat.le_of_ble_eq_true rfl, Nat.le_of_ble_eq_true rfl⟩ ⟨Nat.le_of_ble_eq_true rfl, Nat.le_of_ble_eq_true rfl⟩ (Nat.le_of_ble_eq_true rfl) rfl rfl (Nat.le_of_ble_eq_true rfl) rfl ?_
        rintro _ _ ⟨rfl, rfl⟩
        show WM mX7_split 0 0 Post 5 67 [(0, .ref 0), (1, vI (wb : Int)), (2, vI (i : Int))] [] [ob 7 [.ref 1, vI (ln : Int), .ref 2, .ref 3, .ref 4, vI (((u + 1) : Nat) : Int)], cB 208 B, cN 209 (va_up K1 u 4), cN 209 (va_up Pl1 u ln), cK 209 (va_up C1 u 0)] 0 0
        refine sq_ok rfl [(.aload_n 0, 0, 0, 0), (.iconst 0, 0, 0, 0), (.putfield 26, 7, 1, 0), (.return_, 0, 0, 0)] 67 _ _ _ _ _ (by decide +kernel) ?_
        show ((0 ≤ 0 ∧ 0 ≤ 0) ∧ Post none [ob 7 [.ref 1, vI 0, .ref 2, .ref 3, .ref 4, vI (((u + 1) : Nat) : Int)], cB 208 B, cN 209 (va_up K1 u 4), cN 209 (va_up Pl1 u ln), cK 209 (va_up C1 u 0)])
        refine ⟨⟨Nat.le_refl _, Nat.le_refl _⟩, hp _ _ ?_⟩
        have e : i = ln := by omega
        refine ⟨rfl, _, _, _, _, rfl, by omega, ?_⟩
        rw [tk3_up]
        unfold toks
        rw [e] at hq
        rw [← hq]
      · 
        rw [kI_le (by omega)] at c14
        have hBi := hB i (by omega)
        have hdl := dig_lt (B i)
        refine sq_ok rfl [(.aload_n 0, 0, 0, 0), (.getfield 9, 7, 0, 0), (.iload_n 2, 0, 0, 0), (.baload, 0, 0, 0)] 17 _ _ _ _ _ (by decide +kernel) ?_
        show ∃ j22 : Nat, mj 208 (kI (i : Int)) j22 ∧ WM mX7_split 0 0 Post 5 23 [(0, .ref 0), (1, vI (wb : Int)), (2, vI (i : Int))] [vI (B j22)] [ob 7 [.ref 1, vI (ln : Int), .ref 2, .ref 3, .ref 4, vI (u : Int)], cB 208 B, cN 209 K1, cN 209 Pl1, cK 209 C1] 0 0
        refine ⟨i, ⟨by omega, by omega, rfl⟩, ?_⟩
        refine wm_callS mX10_digitOf [] (pc := 23) (rest := []) (mc' := 0) (ms' := 0) (by decide +kernel) kX7_33 (c_X10_digitOf (B i) (by unfold iR; omega)) rfl ⟨Nat.le_of_ble_eq_true rfl, Nat.le_of_ble_eq_true rfl⟩ ⟨Nat.le_of_ble_eq_true rfl, Nat.le_of_ble_eq_true rfl⟩ (Nat.le_of_ble_eq_true rfl) rfl rfl (Nat.le_of_ble_eq_true rfl) rfl ?_
        rintro _ _ ⟨rfl, rfl⟩
        show WM mX7_split 0 0 Post 5 26 [(0, .ref 0), (1, vI (wb : Int)), (2, vI (i : Int))] [vI (((dig (B i)) : Nat) : Int)] [ob 7 [.ref 1, vI (ln : Int), .ref 2, .ref 3, .ref 4, vI (u : Int)], cB 208 B, cN 209 K1, cN 209 Pl1, cK 209 C1] 0 0
        refine sq_ok rfl [(.istore_n 3, 0, 0, 0), (.iload_n 3, 0, 0, 0), (.ifCond .ne 13, 0, 0, 0)] 26 _ _ _ _ _ (by decide +kernel) ?_
        show (¬ kI (((dig (B i)) : Nat) : Int) = kI 0 → WM mX7_split 0 0 Post 5 41 [(0, .ref 0), (1, vI (wb : Int)), (2, vI (i : Int)), (3, vI (((dig (B i)) : Nat) : Int))] [] [ob 7 [.ref 1, vI (ln : Int), .ref 2, .ref 3, .ref 4, vI (u : Int)], cB 208 B, cN 209 K1, cN 209 Pl1, cK 209 C1] 0 0) ∧ (kI (((dig (B i)) : Nat) : Int) = kI 0 → WM mX7_split 0 0 Post 5 31 [(0, .ref 0), (1, vI (wb : Int)), (2, vI (i : Int)), (3, vI (((dig (B i)) : Nat) : Int))] [] [ob 7 [.ref 1, vI (ln : Int), .ref 2, .ref 3, .ref 4, vI (u : Int)], cB 208 B, cN 209 K1, cN 209 Pl1, cK 209 C1] 0 0)
        refine ⟨fun c28 => ?_, fun c28 => ?_⟩
        · 
          rw [kI_eq (by omega)] at c28
          refine sq_ok rfl [(.iinc 1 1, 0, 0, 0), (.aload_n 0, 0, 0, 0), (.iload_n 3, 0, 0, 0), (.iload_n 1, 0, 0, 0), (.iload_n 2, 0, 0, 0)] 41 _ _ _ _ _ (by decide +kernel) ?_
          show WM mX7_split 0 0 Post 5 48 [(0, .ref 0), (1, .int ((kI (wb : Int)) + (kI 1))), (2, vI (i : Int)), (3, vI (((dig (B i)) : Nat) : Int))] [vI (i : Int), .int ((kI (wb : Int)) + (kI 1)), vI (((dig (B i)) : Nat) : Int), .ref 0] [ob 7 [.ref 1, vI (ln : Int), .ref 2, .ref 3, .ref 4, vI (u : Int)], cB 208 B, cN 209 K1, cN 209 Pl1, cK 209 C1] 0 0
          have e3 : ((kI (wb : Int)) + (kI 1)) = kI ((wb : Int) + 1) := by simp only [kI_add, kI_sub, kI_mul]
          rw [e3]
          refine wm_callV mX7_addDigit [0, 1, 2, 3, 4] (pc := 48) (rest := []) (mc' := 0) (ms' := 0) (by decide +kernel) kX7_43 (c_X7_addDigit B ln K1 Pl1 C1 u (by omega) (dig (B i)) (wb + 1) i (by omega) (by omega)) rfl rfl ⟨_, rfl, rfl⟩ ⟨Nat.le_of_ble_eq_true rfl, Nat.le_of_ble_eq_true rfl⟩ ⟨Nat.le_of_ble_eq_true rfl, Nat.le_of_ble_eq_true rfl⟩ (Nat.le_of_ble_eq_true rfl) rfl rfl (Nat.le_of_ble_eq_true rfl) rfl ?_
          rintro _ _ ⟨rfl, K2, Pl2, C2, t2, rfl, ht2, hT2⟩
          show WM mX7_split 0 0 Post 5 51 [(0, .ref 0), (1, vI ((wb : Int) + 1)), (2, vI (i : Int)), (3, vI (((dig (B i)) : Nat) : Int))] [] [ob 7 [.ref 1, vI (ln : Int), .ref 2, .ref 3, .ref 4, vI (t2 : Int)], cB 208 B, cN 209 K2, cN 209 Pl2, cK 209 C2] 0 0
          refine sq_ok rfl [(.iinc 2 1, 0, 0, 0), (.goto (-45), 0, 0, 0)] 51 _ _ _ _ _ (by decide +kernel) ?_
          show WM mX7_split 0 0 Post 5 9 [(0, .ref 0), (1, vI ((wb : Int) + 1)), (2, .int ((kI (i : Int)) + (kI 1))), (3, vI (((dig (B i)) : Nat) : Int))] [] [ob 7 [.ref 1, vI (ln : Int), .ref 2, .ref 3, .ref 4, vI (t2 : Int)], cB 208 B, cN 209 K2, cN 209 Pl2, cK 209 C2] 0 0
          have e4 : ((kI (i : Int)) + (kI 1)) = kI ((i : Int) + 1) := by simp only [kI_add, kI_sub, kI_mul]
          rw [e4]
          exact WM.pick [0, 1, 2] rfl (ih9 (i + 1) (wb + 1) t2 K2 Pl2 C2 (by omega) (by omega) (by omega) (by rw [trun, ← hq, hT2]; unfold tstep; first | rw [if_pos (by omega)] | rw [if_neg (by omega)]) (by omega))
        · 
          rw [kI_eq (by omega)] at c28
          refine sq_ok rfl [(.iconst 0, 0, 0, 0), (.istore_n 1, 0, 0, 0), (.aload_n 0, 0, 0, 0), (.iload_n 2, 0, 0, 0)] 31 _ _ _ _ _ (by decide +kernel) ?_
          show WM mX7_split 0 0 Post 5 35 [(0, .ref 0), (1, vI 0), (2, vI (i : Int)), (3, vI (((dig (B i)) : Nat) : Int))] [vI (i : Int), .ref 0] [ob 7 [.ref 1, vI (ln : Int), .ref 2, .ref 3, .ref 4, vI (u : Int)], cB 208 B, cN 209 K1, cN 209 Pl1, cK 209 C1] 0 0
          refine wm_callV mX7_addMark [0, 1, 2, 3, 4] (pc := 35) (rest := []) (mc' := 0) (ms' := 0) (by decide +kernel) kX7_39 (c_X7_addMark B ln K1 Pl1 C1 u hln (by omega) i (by omega) hB) rfl rfl ⟨_, rfl, rfl⟩ ⟨Nat.le_of_ble_eq_true rfl, Nat.le_of_ble_eq_true rfl⟩ ⟨Nat.le_of_ble_eq_true rfl, Nat.le_of_ble_eq_true rfl⟩ (Nat.le_of_ble_eq_true rfl) rfl rfl (Nat.le_of_ble_eq_true rfl) rfl ?_
          rintro _ _ ⟨rfl, K2, Pl2, C2, t2, rfl, ht2, hT2⟩
          show WM mX7_split 0 0 Post 5 38 [(0, .ref 0), (1, vI 0), (2, vI (i : Int)), (3, vI (((dig (B i)) : Nat) : Int))] [] [ob 7 [.ref 1, vI (ln : Int), .ref 2, .ref 3, .ref 4, vI (t2 : Int)], cB 208 B, cN 209 K2, cN 209 Pl2, cK 209 C2] 0 0
          refine sq_ok rfl [(.goto 13, 0, 0, 0)] 38 _ _ _ _ _ (by decide +kernel) ?_
          show WM mX7_split 0 0 Post 5 51 [(0, .ref 0), (1, vI 0), (2, vI (i : Int)), (3, vI (((dig (B i)) : Nat) : Int))] [] [ob 7 [.ref 1, vI (ln : Int), .ref 2, .ref 3, .ref 4, vI (t2 : Int)], cB 208 B, cN 209 K2, cN 209 Pl2, cK 209 C2] 0 0
          refine sq_ok rfl [(.iinc 2 1, 0, 0, 0), (.goto (-45), 0, 0, 0)] 51 _ _ _ _ _ (by decide +kernel) ?_
          show WM mX7_split 0 0 Post 5 9 [(0, .ref 0), (1, vI 0), (2, .int ((kI (i : Int)) + (kI 1))), (3, vI (((dig (B i)) : Nat) : Int))] [] [ob 7 [.ref 1, vI (ln : Int), .ref 2, .ref 3, .ref 4, vI (t2 : Int)], cB 208 B, cN 209 K2, cN 209 Pl2, cK 209 C2] 0 0
          have e5 : ((kI (i : Int)) + (kI 1)) = kI ((i : Int) + 1) := by simp only [kI_add, kI_sub, kI_mul]
          rw [e5]
          exact WM.pick [0, 1, 2] rfl (ih9 (i + 1) 0 t2 K2 Pl2 C2 (by omega) (by omega) (by omega) (by rw [trun, ← hq, hT2]; unfold tstep; first | rw [if_pos (by omega)] | rw [if_neg (by omega)]) (by omega))
  exact WM.pick [0, 1, 2] rfl (lp9 _ 0 0 0 K Pl C (by omega) (by omega) (by omega) rfl (Nat.lt_succ_self _))

set_option maxRecDepth 100000 in
set_option maxHeartbeats 4000000 in
theorem c_X7_readRow (B : Nat → Int) (ln : Nat) (K Pl C : Nat → Nat) (t : Nat) (ht : t ≤ 209) (hK : ∀ q, q < t → K q ≤ 5) (most mo rc : Nat) (hmost : most ≤ mo) (hmo : mo < 2147483648) (nums : Nat → Int) (rcodes : Nat → Nat) : CT mX7_readRow 0 0 [.ref 0, vI (most : Int), .ref 5] [ob 7 [.ref 1, vI (ln : Int), .ref 2, .ref 3, .ref 4, vI (t : Int)], cB 208 B, cN 209 K, cN 209 Pl, cK 209 C, ob 9 [vI (mo : Int), .ref 6, .ref 7, vI (rc : Int)], cI mo nums, cK mo rcodes] (fun r w => ∃ (g : Nat → Nat) (d : Nat), r = some (vI (rrow most [] (tk3 K Pl C t)).1) ∧ w = [ob 7 [.ref 1, vI (ln : Int), .ref 2, .ref 3, .ref 4, vI (t : Int)], cB 208 B, cN 209 K, cN 209 Pl, cK 209 C, ob 9 [vI (mo : Int), .ref 6, .ref 7, vI (d : Int)], cI mo nums, cK mo g] ∧ d ≤ most ∧ lst g d = (rrow most [] (tk3 K Pl C t)).2) := by
  refine CT.intro rfl (Nat.le_of_ble_eq_true rfl) ?_
  generalize hPost : (fun r w => ∃ (g : Nat → Nat) (d : Nat), r = some (vI (rrow most [] (tk3 K Pl C t)).1) ∧ w = [ob 7 [.ref 1, vI (ln : Int), .ref 2, .ref 3, .ref 4, vI (t : Int)], cB 208 B, cN 209 K, cN 209 Pl, cK 209 C, ob 9 [vI (mo : Int), .ref 6, .ref 7, vI (d : Int)], cI mo nums, cK mo g] ∧ d ≤ most ∧ lst g d = (rrow most [] (tk3 K Pl C t)).2 : MP) = Post
  have hp : ∀ r w', (fun r w => ∃ (g : Nat → Nat) (d : Nat), r = some (vI (rrow most [] (tk3 K Pl C t)).1) ∧ w = [ob 7 [.ref 1, vI (ln : Int), .ref 2, .ref 3, .ref 4, vI (t : Int)], cB 208 B, cN 209 K, cN 209 Pl, cK 209 C, ob 9 [vI (mo : Int), .ref 6, .ref 7, vI (d : Int)], cI mo nums, cK mo g] ∧ d ≤ most ∧ lst g d = (rrow most [] (tk3 K Pl C t)).2 : MP) r w' → Post r w' := by rw [← hPost]; exact fun _ _ h => h
  clear hPost
  show WM mX7_readRow 0 0 Post 8 0 [(0, .ref 0), (1, vI (most : Int)), (2, .ref 5)] [] [ob 7 [.ref 1, vI (ln : Int), .ref 2, .ref 3, .ref 4, vI (t : Int)], cB 208 B, cN 209 K, cN 209 Pl, cK 209 C, ob 9 [vI (mo : Int), .ref 6, .ref 7, vI (rc : Int)], cI mo nums, cK mo rcodes] 0 0
  refine sq_ok rfl [(.aload_n 2, 0, 0, 0), (.iconst 0, 0, 0, 0), (.putfield 53, 9, 3, 0), (.iconst 0, 0, 0, 0), (.istore_n 3, 0, 0, 0)] 0 _ _ _ _ _ (by decide +kernel) ?_
  show WM mX7_readRow 0 0 Post 8 7 [(0, .ref 0), (1, vI (most : Int)), (2, .ref 5), (3, vI 0)] [] [ob 7 [.ref 1, vI (ln : Int), .ref 2, .ref 3, .ref 4, vI (t : Int)], cB 208 B, cN 209 K, cN 209 Pl, cK 209 C, ob 9 [vI (mo : Int), .ref 6, .ref 7, vI 0], cI mo nums, cK mo rcodes] 0 0
  have lp7 : ∀ (n7 : Nat) (k : Nat) (d : Nat) (g : Nat → Nat), (k ≤ t) → (d ≤ most) → (rrow most [] (tk3 K Pl C t) = rrow most (lst g d) ((tk3 K Pl C t).drop k)) → (t - k) < n7 → WM mX7_readRow 0 0 Post 8 7 [(0, .ref 0), (1, vI (most : Int)), (2, .ref 5), (3, vI (k : Int))] [] [ob 7 [.ref 1, vI (ln : Int), .ref 2, .ref 3, .ref 4, vI (t : Int)], cB 208 B, cN 209 K, cN 209 Pl, cK 209 C, ob 9 [vI (mo : Int), .ref 6, .ref 7, vI (d : Int)], cI mo nums, cK mo g] 0 0 := by
    intro n7
    induction n7 with
    | zero => intro k d g hk hd hq hm; exact absurd hm (Nat.not_lt_zero _)
    | succ n7 ih7 =>
      intro k d g hk hd hq hm7
      refine sq_ok rfl [(.iload_n 3, 0, 0, 0), (.aload_n 0, 0, 0, 0), (.getfield 30, 7, 5, 0), (.if_icmp .ge 54, 0, 0, 0)] 7 _ _ _ _ _ (by decide +kernel) ?_
      show (kI (t : Int) ≤ kI (k : Int) → WM mX7_readRow 0 0 Post 8 66 [(0, .ref 0), (1, vI (most : Int)), (2, .ref 5), (3, vI (k : Int))] [] [ob 7 [.ref 1, vI (ln : Int), .ref 2, .ref 3, .ref 4, vI (t : Int)], cB 208 B, cN 209 K, cN 209 Pl, cK 209 C, ob 9 [vI (mo : Int), .ref 6, .ref 7, vI (d : Int)], cI mo nums, cK mo g] 0 0) ∧ (¬ kI (t : Int) ≤ kI (k : Int) → WM mX7_readRow 0 0 Post 8 15 [(0, .ref 0), (1, vI (most : Int)), (2, .ref 5), (3, vI (k : Int))] [] [ob 7 [.ref 1, vI (ln : Int), .ref 2, .ref 3, .ref 4, vI (t : Int)], cB 208 B, cN 209 K, cN 209 Pl, cK 209 C, ob 9 [vI (mo : Int), .ref 6, .ref 7, vI (d : Int)], cI mo nums, cK mo g] 0 0)
      refine ⟨fun c12 => ?_, fun c12 => ?_⟩
      · 
        rw [kI_le (by omega)] at c12
        refine sq_ok rfl [(.iconst 0, 0, 0, 0), (.ireturn, 0, 0, 0)] 66 _ _ _ _ _ (by decide +kernel) ?_
        show ((0 ≤ 0 ∧ 0 ≤ 0) ∧ Post (some (vI 0)) [ob 7 [.ref 1, vI (ln : Int), .ref 2, .ref 3, .ref 4, vI (t : Int)], cB 208 B, cN 209 K, cN 209 Pl, cK 209 C, ob 9 [vI (mo : Int), .ref 6, .ref 7, vI (d : Int)], cI mo nums, cK mo g])
        refine ⟨⟨Nat.le_refl _, Nat.le_refl _⟩, hp _ _ ?_⟩
        have e : k = t := by omega
        rw [e, drop_lst_all] at hq
        exact ⟨g, d, by rw [hq]; rfl, rfl, hd, by rw [hq]; rfl⟩
      · 
        rw [kI_le (by omega)] at c12
        have hKk := hK k (by omega)
        rw [drop_lst _ (show k < t by omega), rrow_cons, lst_len] at hq
        dsimp only at hq
        refine sq_ok rfl [(.aload_n 0, 0, 0, 0), (.getfield 15, 7, 2, 0), (.iload_n 3, 0, 0, 0), (.iaload, 0, 0, 0), (.iconst 4, 0, 0, 0), (.if_icmp .ne 5, 0, 0, 0)] 15 _ _ _ _ _ (by decide +kernel) ?_
        show ∃ j20 : Nat, mj 209 (kI (k : Int)) j20 ∧ (¬ kI ((K j20 : Nat) : Int) = kI 4 → WM mX7_readRow 0 0 Post 8 27 [(0, .ref 0), (1, vI (most : Int)), (2, .ref 5), (3, vI (k : Int))] [] [ob 7 [.ref 1, vI (ln : Int), .ref 2, .ref 3, .ref 4, vI (t : Int)], cB 208 B, cN 209 K, cN 209 Pl, cK 209 C, ob 9 [vI (mo : Int), .ref 6, .ref 7, vI (d : Int)], cI mo nums, cK mo g] 0 0) ∧ (kI ((K j20 : Nat) : Int) = kI 4 → WM mX7_readRow 0 0 Post 8 25 [(0, .ref 0), (1, vI (most : Int)), (2, .ref 5), (3, vI (k : Int))] [] [ob 7 [.ref 1, vI (ln : Int), .ref 2, .ref 3, .ref 4, vI (t : Int)], cB 208 B, cN 209 K, cN 209 Pl, cK 209 C, ob 9 [vI (mo : Int), .ref 6, .ref 7, vI (d : Int)], cI mo nums, cK mo g] 0 0)
        refine ⟨k, ⟨by omega, by omega, rfl⟩, ?_⟩
        refine ⟨fun c22 => ?_, fun c22 => ?_⟩
        · 
          rw [kI_eq (by omega)] at c22
          refine sq_ok rfl [(.aload_n 0, 0, 0, 0), (.getfield 15, 7, 2, 0), (.iload_n 3, 0, 0, 0), (.iaload, 0, 0, 0), (.ifCond .ne 11, 0, 0, 0)] 27 _ _ _ _ _ (by decide +kernel) ?_
          show ∃ j32 : Nat, mj 209 (kI (k : Int)) j32 ∧ (¬ kI ((K j32 : Nat) : Int) = kI 0 → WM mX7_readRow 0 0 Post 8 44 [(0, .ref 0), (1, vI (most : Int)), (2, .ref 5), (3, vI (k : Int))] [] [ob 7 [.ref 1, vI (ln : Int), .ref 2, .ref 3, .ref 4, vI (t : Int)], cB 208 B, cN 209 K, cN 209 Pl, cK 209 C, ob 9 [vI (mo : Int), .ref 6, .ref 7, vI (d : Int)], cI mo nums, cK mo g] 0 0) ∧ (kI ((K j32 : Nat) : Int) = kI 0 → WM mX7_readRow 0 0 Post 8 36 [(0, .ref 0), (1, vI (most : Int)), (2, .ref 5), (3, vI (k : Int))] [] [ob 7 [.ref 1, vI (ln : Int), .ref 2, .ref 3, .ref 4, vI (t : Int)], cB 208 B, cN 209 K, cN 209 Pl, cK 209 C, ob 9 [vI (mo : Int), .ref 6, .ref 7, vI (d : Int)], cI mo nums, cK mo g] 0 0)
          refine ⟨k, ⟨by omega, by omega, rfl⟩, ?_⟩
          refine ⟨fun c33 => ?_, fun c33 => ?_⟩
          · 
            rw [kI_eq (by omega)] at c33
            refine sq_ok rfl [(.aload_n 0, 0, 0, 0), (.iload_n 3, 0, 0, 0)] 44 _ _ _ _ _ (by decide +kernel) ?_
            show WM mX7_readRow 0 0 Post 8 46 [(0, .ref 0), (1, vI (most : Int)), (2, .ref 5), (3, vI (k : Int))] [vI (k : Int), .ref 0] [ob 7 [.ref 1, vI (ln : Int), .ref 2, .ref 3, .ref 4, vI (t : Int)], cB 208 B, cN 209 K, cN 209 Pl, cK 209 C, ob 9 [vI (mo : Int), .ref 6, .ref 7, vI (d : Int)], cI mo nums, cK mo g] 0 0
            refine wm_callV mX7_faultAt [0, 1, 2, 3, 4] (pc := 46) (rest := []) (mc' := 0) (ms' := 0) (by decide +kernel) kX7_58 (c_X7_faultAt B ln K Pl C t ht k (by omega)) rfl rfl ⟨_, rfl, rfl⟩ ⟨Nat.le_of_ble_eq_true rfl, Nat.le_of_ble_eq_true rfl⟩ ⟨Nat.le_of_ble_eq_true rfl, Nat.le_of_ble_eq_true rfl⟩ (Nat.le_of_ble_eq_true rfl) rfl rfl (Nat.le_of_ble_eq_true rfl) rfl ?_
            rintro _ _ ⟨rfl, rfl⟩
            show WM mX7_readRow 0 0 Post 8 49 [(0, .ref 0), (1, vI (most : Int)), (2, .ref 5), (3, vI (k : Int))] [vI (-10 - (Pl k : Int))] [ob 7 [.ref 1, vI (ln : Int), .ref 2, .ref 3, .ref 4, vI (t : Int)], cB 208 B, cN 209 K, cN 209 Pl, cK 209 C, ob 9 [vI (mo : Int), .ref 6, .ref 7, vI (d : Int)], cI mo nums, cK mo g] 0 0
            refine sq_ok rfl [(.ireturn, 0, 0, 0)] 49 _ _ _ _ _ (by decide +kernel) ?_
            show ((0 ≤ 0 ∧ 0 ≤ 0) ∧ Post (some (vI (-10 - (Pl k : Int)))) [ob 7 [.ref 1, vI (ln : Int), .ref 2, .ref 3, .ref 4, vI (t : Int)], cB 208 B, cN 209 K, cN 209 Pl, cK 209 C, ob 9 [vI (mo : Int), .ref 6, .ref 7, vI (d : Int)], cI mo nums, cK mo g])
            refine ⟨⟨Nat.le_refl _, Nat.le_refl _⟩, hp _ _ ?_⟩
            rw [if_neg (by omega), if_pos (by omega)] at hq
            exact ⟨g, d, by rw [hq], rfl, hd, by rw [hq]⟩
          · 
            rw [kI_eq (by omega)] at c33
            refine sq_ok rfl [(.aload_n 2, 0, 0, 0), (.getfield 53, 9, 3, 0), (.iload_n 1, 0, 0, 0), (.if_icmp .lt 9, 0, 0, 0)] 36 _ _ _ _ _ (by decide +kernel) ?_
            show (kI (d : Int) < kI (most : Int) → WM mX7_readRow 0 0 Post 8 50 [(0, .ref 0), (1, vI (most : Int)), (2, .ref 5), (3, vI (k : Int))] [] [ob 7 [.ref 1, vI (ln : Int), .ref 2, .ref 3, .ref 4, vI (t : Int)], cB 208 B, cN 209 K, cN 209 Pl, cK 209 C, ob 9 [vI (mo : Int), .ref 6, .ref 7, vI (d : Int)], cI mo nums, cK mo g] 0 0) ∧ (¬ kI (d : Int) < kI (most : Int) → WM mX7_readRow 0 0 Post 8 44 [(0, .ref 0), (1, vI (most : Int)), (2, .ref 5), (3, vI (k : Int))] [] [ob 7 [.ref 1, vI (ln : Int), .ref 2, .ref 3, .ref 4, vI (t : Int)], cB 208 B, cN 209 K, cN 209 Pl, cK 209 C, ob 9 [vI (mo : Int), .ref 6, .ref 7, vI (d : Int)], cI mo nums, cK mo g] 0 0)
            refine ⟨fun c41 => ?_, fun c41 => ?_⟩
            · 
              rw [kI_lt (by omega)] at c41
              refine sq_ok rfl [(.aload_n 2, 0, 0, 0), (.aload_n 0, 0, 0, 0), (.getfield 22, 7, 4, 0), (.iload_n 3, 0, 0, 0), (.laload, 0, 0, 0)] 50 _ _ _ _ _ (by decide +kernel) ?_
              show ∃ j56 : Nat, mj 209 (kI (k : Int)) j56 ∧ WM mX7_readRow 0 0 Post 8 57 [(0, .ref 0), (1, vI (most : Int)), (2, .ref 5), (3, vI (k : Int))] [vJ ((C j56 : Nat) : Int), .ref 5] [ob 7 [.ref 1, vI (ln : Int), .ref 2, .ref 3, .ref 4, vI (t : Int)], cB 208 B, cN 209 K, cN 209 Pl, cK 209 C, ob 9 [vI (mo : Int), .ref 6, .ref 7, vI (d : Int)], cI mo nums, cK mo g] 0 0
              refine ⟨k, ⟨by omega, by omega, rfl⟩, ?_⟩
              refine wm_callV mX9_addCode [5, 6, 7] (pc := 57) (rest := []) (mc' := 0) (ms' := 0) (by decide +kernel) kX7_61 (c_X9_addCode mo d hmo (by omega) nums g (C k)) rfl rfl ⟨_, rfl, rfl⟩ ⟨Nat.le_of_ble_eq_true rfl, Nat.le_of_ble_eq_true rfl⟩ ⟨Nat.le_of_ble_eq_true rfl, Nat.le_of_ble_eq_true rfl⟩ (Nat.le_of_ble_eq_true rfl) rfl rfl (Nat.le_of_ble_eq_true rfl) rfl ?_
              rintro _ _ ⟨rfl, hw⟩
              rw [if_pos (by omega)] at hw
              subst hw
              show WM mX7_readRow 0 0 Post 8 60 [(0, .ref 0), (1, vI (most : Int)), (2, .ref 5), (3, vI (k : Int))] [] [ob 7 [.ref 1, vI (ln : Int), .ref 2, .ref 3, .ref 4, vI (t : Int)], cB 208 B, cN 209 K, cN 209 Pl, cK 209 C, ob 9 [vI (mo : Int), .ref 6, .ref 7, vI (((d + 1) : Nat) : Int)], cI mo nums, cK mo (va_up g d (C k))] 0 0
              refine sq_ok rfl [(.iinc 3 1, 0, 0, 0), (.goto (-56), 0, 0, 0)] 60 _ _ _ _ _ (by decide +kernel) ?_
              show WM mX7_readRow 0 0 Post 8 7 [(0, .ref 0), (1, vI (most : Int)), (2, .ref 5), (3, .int ((kI (k : Int)) + (kI 1)))] [] [ob 7 [.ref 1, vI (ln : Int), .ref 2, .ref 3, .ref 4, vI (t : Int)], cB 208 B, cN 209 K, cN 209 Pl, cK 209 C, ob 9 [vI (mo : Int), .ref 6, .ref 7, vI (((d + 1) : Nat) : Int)], cI mo nums, cK mo (va_up g d (C k))] 0 0
              have e5 : ((kI (k : Int)) + (kI 1)) = kI ((k : Int) + 1) := by simp only [kI_add, kI_sub, kI_mul]
              rw [e5]
              exact WM.pick [0, 1, 2, 3] rfl (ih7 (k + 1) (d + 1) (va_up g d (C k)) (by omega) (by omega) (by rw [if_neg (by omega), if_neg (by omega)] at hq; rw [lst_up]; exact hq) (by omega))
            · 
              rw [kI_lt (by omega)] at c41
              refine sq_ok rfl [(.aload_n 0, 0, 0, 0), (.iload_n 3, 0, 0, 0)] 44 _ _ _ _ _ (by decide +kernel) ?_
              show WM mX7_readRow 0 0 Post 8 46 [(0, .ref 0), (1, vI (most : Int)), (2, .ref 5), (3, vI (k : Int))] [vI (k : Int), .ref 0] [ob 7 [.ref 1, vI (ln : Int), .ref 2, .ref 3, .ref 4, vI (t : Int)], cB 208 B, cN 209 K, cN 209 Pl, cK 209 C, ob 9 [vI (mo : Int), .ref 6, .ref 7, vI (d : Int)], cI mo nums, cK mo g] 0 0
              refine wm_callV mX7_faultAt [0, 1, 2, 3, 4] (pc := 46) (rest := []) (mc' := 0) (ms' := 0) (by decide +kernel) kX7_58 (c_X7_faultAt B ln K Pl C t ht k (by omega)) rfl rfl ⟨_, rfl, rfl⟩ ⟨Nat.le_of_ble_eq_true rfl, Nat.le_of_ble_eq_true rfl⟩ ⟨Nat.le_of_ble_eq_true rfl, Nat.le_of_ble_eq_true rfl⟩ (Nat.le_of_ble_eq_true rfl) rfl rfl (Nat.le_of_ble_eq_true rfl) rfl ?_
              rintro _ _ ⟨rfl, rfl⟩
              show WM mX7_readRow 0 0 Post 8 49 [(0, .ref 0), (1, vI (most : Int)), (2, .ref 5), (3, vI (k : Int))] [vI (-10 - (Pl k : Int))] [ob 7 [.ref 1, vI (ln : Int), .ref 2, .ref 3, .ref 4, vI (t : Int)], cB 208 B, cN 209 K, cN 209 Pl, cK 209 C, ob 9 [vI (mo : Int), .ref 6, .ref 7, vI (d : Int)], cI mo nums, cK mo g] 0 0
              refine sq_ok rfl [(.ireturn, 0, 0, 0)] 49 _ _ _ _ _ (by decide +kernel) ?_
              show ((0 ≤ 0 ∧ 0 ≤ 0) ∧ Post (some (vI (-10 - (Pl k : Int)))) [ob 7 [.ref 1, vI (ln : Int), .ref 2, .ref 3, .ref 4, vI (t : Int)], cB 208 B, cN 209 K, cN 209 Pl, cK 209 C, ob 9 [vI (mo : Int), .ref 6, .ref 7, vI (d : Int)], cI mo nums, cK mo g])
              refine ⟨⟨Nat.le_refl _, Nat.le_refl _⟩, hp _ _ ?_⟩
              rw [if_neg (by omega), if_pos (by omega)] at hq
              exact ⟨g, d, by rw [hq], rfl, hd, by rw [hq]⟩
        · 
          rw [kI_eq (by omega)] at c22
          refine sq_ok rfl [(.iconst 0, 0, 0, 0), (.ireturn, 0, 0, 0)] 25 _ _ _ _ _ (by decide +kernel) ?_
          show ((0 ≤ 0 ∧ 0 ≤ 0) ∧ Post (some (vI 0)) [ob 7 [.ref 1, vI (ln : Int), .ref 2, .ref 3, .ref 4, vI (t : Int)], cB 208 B, cN 209 K, cN 209 Pl, cK 209 C, ob 9 [vI (mo : Int), .ref 6, .ref 7, vI (d : Int)], cI mo nums, cK mo g])
          refine ⟨⟨Nat.le_refl _, Nat.le_refl _⟩, hp _ _ ?_⟩
          rw [if_pos (by omega)] at hq
          exact ⟨g, d, by rw [hq], rfl, hd, by rw [hq]⟩
  exact WM.pick [0, 1, 2, 3] rfl (lp7 _ 0 0 rcodes (by omega) (by omega) (by simp [lst]) (Nat.lt_succ_self _))
