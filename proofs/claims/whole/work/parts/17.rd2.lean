/-! RuleReader: takes, readRule -/
section
variable {p : Pst} {k c : Nat}
theorem ps0w (hk : k = 0) (h : ¬ p.1 = 3) : pstep p k c = pWord p c := by unfold pstep; rw [if_pos hk, if_neg h]
theorem ps0t (hk : k = 0) (h : p.1 = 3) : pstep p k c = pTen p c := by unfold pstep; rw [if_pos hk, if_pos h]
theorem ps1 (hk : k = 1) : pstep p k c = if p.1 = 2 ∨ p.1 = 4 then some (0, p.2) else none := by unfold pstep; rw [if_neg (show ¬ k = 0 by omega), if_pos hk]
theorem ps2 (hk : k = 2) : pstep p k c = if p.1 = 2 then some (3, p.2) else none := by unfold pstep; rw [if_neg (show ¬ k = 0 by omega), if_neg (show ¬ k = 1 by omega), if_pos hk]
theorem ps3 (hk : k = 3) : pstep p k c = if p.1 = 2 ∨ p.1 = 4 then pArr p else none := by unfold pstep; rw [if_neg (show ¬ k = 0 by omega), if_neg (show ¬ k = 1 by omega), if_neg (show ¬ k = 2 by omega), if_pos hk]
theorem ps4 (hk : k = 4) : pstep p k c = if p.1 = 2 ∨ p.1 = 4 ∨ p.1 = 1 then some p else none := by unfold pstep; rw [if_neg (show ¬ k = 0 by omega), if_neg (show ¬ k = 1 by omega), if_neg (show ¬ k = 2 by omega), if_neg (show ¬ k = 3 by omega), if_pos hk]
theorem ps5 (h0 : ¬ k = 0) (h1 : ¬ k = 1) (h2 : ¬ k = 2) (h3 : ¬ k = 3) (h4 : ¬ k = 4) : pstep p k c = none := by unfold pstep; rw [if_neg h0, if_neg h1, if_neg h2, if_neg h3, if_neg h4]
end
def prule : Pst → List (Nat × Nat × Nat) → Int × Pst
  | p, [] => (0, p)
  | p, x :: T => match pstep p x.1 x.2.2 with
    | some p' => prule p' T
    | none => (-10 - (x.2.1 : Int), p)
theorem prule_some {p p' : Pst} {x : Nat × Nat × Nat} {T : List (Nat × Nat × Nat)} (h : pstep p x.1 x.2.2 = some p') : prule p (x :: T) = prule p' T := by simp only [prule, h]
theorem prule_none {p : Pst} {x : Nat × Nat × Nat} {T : List (Nat × Nat × Nat)} (h : pstep p x.1 x.2.2 = none) : prule p (x :: T) = (-10 - (x.2.1 : Int), p) := by simp only [prule, h]

set_option maxRecDepth 100000 in
set_option maxHeartbeats 4000000 in
theorem c_X3_takes (lens tens phr : Nat → Nat) (s ah : Nat) (ar : Bool) (q : Nat) (mo d : Nat) (hmo : 64 ≤ mo ∧ mo < 2147483648) (nums : Nat → Int) (g : Nat → Nat) (c : Nat) (hI : pInv lens s ah q d) (k : Nat) (hk : k ≤ 5) (hc : c < 9223372036854775808) : CT mX3_takes 0 0 [.ref 0, vI (k : Int), vJ (c : Int), .ref 4] [ob 3 [.ref 1, .ref 2, .ref 3, vI (s : Int), vI (ah : Int), vZ ar, vI (q : Int)], cN 16 lens, cN 16 tens, cN 16 phr, ob 9 [vI (mo : Int), .ref 5, .ref 6, vI (d : Int)], cI mo nums, cK mo g] (fun r w => ∃ (lens2 tens2 : Nat → Nat) (s2 ah2 : Nat) (ar2 : Bool) (q2 : Nat) (g2 : Nat → Nat) (d2 : Nat) (b : Bool), r = some (vZ b) ∧ w = [ob 3 [.ref 1, .ref 2, .ref 3, vI (s2 : Int), vI (ah2 : Int), vZ ar2, vI (q2 : Int)], cN 16 lens2, cN 16 tens2, cN 16 phr, ob 9 [vI (mo : Int), .ref 5, .ref 6, vI (d2 : Int)], cI mo nums, cK mo g2] ∧ if b then pstep (pabs lens tens s ah ar q g d) k c = some (pabs lens2 tens2 s2 ah2 ar2 q2 g2 d2) ∧ pInv lens2 s2 ah2 q2 d2 else pstep (pabs lens tens s ah ar q g d) k c = none) := by
  refine CT.intro rfl (Nat.le_of_ble_eq_true rfl) ?_
  generalize hPost : (fun r w => ∃ (lens2 tens2 : Nat → Nat) (s2 ah2 : Nat) (ar2 : Bool) (q2 : Nat) (g2 : Nat → Nat) (d2 : Nat) (b : Bool), r = some (vZ b) ∧ w = [ob 3 [.ref 1, .ref 2, .ref 3, vI (s2 : Int), vI (ah2 : Int), vZ ar2, vI (q2 : Int)], cN 16 lens2, cN 16 tens2, cN 16 phr, ob 9 [vI (mo : Int), .ref 5, .ref 6, vI (d2 : Int)], cI mo nums, cK mo g2] ∧ if b then pstep (pabs lens tens s ah ar q g d) k c = some (pabs lens2 tens2 s2 ah2 ar2 q2 g2 d2) ∧ pInv lens2 s2 ah2 q2 d2 else pstep (pabs lens tens s ah ar q g d) k c = none : MP) = Post
  have hp : ∀ r w', (fun r w => ∃ (lens2 tens2 : Nat → Nat) (s2 ah2 : Nat) (ar2 : Bool) (q2 : Nat) (g2 : Nat → Nat) (d2 : Nat) (b : Bool), r = some (vZ b) ∧ w = [ob 3 [.ref 1, .ref 2, .ref 3, vI (s2 : Int), vI (ah2 : Int), vZ ar2, vI (q2 : Int)], cN 16 lens2, cN 16 tens2, cN 16 phr, ob 9 [vI (mo : Int), .ref 5, .ref 6, vI (d2 : Int)], cI mo nums, cK mo g2] ∧ if b then pstep (pabs lens tens s ah ar q g d) k c = some (pabs lens2 tens2 s2 ah2 ar2 q2 g2 d2) ∧ pInv lens2 s2 ah2 q2 d2 else pstep (pabs lens tens s ah ar q g d) k c = none : MP) r w' → Post r w' := by rw [← hPost]; exact fun _ _ h => h
  clear hPost
  obtain ⟨i1, i2, i3, i4, i5, i6, i7⟩ := id hI
  show WM mX3_takes 0 0 Post 7 0 [(0, .ref 0), (1, vI (k : Int)), (2, vJ (c : Int)), (4, .ref 4)] [] [ob 3 [.ref 1, .ref 2, .ref 3, vI (s : Int), vI (ah : Int), vZ ar, vI (q : Int)], cN 16 lens, cN 16 tens, cN 16 phr, ob 9 [vI (mo : Int), .ref 5, .ref 6, vI (d : Int)], cI mo nums, cK mo g] 0 0
  refine sq_ok rfl [(.aload_n 0, 0, 0, 0), (.getfield 32, 3, 6, 0), (.iconst 2, 0, 0, 0), (.if_icmp .eq 11, 0, 0, 0)] 0 _ _ _ _ _ (by decide +kernel) ?_
  show (kI (q : Int) = kI 2 → WM mX3_takes 0 0 Post 7 16 [(0, .ref 0), (1, vI (k : Int)), (2, vJ (c : Int)), (4, .ref 4)] [] [ob 3 [.ref 1, .ref 2, .ref 3, vI (s : Int), vI (ah : Int), vZ ar, vI (q : Int)], cN 16 lens, cN 16 tens, cN 16 phr, ob 9 [vI (mo : Int), .ref 5, .ref 6, vI (d : Int)], cI mo nums, cK mo g] 0 0) ∧ (¬ kI (q : Int) = kI 2 → WM mX3_takes 0 0 Post 7 8 [(0, .ref 0), (1, vI (k : Int)), (2, vJ (c : Int)), (4, .ref 4)] [] [ob 3 [.ref 1, .ref 2, .ref 3, vI (s : Int), vI (ah : Int), vZ ar, vI (q : Int)], cN 16 lens, cN 16 tens, cN 16 phr, ob 9 [vI (mo : Int), .ref 5, .ref 6, vI (d : Int)], cI mo nums, cK mo g] 0 0)
  refine ⟨fun c5 => ?_, fun c5 => ?_⟩
  · 
    rw [kI_eq (by omega)] at c5
    refine sq_ok rfl [(.iconst 1, 0, 0, 0), (.goto 4, 0, 0, 0)] 16 _ _ _ _ _ (by decide +kernel) ?_
    show WM mX3_takes 0 0 Post 7 21 [(0, .ref 0), (1, vI (k : Int)), (2, vJ (c : Int)), (4, .ref 4)] [vI 1] [ob 3 [.ref 1, .ref 2, .ref 3, vI (s : Int), vI (ah : Int), vZ ar, vI (q : Int)], cN 16 lens, cN 16 tens, cN 16 phr, ob 9 [vI (mo : Int), .ref 5, .ref 6, vI (d : Int)], cI mo nums, cK mo g] 0 0
    refine sq_ok rfl [(.istore 5, 0, 0, 0), (.iload_n 1, 0, 0, 0), (.tableswitch 134 0 4 #[36, 60, 80, 97, 115], 0, 0, 36)] 21 _ _ _ _ _ (by decide +kernel) ?_
    show (kI (k : Int) = kI 0 → WM mX3_takes 0 0 Post 7 60 [(0, .ref 0), (1, vI (k : Int)), (2, vJ (c : Int)), (4, .ref 4), (5, vI 1)] [] [ob 3 [.ref 1, .ref 2, .ref 3, vI (s : Int), vI (ah : Int), vZ ar, vI (q : Int)], cN 16 lens, cN 16 tens, cN 16 phr, ob 9 [vI (mo : Int), .ref 5, .ref 6, vI (d : Int)], cI mo nums, cK mo g] 0 0) ∧ (¬ kI (k : Int) = kI 0 → (kI (k : Int) = kI 1 → WM mX3_takes 0 0 Post 7 84 [(0, .ref 0), (1, vI (k : Int)), (2, vJ (c : Int)), (4, .ref 4), (5, vI 1)] [] [ob 3 [.ref 1, .ref 2, .ref 3, vI (s : Int), vI (ah : Int), vZ ar, vI (q : Int)], cN 16 lens, cN 16 tens, cN 16 phr, ob 9 [vI (mo : Int), .ref 5, .ref 6, vI (d : Int)], cI mo nums, cK mo g] 0 0) ∧ (¬ kI (k : Int) = kI 1 → (kI (k : Int) = kI 2 → WM mX3_takes 0 0 Post 7 104 [(0, .ref 0), (1, vI (k : Int)), (2, vJ (c : Int)), (4, .ref 4), (5, vI 1)] [] [ob 3 [.ref 1, .ref 2, .ref 3, vI (s : Int), vI (ah : Int), vZ ar, vI (q : Int)], cN 16 lens, cN 16 tens, cN 16 phr, ob 9 [vI (mo : Int), .ref 5, .ref 6, vI (d : Int)], cI mo nums, cK mo g] 0 0) ∧ (¬ kI (k : Int) = kI 2 → (kI (k : Int) = kI 3 → WM mX3_takes 0 0 Post 7 121 [(0, .ref 0), (1, vI (k : Int)), (2, vJ (c : Int)), (4, .ref 4), (5, vI 1)] [] [ob 3 [.ref 1, .ref 2, .ref 3, vI (s : Int), vI (ah : Int), vZ ar, vI (q : Int)], cN 16 lens, cN 16 tens, cN 16 phr, ob 9 [vI (mo : Int), .ref 5, .ref 6, vI (d : Int)], cI mo nums, cK mo g] 0 0) ∧ (¬ kI (k : Int) = kI 3 → (kI (k : Int) = kI 4 → WM mX3_takes 0 0 Post 7 139 [(0, .ref 0), (1, vI (k : Int)), (2, vJ (c : Int)), (4, .ref 4), (5, vI 1)] [] [ob 3 [.ref 1, .ref 2, .ref 3, vI (s : Int), vI (ah : Int), vZ ar, vI (q : Int)], cN 16 lens, cN 16 tens, cN 16 phr, ob 9 [vI (mo : Int), .ref 5, .ref 6, vI (d : Int)], cI mo nums, cK mo g] 0 0) ∧ (¬ kI (k : Int) = kI 4 → WM mX3_takes 0 0 Post 7 158 [(0, .ref 0), (1, vI (k : Int)), (2, vJ (c : Int)), (4, .ref 4), (5, vI 1)] [] [ob 3 [.ref 1, .ref 2, .ref 3, vI (s : Int), vI (ah : Int), vZ ar, vI (q : Int)], cN 16 lens, cN 16 tens, cN 16 phr, ob 9 [vI (mo : Int), .ref 5, .ref 6, vI (d : Int)], cI mo nums, cK mo g] 0 0)))))
    refine ⟨fun s24_0 => ?_, fun s24_0 => ?_⟩
    · 
      rw [kI_eq (by omega)] at s24_0
      refine sq_ok rfl [(.aload_n 0, 0, 0, 0), (.getfield 32, 3, 6, 0), (.iconst 3, 0, 0, 0), (.if_icmp .ne 11, 0, 0, 0)] 60 _ _ _ _ _ (by decide +kernel) ?_
      show (¬ kI (q : Int) = kI 3 → WM mX3_takes 0 0 Post 7 76 [(0, .ref 0), (1, vI (k : Int)), (2, vJ (c : Int)), (4, .ref 4), (5, vI 1)] [] [ob 3 [.ref 1, .ref 2, .ref 3, vI (s : Int), vI (ah : Int), vZ ar, vI (q : Int)], cN 16 lens, cN 16 tens, cN 16 phr, ob 9 [vI (mo : Int), .ref 5, .ref 6, vI (d : Int)], cI mo nums, cK mo g] 0 0) ∧ (kI (q : Int) = kI 3 → WM mX3_takes 0 0 Post 7 68 [(0, .ref 0), (1, vI (k : Int)), (2, vJ (c : Int)), (4, .ref 4), (5, vI 1)] [] [ob 3 [.ref 1, .ref 2, .ref 3, vI (s : Int), vI (ah : Int), vZ ar, vI (q : Int)], cN 16 lens, cN 16 tens, cN 16 phr, ob 9 [vI (mo : Int), .ref 5, .ref 6, vI (d : Int)], cI mo nums, cK mo g] 0 0)
      refine ⟨fun c65 => ?_, fun c65 => ?_⟩
      · 
        rw [kI_eq (by omega)] at c65
        refine sq_ok rfl [(.aload_n 0, 0, 0, 0), (.lload_n 2, 0, 0, 0), (.aload 4, 0, 0, 0)] 76 _ _ _ _ _ (by decide +kernel) ?_
        show WM mX3_takes 0 0 Post 7 80 [(0, .ref 0), (1, vI (k : Int)), (2, vJ (c : Int)), (4, .ref 4), (5, vI 1)] [.ref 4, vJ (c : Int), .ref 0] [ob 3 [.ref 1, .ref 2, .ref 3, vI (s : Int), vI (ah : Int), vZ ar, vI (q : Int)], cN 16 lens, cN 16 tens, cN 16 phr, ob 9 [vI (mo : Int), .ref 5, .ref 6, vI (d : Int)], cI mo nums, cK mo g] 0 0
        refine wm_callV mX3_takesWord [0, 1, 2, 3, 4, 5, 6] (pc := 80) (rest := []) (mc' := 0) (ms' := 0) (by decide +kernel) kX3_64 (c_X3_takesWord lens tens phr s ah ar q mo d hmo nums g c hI) rfl rfl ⟨_, rfl, rfl⟩ ⟨Nat.le_of_ble_eq_true rfl, Nat.le_of_ble_eq_true rfl⟩ ⟨Nat.le_of_ble_eq_true rfl, Nat.le_of_ble_eq_true rfl⟩ (Nat.le_of_ble_eq_true rfl) rfl rfl (Nat.le_of_ble_eq_true rfl) rfl ?_
        rintro _ _ ⟨lens2, tens2, s2, q2, g2, d2, b, rfl, rfl, hb⟩
        show WM mX3_takes 0 0 Post 7 83 [(0, .ref 0), (1, vI (k : Int)), (2, vJ (c : Int)), (4, .ref 4), (5, vI 1)] [vZ b] [ob 3 [.ref 1, .ref 2, .ref 3, vI (s2 : Int), vI (ah : Int), vZ ar, vI (q2 : Int)], cN 16 lens2, cN 16 tens2, cN 16 phr, ob 9 [vI (mo : Int), .ref 5, .ref 6, vI (d2 : Int)], cI mo nums, cK mo g2] 0 0
        refine sq_ok rfl [(.ireturn, 0, 0, 0)] 83 _ _ _ _ _ (by decide +kernel) ?_
        show narrow .boolean (.int (bI b)) = .int (bI b) ∧ ((0 ≤ 0 ∧ 0 ≤ 0) ∧ Post (some (vZ b)) [ob 3 [.ref 1, .ref 2, .ref 3, vI (s2 : Int), vI (ah : Int), vZ ar, vI (q2 : Int)], cN 16 lens2, cN 16 tens2, cN 16 phr, ob 9 [vI (mo : Int), .ref 5, .ref 6, vI (d2 : Int)], cI mo nums, cK mo g2])
        refine ⟨(bI_fits b).1, ?_⟩
        refine ⟨⟨Nat.le_refl _, Nat.le_refl _⟩, hp _ _ ?_⟩
        first
        | exact ⟨lens2, tens2, s2, ah, ar, q2, g2, d2, b, rfl, rfl, by rw [ps0w (by omega) (show ¬ q = 3 by omega)]; exact hb⟩
        | exact ⟨lens, va_up tens (s - 1) (tenW c), s, ah, ar, 4, g, d, true, rfl, rfl, by
            rw [if_pos rfl, ps0t (by omega) (show q = 3 by omega)]
            refine ⟨?_, by omega, i2, i3, fun _ => by omega, i5, i6, i7⟩
            unfold pTen
            rw [if_neg (fun h => hb2 (h.imp id (sd_ne lens tens).mp)), sd_last lens tens (by omega)]
            unfold pabs
            rw [sd_set (lens := lens) (tens := tens) (by omega) (fun _ _ => rfl) (fun j hj => up_ne _ _ (by omega)), up_eq]⟩
        | exact ⟨lens, tens, s, ah, ar, q, g, d, false, rfl, rfl, by
            rw [ps0t (by omega) (show q = 3 by omega)]
            unfold pTen
            rw [if_pos (hb2.imp id (sd_ne lens tens).mpr)]
            rfl⟩
      · 
        rw [kI_eq (by omega)] at c65
        refine sq_ok rfl [(.aload_n 0, 0, 0, 0), (.lload_n 2, 0, 0, 0)] 68 _ _ _ _ _ (by decide +kernel) ?_
        show WM mX3_takes 0 0 Post 7 70 [(0, .ref 0), (1, vI (k : Int)), (2, vJ (c : Int)), (4, .ref 4), (5, vI 1)] [vJ (c : Int), .ref 0] [ob 3 [.ref 1, .ref 2, .ref 3, vI (s : Int), vI (ah : Int), vZ ar, vI (q : Int)], cN 16 lens, cN 16 tens, cN 16 phr, ob 9 [vI (mo : Int), .ref 5, .ref 6, vI (d : Int)], cI mo nums, cK mo g] 0 0
        refine wm_callV mX3_takesTenths [0, 1, 2, 3] (pc := 70) (rest := []) (mc' := 0) (ms' := 0) (by decide +kernel) kX3_60 (c_X3_takesTenths lens tens phr s ah ar q i2 c hc) rfl rfl ⟨_, rfl, rfl⟩ ⟨Nat.le_of_ble_eq_true rfl, Nat.le_of_ble_eq_true rfl⟩ ⟨Nat.le_of_ble_eq_true rfl, Nat.le_of_ble_eq_true rfl⟩ (Nat.le_of_ble_eq_true rfl) rfl rfl (Nat.le_of_ble_eq_true rfl) rfl ?_
        rintro _ _ ⟨b, rfl, ⟨rfl, rfl, hb2⟩ | ⟨rfl, rfl, hb2⟩⟩
        · 
          show WM mX3_takes 0 0 Post 7 73 [(0, .ref 0), (1, vI (k : Int)), (2, vJ (c : Int)), (4, .ref 4), (5, vI 1)] [vZ false] [ob 3 [.ref 1, .ref 2, .ref 3, vI (s : Int), vI (ah : Int), vZ ar, vI (q : Int)], cN 16 lens, cN 16 tens, cN 16 phr, ob 9 [vI (mo : Int), .ref 5, .ref 6, vI (d : Int)], cI mo nums, cK mo g] 0 0
          refine sq_ok rfl [(.goto 10, 0, 0, 0)] 73 _ _ _ _ _ (by decide +kernel) ?_
          show WM mX3_takes 0 0 Post 7 83 [(0, .ref 0), (1, vI (k : Int)), (2, vJ (c : Int)), (4, .ref 4), (5, vI 1)] [vZ false] [ob 3 [.ref 1, .ref 2, .ref 3, vI (s : Int), vI (ah : Int), vZ ar, vI (q : Int)], cN 16 lens, cN 16 tens, cN 16 phr, ob 9 [vI (mo : Int), .ref 5, .ref 6, vI (d : Int)], cI mo nums, cK mo g] 0 0
          refine sq_ok rfl [(.ireturn, 0, 0, 0)] 83 _ _ _ _ _ (by decide +kernel) ?_
          show narrow .boolean (.int (bI false)) = .int (bI false) ∧ ((0 ≤ 0 ∧ 0 ≤ 0) ∧ Post (some (vZ false)) [ob 3 [.ref 1, .ref 2, .ref 3, vI (s : Int), vI (ah : Int), vZ ar, vI (q : Int)], cN 16 lens, cN 16 tens, cN 16 phr, ob 9 [vI (mo : Int), .ref 5, .ref 6, vI (d : Int)], cI mo nums, cK mo g])
          refine ⟨(bI_fits false).1, ?_⟩
          refine ⟨⟨Nat.le_refl _, Nat.le_refl _⟩, hp _ _ ?_⟩
          first
          | exact ⟨lens2, tens2, s2, ah, ar, q2, g2, d2, b, rfl, rfl, by rw [ps0w (by omega) (show ¬ q = 3 by omega)]; exact hb⟩
          | exact ⟨lens, va_up tens (s - 1) (tenW c), s, ah, ar, 4, g, d, true, rfl, rfl, by
              rw [if_pos rfl, ps0t (by omega) (show q = 3 by omega)]
              refine ⟨?_, by omega, i2, i3, fun _ => by omega, i5, i6, i7⟩
              unfold pTen
              rw [if_neg (fun h => hb2 (h.imp id (sd_ne lens tens).mp)), sd_last lens tens (by omega)]
              unfold pabs
              rw [sd_set (lens := lens) (tens := tens) (by omega) (fun _ _ => rfl) (fun j hj => up_ne _ _ (by omega)), up_eq]⟩
          | exact ⟨lens, tens, s, ah, ar, q, g, d, false, rfl, rfl, by
              rw [ps0t (by omega) (show q = 3 by omega)]
              unfold pTen
              rw [if_pos (hb2.imp id (sd_ne lens tens).mpr)]
              rfl⟩
        · 
          show WM mX3_takes 0 0 Post 7 73 [(0, .ref 0), (1, vI (k : Int)), (2, vJ (c : Int)), (4, .ref 4), (5, vI 1)] [vZ true] [ob 3 [.ref 1, .ref 2, .ref 3, vI (s : Int), vI (ah : Int), vZ ar, vI 4], cN 16 lens, cN 16 (va_up tens (s - 1) (tenW c)), cN 16 phr, ob 9 [vI (mo : Int), .ref 5, .ref 6, vI (d : Int)], cI mo nums, cK mo g] 0 0
          refine sq_ok rfl [(.goto 10, 0, 0, 0)] 73 _ _ _ _ _ (by decide +kernel) ?_
          show WM mX3_takes 0 0 Post 7 83 [(0, .ref 0), (1, vI (k : Int)), (2, vJ (c : Int)), (4, .ref 4), (5, vI 1)] [vZ true] [ob 3 [.ref 1, .ref 2, .ref 3, vI (s : Int), vI (ah : Int), vZ ar, vI 4], cN 16 lens, cN 16 (va_up tens (s - 1) (tenW c)), cN 16 phr, ob 9 [vI (mo : Int), .ref 5, .ref 6, vI (d : Int)], cI mo nums, cK mo g] 0 0
          refine sq_ok rfl [(.ireturn, 0, 0, 0)] 83 _ _ _ _ _ (by decide +kernel) ?_
          show narrow .boolean (.int (bI true)) = .int (bI true) ∧ ((0 ≤ 0 ∧ 0 ≤ 0) ∧ Post (some (vZ true)) [ob 3 [.ref 1, .ref 2, .ref 3, vI (s : Int), vI (ah : Int), vZ ar, vI 4], cN 16 lens, cN 16 (va_up tens (s - 1) (tenW c)), cN 16 phr, ob 9 [vI (mo : Int), .ref 5, .ref 6, vI (d : Int)], cI mo nums, cK mo g])
          refine ⟨(bI_fits true).1, ?_⟩
          refine ⟨⟨Nat.le_refl _, Nat.le_refl _⟩, hp _ _ ?_⟩
          first
          | exact ⟨lens2, tens2, s2, ah, ar, q2, g2, d2, b, rfl, rfl, by rw [ps0w (by omega) (show ¬ q = 3 by omega)]; exact hb⟩
          | exact ⟨lens, va_up tens (s - 1) (tenW c), s, ah, ar, 4, g, d, true, rfl, rfl, by
              rw [if_pos rfl, ps0t (by omega) (show q = 3 by omega)]
              refine ⟨?_, by omega, i2, i3, fun _ => by omega, i5, i6, i7⟩
              unfold pTen
              rw [if_neg (fun h => hb2 (h.imp id (sd_ne lens tens).mp)), sd_last lens tens (by omega)]
              unfold pabs
              rw [sd_set (lens := lens) (tens := tens) (by omega) (fun _ _ => rfl) (fun j hj => up_ne _ _ (by omega)), up_eq]⟩
          | exact ⟨lens, tens, s, ah, ar, q, g, d, false, rfl, rfl, by
              rw [ps0t (by omega) (show q = 3 by omega)]
              unfold pTen
              rw [if_pos (hb2.imp id (sd_ne lens tens).mpr)]
              rfl⟩
    · 
      rw [kI_eq (by omega)] at s24_0
      refine ⟨fun s24_1 => ?_, fun s24_1 => ?_⟩
      · 
        rw [kI_eq (by omega)] at s24_1
        refine sq_ok rfl [(.aload_n 0, 0, 0, 0), (.iload 5, 0, 0, 0), (.ifCond .eq 7, 0, 0, 0)] 84 _ _ _ _ _ (by decide +kernel) ?_
        show (kI 1 = kI 0 → WM mX3_takes 0 0 Post 7 94 [(0, .ref 0), (1, vI (k : Int)), (2, vJ (c : Int)), (4, .ref 4), (5, vI 1)] [.ref 0] [ob 3 [.ref 1, .ref 2, .ref 3, vI (s : Int), vI (ah : Int), vZ ar, vI (q : Int)], cN 16 lens, cN 16 tens, cN 16 phr, ob 9 [vI (mo : Int), .ref 5, .ref 6, vI (d : Int)], cI mo nums, cK mo g] 0 0) ∧ (¬ kI 1 = kI 0 → WM mX3_takes 0 0 Post 7 90 [(0, .ref 0), (1, vI (k : Int)), (2, vJ (c : Int)), (4, .ref 4), (5, vI 1)] [.ref 0] [ob 3 [.ref 1, .ref 2, .ref 3, vI (s : Int), vI (ah : Int), vZ ar, vI (q : Int)], cN 16 lens, cN 16 tens, cN 16 phr, ob 9 [vI (mo : Int), .ref 5, .ref 6, vI (d : Int)], cI mo nums, cK mo g] 0 0)
        refine ⟨fun c87 => ?_, fun c87 => ?_⟩
        · 
          exact absurd c87 (by decide)
        · 
          rw [kI_eq (by omega)] at c87
          refine sq_ok rfl [(.iconst 0, 0, 0, 0), (.goto 7, 0, 0, 0)] 90 _ _ _ _ _ (by decide +kernel) ?_
          show WM mX3_takes 0 0 Post 7 98 [(0, .ref 0), (1, vI (k : Int)), (2, vJ (c : Int)), (4, .ref 4), (5, vI 1)] [vI 0, .ref 0] [ob 3 [.ref 1, .ref 2, .ref 3, vI (s : Int), vI (ah : Int), vZ ar, vI (q : Int)], cN 16 lens, cN 16 tens, cN 16 phr, ob 9 [vI (mo : Int), .ref 5, .ref 6, vI (d : Int)], cI mo nums, cK mo g] 0 0
          refine sq_ok rfl [(.putfield 32, 3, 6, 0), (.iload 5, 0, 0, 0), (.ireturn, 0, 0, 0)] 98 _ _ _ _ _ (by decide +kernel) ?_
          show narrow .boolean (.int (kI 1)) = .int (kI 1) ∧ ((0 ≤ 0 ∧ 0 ≤ 0) ∧ Post (some (vI 1)) [ob 3 [.ref 1, .ref 2, .ref 3, vI (s : Int), vI (ah : Int), vZ ar, vI 0], cN 16 lens, cN 16 tens, cN 16 phr, ob 9 [vI (mo : Int), .ref 5, .ref 6, vI (d : Int)], cI mo nums, cK mo g])
          refine ⟨(bI_fits true).1, ?_⟩
          refine ⟨⟨Nat.le_refl _, Nat.le_refl _⟩, hp _ _ ?_⟩
          first
          | exact ⟨lens, tens, s, ah, ar, 0, g, d, true, rfl, rfl, by rw [if_pos rfl, ps1 (by omega), if_pos (show q = 2 ∨ q = 4 by omega)]; exact ⟨rfl, by omega, i2, i3, fun h => by omega, i5, i6, i7⟩⟩
          | exact ⟨lens, tens, s, ah, ar, q, g, d, false, rfl, rfl, by rw [ps1 (by omega), if_neg (show ¬ (q = 2 ∨ q = 4) by omega)]; rfl⟩
      · 
        rw [kI_eq (by omega)] at s24_1
        refine ⟨fun s24_2 => ?_, fun s24_2 => ?_⟩
        · 
          rw [kI_eq (by omega)] at s24_2
          refine sq_ok rfl [(.aload_n 0, 0, 0, 0), (.getfield 32, 3, 6, 0), (.iconst 2, 0, 0, 0), (.if_icmp .eq 5, 0, 0, 0)] 104 _ _ _ _ _ (by decide +kernel) ?_
          show (kI (q : Int) = kI 2 → WM mX3_takes 0 0 Post 7 114 [(0, .ref 0), (1, vI (k : Int)), (2, vJ (c : Int)), (4, .ref 4), (5, vI 1)] [] [ob 3 [.ref 1, .ref 2, .ref 3, vI (s : Int), vI (ah : Int), vZ ar, vI (q : Int)], cN 16 lens, cN 16 tens, cN 16 phr, ob 9 [vI (mo : Int), .ref 5, .ref 6, vI (d : Int)], cI mo nums, cK mo g] 0 0) ∧ (¬ kI (q : Int) = kI 2 → WM mX3_takes 0 0 Post 7 112 [(0, .ref 0), (1, vI (k : Int)), (2, vJ (c : Int)), (4, .ref 4), (5, vI 1)] [] [ob 3 [.ref 1, .ref 2, .ref 3, vI (s : Int), vI (ah : Int), vZ ar, vI (q : Int)], cN 16 lens, cN 16 tens, cN 16 phr, ob 9 [vI (mo : Int), .ref 5, .ref 6, vI (d : Int)], cI mo nums, cK mo g] 0 0)
          refine ⟨fun c109 => ?_, fun c109 => ?_⟩
          · 
            rw [kI_eq (by omega)] at c109
            refine sq_ok rfl [(.aload_n 0, 0, 0, 0), (.iconst 3, 0, 0, 0), (.putfield 32, 3, 6, 0), (.iconst 1, 0, 0, 0), (.ireturn, 0, 0, 0)] 114 _ _ _ _ _ (by decide +kernel) ?_
            show narrow .boolean (.int (kI 1)) = .int (kI 1) ∧ ((0 ≤ 0 ∧ 0 ≤ 0) ∧ Post (some (vI 1)) [ob 3 [.ref 1, .ref 2, .ref 3, vI (s : Int), vI (ah : Int), vZ ar, vI 3], cN 16 lens, cN 16 tens, cN 16 phr, ob 9 [vI (mo : Int), .ref 5, .ref 6, vI (d : Int)], cI mo nums, cK mo g])
            refine ⟨(bI_fits true).1, ?_⟩
            refine ⟨⟨Nat.le_refl _, Nat.le_refl _⟩, hp _ _ ?_⟩
            exact ⟨lens, tens, s, ah, ar, 3, g, d, true, rfl, rfl, by rw [if_pos rfl, ps2 (by omega), if_pos (show q = 2 by omega)]; exact ⟨rfl, by omega, i2, i3, fun h => i4 (by omega), i5, i6, i7⟩⟩
          · 
            rw [kI_eq (by omega)] at c109
            refine sq_ok rfl [(.iconst 0, 0, 0, 0), (.ireturn, 0, 0, 0)] 112 _ _ _ _ _ (by decide +kernel) ?_
            show narrow .boolean (.int (kI 0)) = .int (kI 0) ∧ ((0 ≤ 0 ∧ 0 ≤ 0) ∧ Post (some (vI 0)) [ob 3 [.ref 1, .ref 2, .ref 3, vI (s : Int), vI (ah : Int), vZ ar, vI (q : Int)], cN 16 lens, cN 16 tens, cN 16 phr, ob 9 [vI (mo : Int), .ref 5, .ref 6, vI (d : Int)], cI mo nums, cK mo g])
            refine ⟨(bI_fits false).1, ?_⟩
            refine ⟨⟨Nat.le_refl _, Nat.le_refl _⟩, hp _ _ ?_⟩
            exact ⟨lens, tens, s, ah, ar, q, g, d, false, rfl, rfl, by rw [ps2 (by omega), if_neg (show ¬ q = 2 by omega)]; rfl⟩
        · 
          rw [kI_eq (by omega)] at s24_2
          refine ⟨fun s24_3 => ?_, fun s24_3 => ?_⟩
          · 
            rw [kI_eq (by omega)] at s24_3
            refine sq_ok rfl [(.iload 5, 0, 0, 0), (.ifCond .eq 14, 0, 0, 0)] 121 _ _ _ _ _ (by decide +kernel) ?_
            show (kI 1 = kI 0 → WM mX3_takes 0 0 Post 7 137 [(0, .ref 0), (1, vI (k : Int)), (2, vJ (c : Int)), (4, .ref 4), (5, vI 1)] [] [ob 3 [.ref 1, .ref 2, .ref 3, vI (s : Int), vI (ah : Int), vZ ar, vI (q : Int)], cN 16 lens, cN 16 tens, cN 16 phr, ob 9 [vI (mo : Int), .ref 5, .ref 6, vI (d : Int)], cI mo nums, cK mo g] 0 0) ∧ (¬ kI 1 = kI 0 → WM mX3_takes 0 0 Post 7 126 [(0, .ref 0), (1, vI (k : Int)), (2, vJ (c : Int)), (4, .ref 4), (5, vI 1)] [] [ob 3 [.ref 1, .ref 2, .ref 3, vI (s : Int), vI (ah : Int), vZ ar, vI (q : Int)], cN 16 lens, cN 16 tens, cN 16 phr, ob 9 [vI (mo : Int), .ref 5, .ref 6, vI (d : Int)], cI mo nums, cK mo g] 0 0)
            refine ⟨fun c123 => ?_, fun c123 => ?_⟩
            · 
              exact absurd c123 (by decide)
            · 
              rw [kI_eq (by omega)] at c123
              refine sq_ok rfl [(.aload_n 0, 0, 0, 0)] 126 _ _ _ _ _ (by decide +kernel) ?_
              show WM mX3_takes 0 0 Post 7 127 [(0, .ref 0), (1, vI (k : Int)), (2, vJ (c : Int)), (4, .ref 4), (5, vI 1)] [.ref 0] [ob 3 [.ref 1, .ref 2, .ref 3, vI (s : Int), vI (ah : Int), vZ ar, vI (q : Int)], cN 16 lens, cN 16 tens, cN 16 phr, ob 9 [vI (mo : Int), .ref 5, .ref 6, vI (d : Int)], cI mo nums, cK mo g] 0 0
              refine wm_callV mX3_takesArrow [0, 1, 2, 3] (pc := 127) (rest := []) (mc' := 0) (ms' := 0) (by decide +kernel) kX3_68 (c_X3_takesArrow lens tens phr s ah ar q) rfl rfl ⟨_, rfl, rfl⟩ ⟨Nat.le_of_ble_eq_true rfl, Nat.le_of_ble_eq_true rfl⟩ ⟨Nat.le_of_ble_eq_true rfl, Nat.le_of_ble_eq_true rfl⟩ (Nat.le_of_ble_eq_true rfl) rfl rfl (Nat.le_of_ble_eq_true rfl) rfl ?_
              rintro _ _ ⟨b, rfl, ⟨rfl, rfl, hb2⟩ | ⟨rfl, rfl, hb2⟩⟩
              · 
                show WM mX3_takes 0 0 Post 7 130 [(0, .ref 0), (1, vI (k : Int)), (2, vJ (c : Int)), (4, .ref 4), (5, vI 1)] [vZ false] [ob 3 [.ref 1, .ref 2, .ref 3, vI (s : Int), vI (ah : Int), vZ ar, vI (q : Int)], cN 16 lens, cN 16 tens, cN 16 phr, ob 9 [vI (mo : Int), .ref 5, .ref 6, vI (d : Int)], cI mo nums, cK mo g] 0 0
                refine sq_ok rfl [(.ifCond .eq 7, 0, 0, 0)] 130 _ _ _ _ _ (by decide +kernel) ?_
                show ((bI false) = kI 0 → WM mX3_takes 0 0 Post 7 137 [(0, .ref 0), (1, vI (k : Int)), (2, vJ (c : Int)), (4, .ref 4), (5, vI 1)] [] [ob 3 [.ref 1, .ref 2, .ref 3, vI (s : Int), vI (ah : Int), vZ ar, vI (q : Int)], cN 16 lens, cN 16 tens, cN 16 phr, ob 9 [vI (mo : Int), .ref 5, .ref 6, vI (d : Int)], cI mo nums, cK mo g] 0 0) ∧ (¬ (bI false) = kI 0 → WM mX3_takes 0 0 Post 7 133 [(0, .ref 0), (1, vI (k : Int)), (2, vJ (c : Int)), (4, .ref 4), (5, vI 1)] [] [ob 3 [.ref 1, .ref 2, .ref 3, vI (s : Int), vI (ah : Int), vZ ar, vI (q : Int)], cN 16 lens, cN 16 tens, cN 16 phr, ob 9 [vI (mo : Int), .ref 5, .ref 6, vI (d : Int)], cI mo nums, cK mo g] 0 0)
                refine ⟨fun c130 => ?_, fun c130 => ?_⟩
                · 
                  rw [bI_eq0] at c130
                  refine sq_ok rfl [(.iconst 0, 0, 0, 0), (.ireturn, 0, 0, 0)] 137 _ _ _ _ _ (by decide +kernel) ?_
                  show narrow .boolean (.int (kI 0)) = .int (kI 0) ∧ ((0 ≤ 0 ∧ 0 ≤ 0) ∧ Post (some (vI 0)) [ob 3 [.ref 1, .ref 2, .ref 3, vI (s : Int), vI (ah : Int), vZ ar, vI (q : Int)], cN 16 lens, cN 16 tens, cN 16 phr, ob 9 [vI (mo : Int), .ref 5, .ref 6, vI (d : Int)], cI mo nums, cK mo g])
                  refine ⟨(bI_fits false).1, ?_⟩
                  refine ⟨⟨Nat.le_refl _, Nat.le_refl _⟩, hp _ _ ?_⟩
                  first
                  | exact ⟨lens, tens, s, s, true, 1, g, d, true, rfl, rfl, by
                      rw [if_pos rfl, ps3 (by omega), if_pos (show q = 2 ∨ q = 4 by omega)]
                      refine ⟨?_, by omega, i2, by omega, fun h => by omega, i5, i6, i7⟩
                      unfold pArr
                      rw [if_neg (show ¬ ar = true by rw [hb2]; decide), lst_len]⟩
                  | exact ⟨lens, tens, s, ah, ar, q, g, d, false, rfl, rfl, by rw [ps3 (by omega), if_pos (show q = 2 ∨ q = 4 by omega)]; unfold pArr; rw [if_pos (show ar = true from hb2)]; rfl⟩
                  | exact ⟨lens, tens, s, ah, ar, q, g, d, false, rfl, rfl, by rw [ps3 (by omega), if_neg (show ¬ (q = 2 ∨ q = 4) by omega)]; rfl⟩
                · 
                  exact absurd c130 (by decide)
              · 
                show WM mX3_takes 0 0 Post 7 130 [(0, .ref 0), (1, vI (k : Int)), (2, vJ (c : Int)), (4, .ref 4), (5, vI 1)] [vZ true] [ob 3 [.ref 1, .ref 2, .ref 3, vI (s : Int), vI (s : Int), vZ true, vI 1], cN 16 lens, cN 16 tens, cN 16 phr, ob 9 [vI (mo : Int), .ref 5, .ref 6, vI (d : Int)], cI mo nums, cK mo g] 0 0
                refine sq_ok rfl [(.ifCond .eq 7, 0, 0, 0)] 130 _ _ _ _ _ (by decide +kernel) ?_
                show ((bI true) = kI 0 → WM mX3_takes 0 0 Post 7 137 [(0, .ref 0), (1, vI (k : Int)), (2, vJ (c : Int)), (4, .ref 4), (5, vI 1)] [] [ob 3 [.ref 1, .ref 2, .ref 3, vI (s : Int), vI (s : Int), vZ true, vI 1], cN 16 lens, cN 16 tens, cN 16 phr, ob 9 [vI (mo : Int), .ref 5, .ref 6, vI (d : Int)], cI mo nums, cK mo g] 0 0) ∧ (¬ (bI true) = kI 0 → WM mX3_takes 0 0 Post 7 133 [(0, .ref 0), (1, vI (k : Int)), (2, vJ (c : Int)), (4, .ref 4), (5, vI 1)] [] [ob 3 [.ref 1, .ref 2, .ref 3, vI (s : Int), vI (s : Int), vZ true, vI 1], cN 16 lens, cN 16 tens, cN 16 phr, ob 9 [vI (mo : Int), .ref 5, .ref 6, vI (d : Int)], cI mo nums, cK mo g] 0 0)
                refine ⟨fun c130 => ?_, fun c130 => ?_⟩
                · 
                  exact absurd c130 (by decide)
                · 
                  rw [bI_eq0] at c130
                  refine sq_ok rfl [(.iconst 1, 0, 0, 0), (.goto 4, 0, 0, 0)] 133 _ _ _ _ _ (by decide +kernel) ?_
                  show WM mX3_takes 0 0 Post 7 138 [(0, .ref 0), (1, vI (k : Int)), (2, vJ (c : Int)), (4, .ref 4), (5, vI 1)] [vI 1] [ob 3 [.ref 1, .ref 2, .ref 3, vI (s : Int), vI (s : Int), vZ true, vI 1], cN 16 lens, cN 16 tens, cN 16 phr, ob 9 [vI (mo : Int), .ref 5, .ref 6, vI (d : Int)], cI mo nums, cK mo g] 0 0
                  refine sq_ok rfl [(.ireturn, 0, 0, 0)] 138 _ _ _ _ _ (by decide +kernel) ?_
                  show narrow .boolean (.int (kI 1)) = .int (kI 1) ∧ ((0 ≤ 0 ∧ 0 ≤ 0) ∧ Post (some (vI 1)) [ob 3 [.ref 1, .ref 2, .ref 3, vI (s : Int), vI (s : Int), vZ true, vI 1], cN 16 lens, cN 16 tens, cN 16 phr, ob 9 [vI (mo : Int), .ref 5, .ref 6, vI (d : Int)], cI mo nums, cK mo g])
                  refine ⟨(bI_fits true).1, ?_⟩
                  refine ⟨⟨Nat.le_refl _, Nat.le_refl _⟩, hp _ _ ?_⟩
                  first
                  | exact ⟨lens, tens, s, s, true, 1, g, d, true, rfl, rfl, by
                      rw [if_pos rfl, ps3 (by omega), if_pos (show q = 2 ∨ q = 4 by omega)]
                      refine ⟨?_, by omega, i2, by omega, fun h => by omega, i5, i6, i7⟩
                      unfold pArr
                      rw [if_neg (show ¬ ar = true by rw [hb2]; decide), lst_len]⟩
                  | exact ⟨lens, tens, s, ah, ar, q, g, d, false, rfl, rfl, by rw [ps3 (by omega), if_pos (show q = 2 ∨ q = 4 by omega)]; unfold pArr; rw [if_pos (show ar = true from hb2)]; rfl⟩
                  | exact ⟨lens, tens, s, ah, ar, q, g, d, false, rfl, rfl, by rw [ps3 (by omega), if_neg (show ¬ (q = 2 ∨ q = 4) by omega)]; rfl⟩
          · 
            rw [kI_eq (by omega)] at s24_3
            refine ⟨fun s24_4 => ?_, fun s24_4 => ?_⟩
            · 
              rw [kI_eq (by omega)] at s24_4
              refine sq_ok rfl [(.iload 5, 0, 0, 0), (.ifCond .ne 11, 0, 0, 0)] 139 _ _ _ _ _ (by decide +kernel) ?_
              show (¬ kI 1 = kI 0 → WM mX3_takes 0 0 Post 7 152 [(0, .ref 0), (1, vI (k : Int)), (2, vJ (c : Int)), (4, .ref 4), (5, vI 1)] [] [ob 3 [.ref 1, .ref 2, .ref 3, vI (s : Int), vI (ah : Int), vZ ar, vI (q : Int)], cN 16 lens, cN 16 tens, cN 16 phr, ob 9 [vI (mo : Int), .ref 5, .ref 6, vI (d : Int)], cI mo nums, cK mo g] 0 0) ∧ (kI 1 = kI 0 → WM mX3_takes 0 0 Post 7 144 [(0, .ref 0), (1, vI (k : Int)), (2, vJ (c : Int)), (4, .ref 4), (5, vI 1)] [] [ob 3 [.ref 1, .ref 2, .ref 3, vI (s : Int), vI (ah : Int), vZ ar, vI (q : Int)], cN 16 lens, cN 16 tens, cN 16 phr, ob 9 [vI (mo : Int), .ref 5, .ref 6, vI (d : Int)], cI mo nums, cK mo g] 0 0)
              refine ⟨fun c141 => ?_, fun c141 => ?_⟩
              · 
                rw [kI_eq (by omega)] at c141
                refine sq_ok rfl [(.iconst 1, 0, 0, 0), (.goto 4, 0, 0, 0)] 152 _ _ _ _ _ (by decide +kernel) ?_
                show WM mX3_takes 0 0 Post 7 157 [(0, .ref 0), (1, vI (k : Int)), (2, vJ (c : Int)), (4, .ref 4), (5, vI 1)] [vI 1] [ob 3 [.ref 1, .ref 2, .ref 3, vI (s : Int), vI (ah : Int), vZ ar, vI (q : Int)], cN 16 lens, cN 16 tens, cN 16 phr, ob 9 [vI (mo : Int), .ref 5, .ref 6, vI (d : Int)], cI mo nums, cK mo g] 0 0
                refine sq_ok rfl [(.ireturn, 0, 0, 0)] 157 _ _ _ _ _ (by decide +kernel) ?_
                show narrow .boolean (.int (kI 1)) = .int (kI 1) ∧ ((0 ≤ 0 ∧ 0 ≤ 0) ∧ Post (some (vI 1)) [ob 3 [.ref 1, .ref 2, .ref 3, vI (s : Int), vI (ah : Int), vZ ar, vI (q : Int)], cN 16 lens, cN 16 tens, cN 16 phr, ob 9 [vI (mo : Int), .ref 5, .ref 6, vI (d : Int)], cI mo nums, cK mo g])
                refine ⟨(bI_fits true).1, ?_⟩
                refine ⟨⟨Nat.le_refl _, Nat.le_refl _⟩, hp _ _ ?_⟩
                first
                | exact ⟨lens, tens, s, ah, ar, q, g, d, true, rfl, rfl, by rw [if_pos rfl, ps4 (by omega), if_pos (show q = 2 ∨ q = 4 ∨ q = 1 by omega)]; exact ⟨rfl, hI⟩⟩
                | exact ⟨lens, tens, s, ah, ar, q, g, d, false, rfl, rfl, by rw [ps4 (by omega), if_neg (show ¬ (q = 2 ∨ q = 4 ∨ q = 1) by omega)]; rfl⟩
              · 
                exact absurd c141 (by decide)
            · 
              rw [kI_eq (by omega)] at s24_4
              refine sq_ok rfl [(.iconst 0, 0, 0, 0), (.ireturn, 0, 0, 0)] 158 _ _ _ _ _ (by decide +kernel) ?_
              show narrow .boolean (.int (kI 0)) = .int (kI 0) ∧ ((0 ≤ 0 ∧ 0 ≤ 0) ∧ Post (some (vI 0)) [ob 3 [.ref 1, .ref 2, .ref 3, vI (s : Int), vI (ah : Int), vZ ar, vI (q : Int)], cN 16 lens, cN 16 tens, cN 16 phr, ob 9 [vI (mo : Int), .ref 5, .ref 6, vI (d : Int)], cI mo nums, cK mo g])
              refine ⟨(bI_fits false).1, ?_⟩
              refine ⟨⟨Nat.le_refl _, Nat.le_refl _⟩, hp _ _ ?_⟩
              exact ⟨lens, tens, s, ah, ar, q, g, d, false, rfl, rfl, by rw [ps5 (by omega) (by omega) (by omega) (by omega) (by omega)]; rfl⟩
  · 
    rw [kI_eq (by omega)] at c5
    refine sq_ok rfl [(.aload_n 0, 0, 0, 0), (.getfield 32, 3, 6, 0), (.iconst 4, 0, 0, 0), (.if_icmp .ne 7, 0, 0, 0)] 8 _ _ _ _ _ (by decide +kernel) ?_
    show (¬ kI (q : Int) = kI 4 → WM mX3_takes 0 0 Post 7 20 [(0, .ref 0), (1, vI (k : Int)), (2, vJ (c : Int)), (4, .ref 4)] [] [ob 3 [.ref 1, .ref 2, .ref 3, vI (s : Int), vI (ah : Int), vZ ar, vI (q : Int)], cN 16 lens, cN 16 tens, cN 16 phr, ob 9 [vI (mo : Int), .ref 5, .ref 6, vI (d : Int)], cI mo nums, cK mo g] 0 0) ∧ (kI (q : Int) = kI 4 → WM mX3_takes 0 0 Post 7 16 [(0, .ref 0), (1, vI (k : Int)), (2, vJ (c : Int)), (4, .ref 4)] [] [ob 3 [.ref 1, .ref 2, .ref 3, vI (s : Int), vI (ah : Int), vZ ar, vI (q : Int)], cN 16 lens, cN 16 tens, cN 16 phr, ob 9 [vI (mo : Int), .ref 5, .ref 6, vI (d : Int)], cI mo nums, cK mo g] 0 0)
    refine ⟨fun c13 => ?_, fun c13 => ?_⟩
    · 
      rw [kI_eq (by omega)] at c13
      refine sq_ok rfl [(.iconst 0, 0, 0, 0), (.istore 5, 0, 0, 0), (.iload_n 1, 0, 0, 0), (.tableswitch 134 0 4 #[36, 60, 80, 97, 115], 0, 0, 36)] 20 _ _ _ _ _ (by decide +kernel) ?_
      show (kI (k : Int) = kI 0 → WM mX3_takes 0 0 Post 7 60 [(0, .ref 0), (1, vI (k : Int)), (2, vJ (c : Int)), (4, .ref 4), (5, vI 0)] [] [ob 3 [.ref 1, .ref 2, .ref 3, vI (s : Int), vI (ah : Int), vZ ar, vI (q : Int)], cN 16 lens, cN 16 tens, cN 16 phr, ob 9 [vI (mo : Int), .ref 5, .ref 6, vI (d : Int)], cI mo nums, cK mo g] 0 0) ∧ (¬ kI (k : Int) = kI 0 → (kI (k : Int) = kI 1 → WM mX3_takes 0 0 Post 7 84 [(0, .ref 0), (1, vI (k : Int)), (2, vJ (c : Int)), (4, .ref 4), (5, vI 0)] [] [ob 3 [.ref 1, .ref 2, .ref 3, vI (s : Int), vI (ah : Int), vZ ar, vI (q : Int)], cN 16 lens, cN 16 tens, cN 16 phr, ob 9 [vI (mo : Int), .ref 5, .ref 6, vI (d : Int)], cI mo nums, cK mo g] 0 0) ∧ (¬ kI (k : Int) = kI 1 → (kI (k : Int) = kI 2 → WM mX3_takes 0 0 Post 7 104 [(0, .ref 0), (1, vI (k : Int)), (2, vJ (c : Int)), (4, .ref 4), (5, vI 0)] [] [ob 3 [.ref 1, .ref 2, .ref 3, vI (s : Int), vI (ah : Int), vZ ar, vI (q : Int)], cN 16 lens, cN 16 tens, cN 16 phr, ob 9 [vI (mo : Int), .ref 5, .ref 6, vI (d : Int)], cI mo nums, cK mo g] 0 0) ∧ (¬ kI (k : Int) = kI 2 → (kI (k : Int) = kI 3 → WM mX3_takes 0 0 Post 7 121 [(0, .ref 0), (1, vI (k : Int)), (2, vJ (c : Int)), (4, .ref 4), (5, vI 0)] [] [ob 3 [.ref 1, .ref 2, .ref 3, vI (s : Int), vI (ah : Int), vZ ar, vI (q : Int)], cN 16 lens, cN 16 tens, cN 16 phr, ob 9 [vI (mo : Int), .ref 5, .ref 6, vI (d : Int)], cI mo nums, cK mo g] 0 0) ∧ (¬ kI (k : Int) = kI 3 → (kI (k : Int) = kI 4 → WM mX3_takes 0 0 Post 7 139 [(0, .ref 0), (1, vI (k : Int)), (2, vJ (c : Int)), (4, .ref 4), (5, vI 0)] [] [ob 3 [.ref 1, .ref 2, .ref 3, vI (s : Int), vI (ah : Int), vZ ar, vI (q : Int)], cN 16 lens, cN 16 tens, cN 16 phr, ob 9 [vI (mo : Int), .ref 5, .ref 6, vI (d : Int)], cI mo nums, cK mo g] 0 0) ∧ (¬ kI (k : Int) = kI 4 → WM mX3_takes 0 0 Post 7 158 [(0, .ref 0), (1, vI (k : Int)), (2, vJ (c : Int)), (4, .ref 4), (5, vI 0)] [] [ob 3 [.ref 1, .ref 2, .ref 3, vI (s : Int), vI (ah : Int), vZ ar, vI (q : Int)], cN 16 lens, cN 16 tens, cN 16 phr, ob 9 [vI (mo : Int), .ref 5, .ref 6, vI (d : Int)], cI mo nums, cK mo g] 0 0)))))
      refine ⟨fun s24_0 => ?_, fun s24_0 => ?_⟩
      · 
        rw [kI_eq (by omega)] at s24_0
        refine sq_ok rfl [(.aload_n 0, 0, 0, 0), (.getfield 32, 3, 6, 0), (.iconst 3, 0, 0, 0), (.if_icmp .ne 11, 0, 0, 0)] 60 _ _ _ _ _ (by decide +kernel) ?_
        show (¬ kI (q : Int) = kI 3 → WM mX3_takes 0 0 Post 7 76 [(0, .ref 0), (1, vI (k : Int)), (2, vJ (c : Int)), (4, .ref 4), (5, vI 0)] [] [ob 3 [.ref 1, .ref 2, .ref 3, vI (s : Int), vI (ah : Int), vZ ar, vI (q : Int)], cN 16 lens, cN 16 tens, cN 16 phr, ob 9 [vI (mo : Int), .ref 5, .ref 6, vI (d : Int)], cI mo nums, cK mo g] 0 0) ∧ (kI (q : Int) = kI 3 → WM mX3_takes 0 0 Post 7 68 [(0, .ref 0), (1, vI (k : Int)), (2, vJ (c : Int)), (4, .ref 4), (5, vI 0)] [] [ob 3 [.ref 1, .ref 2, .ref 3, vI (s : Int), vI (ah : Int), vZ ar, vI (q : Int)], cN 16 lens, cN 16 tens, cN 16 phr, ob 9 [vI (mo : Int), .ref 5, .ref 6, vI (d : Int)], cI mo nums, cK mo g] 0 0)
        refine ⟨fun c65 => ?_, fun c65 => ?_⟩
        · 
          rw [kI_eq (by omega)] at c65
          refine sq_ok rfl [(.aload_n 0, 0, 0, 0), (.lload_n 2, 0, 0, 0), (.aload 4, 0, 0, 0)] 76 _ _ _ _ _ (by decide +kernel) ?_
          show WM mX3_takes 0 0 Post 7 80 [(0, .ref 0), (1, vI (k : Int)), (2, vJ (c : Int)), (4, .ref 4), (5, vI 0)] [.ref 4, vJ (c : Int), .ref 0] [ob 3 [.ref 1, .ref 2, .ref 3, vI (s : Int), vI (ah : Int), vZ ar, vI (q : Int)], cN 16 lens, cN 16 tens, cN 16 phr, ob 9 [vI (mo : Int), .ref 5, .ref 6, vI (d : Int)], cI mo nums, cK mo g] 0 0
          refine wm_callV mX3_takesWord [0, 1, 2, 3, 4, 5, 6] (pc := 80) (rest := []) (mc' := 0) (ms' := 0) (by decide +kernel) kX3_64 (c_X3_takesWord lens tens phr s ah ar q mo d hmo nums g c hI) rfl rfl ⟨_, rfl, rfl⟩ ⟨Nat.le_of_ble_eq_true rfl, Nat.le_of_ble_eq_true rfl⟩ ⟨Nat.le_of_ble_eq_true rfl, Nat.le_of_ble_eq_true rfl⟩ (Nat.le_of_ble_eq_true rfl) rfl rfl (Nat.le_of_ble_eq_true rfl) rfl ?_
          rintro _ _ ⟨lens2, tens2, s2, q2, g2, d2, b, rfl, rfl, hb⟩
          show WM mX3_takes 0 0 Post 7 83 [(0, .ref 0), (1, vI (k : Int)), (2, vJ (c : Int)), (4, .ref 4), (5, vI 0)] [vZ b] [ob 3 [.ref 1, .ref 2, .ref 3, vI (s2 : Int), vI (ah : Int), vZ ar, vI (q2 : Int)], cN 16 lens2, cN 16 tens2, cN 16 phr, ob 9 [vI (mo : Int), .ref 5, .ref 6, vI (d2 : Int)], cI mo nums, cK mo g2] 0 0
          refine sq_ok rfl [(.ireturn, 0, 0, 0)] 83 _ _ _ _ _ (by decide +kernel) ?_
          show narrow .boolean (.int (bI b)) = .int (bI b) ∧ ((0 ≤ 0 ∧ 0 ≤ 0) ∧ Post (some (vZ b)) [ob 3 [.ref 1, .ref 2, .ref 3, vI (s2 : Int), vI (ah : Int), vZ ar, vI (q2 : Int)], cN 16 lens2, cN 16 tens2, cN 16 phr, ob 9 [vI (mo : Int), .ref 5, .ref 6, vI (d2 : Int)], cI mo nums, cK mo g2])
          refine ⟨(bI_fits b).1, ?_⟩
          refine ⟨⟨Nat.le_refl _, Nat.le_refl _⟩, hp _ _ ?_⟩
          first
          | exact ⟨lens2, tens2, s2, ah, ar, q2, g2, d2, b, rfl, rfl, by rw [ps0w (by omega) (show ¬ q = 3 by omega)]; exact hb⟩
          | exact ⟨lens, va_up tens (s - 1) (tenW c), s, ah, ar, 4, g, d, true, rfl, rfl, by
              rw [if_pos rfl, ps0t (by omega) (show q = 3 by omega)]
              refine ⟨?_, by omega, i2, i3, fun _ => by omega, i5, i6, i7⟩
              unfold pTen
              rw [if_neg (fun h => hb2 (h.imp id (sd_ne lens tens).mp)), sd_last lens tens (by omega)]
              unfold pabs
              rw [sd_set (lens := lens) (tens := tens) (by omega) (fun _ _ => rfl) (fun j hj => up_ne _ _ (by omega)), up_eq]⟩
          | exact ⟨lens, tens, s, ah, ar, q, g, d, false, rfl, rfl, by
              rw [ps0t (by omega) (show q = 3 by omega)]
              unfold pTen
              rw [if_pos (hb2.imp id (sd_ne lens tens).mpr)]
              rfl⟩
        · 
          rw [kI_eq (by omega)] at c65
          refine sq_ok rfl [(.aload_n 0, 0, 0, 0), (.lload_n 2, 0, 0, 0)] 68 _ _ _ _ _ (by decide +kernel) ?_
          show WM mX3_takes 0 0 Post 7 70 [(0, .ref 0), (1, vI (k : Int)), (2, vJ (c : Int)), (4, .ref 4), (5, vI 0)] [vJ (c : Int), .ref 0] [ob 3 [.ref 1, .ref 2, .ref 3, vI (s : Int), vI (ah : Int), vZ ar, vI (q : Int)], cN 16 lens, cN 16 tens, cN 16 phr, ob 9 [vI (mo : Int), .ref 5, .ref 6, vI (d : Int)], cI mo nums, cK mo g] 0 0
          refine wm_callV mX3_takesTenths [0, 1, 2, 3] (pc := 70) (rest := []) (mc' := 0) (ms' := 0) (by decide +kernel) kX3_60 (c_X3_takesTenths lens tens phr s ah ar q i2 c hc) rfl rfl ⟨_, rfl, rfl⟩ ⟨Nat.le_of_ble_eq_true rfl, Nat.le_of_ble_eq_true rfl⟩ ⟨Nat.le_of_ble_eq_true rfl, Nat.le_of_ble_eq_true rfl⟩ (Nat.le_of_ble_eq_true rfl) rfl rfl (Nat.le_of_ble_eq_true rfl) rfl ?_
          rintro _ _ ⟨b, rfl, ⟨rfl, rfl, hb2⟩ | ⟨rfl, rfl, hb2⟩⟩
          · 
            show WM mX3_takes 0 0 Post 7 73 [(0, .ref 0), (1, vI (k : Int)), (2, vJ (c : Int)), (4, .ref 4), (5, vI 0)] [vZ false] [ob 3 [.ref 1, .ref 2, .ref 3, vI (s : Int), vI (ah : Int), vZ ar, vI (q : Int)], cN 16 lens, cN 16 tens, cN 16 phr, ob 9 [vI (mo : Int), .ref 5, .ref 6, vI (d : Int)], cI mo nums, cK mo g] 0 0
            refine sq_ok rfl [(.goto 10, 0, 0, 0)] 73 _ _ _ _ _ (by decide +kernel) ?_
            show WM mX3_takes 0 0 Post 7 83 [(0, .ref 0), (1, vI (k : Int)), (2, vJ (c : Int)), (4, .ref 4), (5, vI 0)] [vZ false] [ob 3 [.ref 1, .ref 2, .ref 3, vI (s : Int), vI (ah : Int), vZ ar, vI (q : Int)], cN 16 lens, cN 16 tens, cN 16 phr, ob 9 [vI (mo : Int), .ref 5, .ref 6, vI (d : Int)], cI mo nums, cK mo g] 0 0
            refine sq_ok rfl [(.ireturn, 0, 0, 0)] 83 _ _ _ _ _ (by decide +kernel) ?_
            show narrow .boolean (.int (bI false)) = .int (bI false) ∧ ((0 ≤ 0 ∧ 0 ≤ 0) ∧ Post (some (vZ false)) [ob 3 [.ref 1, .ref 2, .ref 3, vI (s : Int), vI (ah : Int), vZ ar, vI (q : Int)], cN 16 lens, cN 16 tens, cN 16 phr, ob 9 [vI (mo : Int), .ref 5, .ref 6, vI (d : Int)], cI mo nums, cK mo g])
            refine ⟨(bI_fits false).1, ?_⟩
            refine ⟨⟨Nat.le_refl _, Nat.le_refl _⟩, hp _ _ ?_⟩
            first
            | exact ⟨lens2, tens2, s2, ah, ar, q2, g2, d2, b, rfl, rfl, by rw [ps0w (by omega) (show ¬ q = 3 by omega)]; exact hb⟩
            | exact ⟨lens, va_up tens (s - 1) (tenW c), s, ah, ar, 4, g, d, true, rfl, rfl, by
                rw [if_pos rfl, ps0t (by omega) (show q = 3 by omega)]
                refine ⟨?_, by omega, i2, i3, fun _ => by omega, i5, i6, i7⟩
                unfold pTen
                rw [if_neg (fun h => hb2 (h.imp id (sd_ne lens tens).mp)), sd_last lens tens (by omega)]
                unfold pabs
                rw [sd_set (lens := lens) (tens := tens) (by omega) (fun _ _ => rfl) (fun j hj => up_ne _ _ (by omega)), up_eq]⟩
            | exact ⟨lens, tens, s, ah, ar, q, g, d, false, rfl, rfl, by
                rw [ps0t (by omega) (show q = 3 by omega)]
                unfold pTen
                rw [if_pos (hb2.imp id (sd_ne lens tens).mpr)]
                rfl⟩
          · 
            show WM mX3_takes 0 0 Post 7 73 [(0, .ref 0), (1, vI (k : Int)), (2, vJ (c : Int)), (4, .ref 4), (5, vI 0)] [vZ true] [ob 3 [.ref 1, .ref 2, .ref 3, vI (s : Int), vI (ah : Int), vZ ar, vI 4], cN 16 lens, cN 16 (va_up tens (s - 1) (tenW c)), cN 16 phr, ob 9 [vI (mo : Int), .ref 5, .ref 6, vI (d : Int)], cI mo nums, cK mo g] 0 0
            refine sq_ok rfl [(.goto 10, 0, 0, 0)] 73 _ _ _ _ _ (by decide +kernel) ?_
            show WM mX3_takes 0 0 Post 7 83 [(0, .ref 0), (1, vI (k : Int)), (2, vJ (c : Int)), (4, .ref 4), (5, vI 0)] [vZ true] [ob 3 [.ref 1, .ref 2, .ref 3, vI (s : Int), vI (ah : Int), vZ ar, vI 4], cN 16 lens, cN 16 (va_up tens (s - 1) (tenW c)), cN 16 phr, ob 9 [vI (mo : Int), .ref 5, .ref 6, vI (d : Int)], cI mo nums, cK mo g] 0 0
            refine sq_ok rfl [(.ireturn, 0, 0, 0)] 83 _ _ _ _ _ (by decide +kernel) ?_
            show narrow .boolean (.int (bI true)) = .int (bI true) ∧ ((0 ≤ 0 ∧ 0 ≤ 0) ∧ Post (some (vZ true)) [ob 3 [.ref 1, .ref 2, .ref 3, vI (s : Int), vI (ah : Int), vZ ar, vI 4], cN 16 lens, cN 16 (va_up tens (s - 1) (tenW c)), cN 16 phr, ob 9 [vI (mo : Int), .ref 5, .ref 6, vI (d : Int)], cI mo nums, cK mo g])
            refine ⟨(bI_fits true).1, ?_⟩
            refine ⟨⟨Nat.le_refl _, Nat.le_refl _⟩, hp _ _ ?_⟩
            first
            | exact ⟨lens2, tens2, s2, ah, ar, q2, g2, d2, b, rfl, rfl, by rw [ps0w (by omega) (show ¬ q = 3 by omega)]; exact hb⟩
            | exact ⟨lens, va_up tens (s - 1) (tenW c), s, ah, ar, 4, g, d, true, rfl, rfl, by
                rw [if_pos rfl, ps0t (by omega) (show q = 3 by omega)]
                refine ⟨?_, by omega, i2, i3, fun _ => by omega, i5, i6, i7⟩
                unfold pTen
                rw [if_neg (fun h => hb2 (h.imp id (sd_ne lens tens).mp)), sd_last lens tens (by omega)]
                unfold pabs
                rw [sd_set (lens := lens) (tens := tens) (by omega) (fun _ _ => rfl) (fun j hj => up_ne _ _ (by omega)), up_eq]⟩
            | exact ⟨lens, tens, s, ah, ar, q, g, d, false, rfl, rfl, by
                rw [ps0t (by omega) (show q = 3 by omega)]
                unfold pTen
                rw [if_pos (hb2.imp id (sd_ne lens tens).mpr)]
                rfl⟩
      · 
        rw [kI_eq (by omega)] at s24_0
        refine ⟨fun s24_1 => ?_, fun s24_1 => ?_⟩
        · 
          rw [kI_eq (by omega)] at s24_1
          refine sq_ok rfl [(.aload_n 0, 0, 0, 0), (.iload 5, 0, 0, 0), (.ifCond .eq 7, 0, 0, 0)] 84 _ _ _ _ _ (by decide +kernel) ?_
          show (kI 0 = kI 0 → WM mX3_takes 0 0 Post 7 94 [(0, .ref 0), (1, vI (k : Int)), (2, vJ (c : Int)), (4, .ref 4), (5, vI 0)] [.ref 0] [ob 3 [.ref 1, .ref 2, .ref 3, vI (s : Int), vI (ah : Int), vZ ar, vI (q : Int)], cN 16 lens, cN 16 tens, cN 16 phr, ob 9 [vI (mo : Int), .ref 5, .ref 6, vI (d : Int)], cI mo nums, cK mo g] 0 0) ∧ (¬ kI 0 = kI 0 → WM mX3_takes 0 0 Post 7 90 [(0, .ref 0), (1, vI (k : Int)), (2, vJ (c : Int)), (4, .ref 4), (5, vI 0)] [.ref 0] [ob 3 [.ref 1, .ref 2, .ref 3, vI (s : Int), vI (ah : Int), vZ ar, vI (q : Int)], cN 16 lens, cN 16 tens, cN 16 phr, ob 9 [vI (mo : Int), .ref 5, .ref 6, vI (d : Int)], cI mo nums, cK mo g] 0 0)
          refine ⟨fun c87 => ?_, fun c87 => ?_⟩
          · 
            rw [kI_eq (by omega)] at c87
            refine sq_ok rfl [(.aload_n 0, 0, 0, 0), (.getfield 32, 3, 6, 0), (.putfield 32, 3, 6, 0), (.iload 5, 0, 0, 0), (.ireturn, 0, 0, 0)] 94 _ _ _ _ _ (by decide +kernel) ?_
            show narrow .boolean (.int (kI 0)) = .int (kI 0) ∧ ((0 ≤ 0 ∧ 0 ≤ 0) ∧ Post (some (vI 0)) [ob 3 [.ref 1, .ref 2, .ref 3, vI (s : Int), vI (ah : Int), vZ ar, vI (q : Int)], cN 16 lens, cN 16 tens, cN 16 phr, ob 9 [vI (mo : Int), .ref 5, .ref 6, vI (d : Int)], cI mo nums, cK mo g])
            refine ⟨(bI_fits false).1, ?_⟩
            refine ⟨⟨Nat.le_refl _, Nat.le_refl _⟩, hp _ _ ?_⟩
            first
            | exact ⟨lens, tens, s, ah, ar, 0, g, d, true, rfl, rfl, by rw [if_pos rfl, ps1 (by omega), if_pos (show q = 2 ∨ q = 4 by omega)]; exact ⟨rfl, by omega, i2, i3, fun h => by omega, i5, i6, i7⟩⟩
            | exact ⟨lens, tens, s, ah, ar, q, g, d, false, rfl, rfl, by rw [ps1 (by omega), if_neg (show ¬ (q = 2 ∨ q = 4) by omega)]; rfl⟩
          · 
            exact absurd c87 (by decide)
        · 
          rw [kI_eq (by omega)] at s24_1
          refine ⟨fun s24_2 => ?_, fun s24_2 => ?_⟩
          · 
            rw [kI_eq (by omega)] at s24_2
            refine sq_ok rfl [(.aload_n 0, 0, 0, 0), (.getfield 32, 3, 6, 0), (.iconst 2, 0, 0, 0), (.if_icmp .eq 5, 0, 0, 0)] 104 _ _ _ _ _ (by decide +kernel) ?_
            show (kI (q : Int) = kI 2 → WM mX3_takes 0 0 Post 7 114 [(0, .ref 0), (1, vI (k : Int)), (2, vJ (c : Int)), (4, .ref 4), (5, vI 0)] [] [ob 3 [.ref 1, .ref 2, .ref 3, vI (s : Int), vI (ah : Int), vZ ar, vI (q : Int)], cN 16 lens, cN 16 tens, cN 16 phr, ob 9 [vI (mo : Int), .ref 5, .ref 6, vI (d : Int)], cI mo nums, cK mo g] 0 0) ∧ (¬ kI (q : Int) = kI 2 → WM mX3_takes 0 0 Post 7 112 [(0, .ref 0), (1, vI (k : Int)), (2, vJ (c : Int)), (4, .ref 4), (5, vI 0)] [] [ob 3 [.ref 1, .ref 2, .ref 3, vI (s : Int), vI (ah : Int), vZ ar, vI (q : Int)], cN 16 lens, cN 16 tens, cN 16 phr, ob 9 [vI (mo : Int), .ref 5, .ref 6, vI (d : Int)], cI mo nums, cK mo g] 0 0)
            refine ⟨fun c109 => ?_, fun c109 => ?_⟩
            · 
              rw [kI_eq (by omega)] at c109
              refine sq_ok rfl [(.aload_n 0, 0, 0, 0), (.iconst 3, 0, 0, 0), (.putfield 32, 3, 6, 0), (.iconst 1, 0, 0, 0), (.ireturn, 0, 0, 0)] 114 _ _ _ _ _ (by decide +kernel) ?_
              show narrow .boolean (.int (kI 1)) = .int (kI 1) ∧ ((0 ≤ 0 ∧ 0 ≤ 0) ∧ Post (some (vI 1)) [ob 3 [.ref 1, .ref 2, .ref 3, vI (s : Int), vI (ah : Int), vZ ar, vI 3], cN 16 lens, cN 16 tens, cN 16 phr, ob 9 [vI (mo : Int), .ref 5, .ref 6, vI (d : Int)], cI mo nums, cK mo g])
              refine ⟨(bI_fits true).1, ?_⟩
              refine ⟨⟨Nat.le_refl _, Nat.le_refl _⟩, hp _ _ ?_⟩
              exact ⟨lens, tens, s, ah, ar, 3, g, d, true, rfl, rfl, by rw [if_pos rfl, ps2 (by omega), if_pos (show q = 2 by omega)]; exact ⟨rfl, by omega, i2, i3, fun h => i4 (by omega), i5, i6, i7⟩⟩
            · 
              rw [kI_eq (by omega)] at c109
              refine sq_ok rfl [(.iconst 0, 0, 0, 0), (.ireturn, 0, 0, 0)] 112 _ _ _ _ _ (by decide +kernel) ?_
              show narrow .boolean (.int (kI 0)) = .int (kI 0) ∧ ((0 ≤ 0 ∧ 0 ≤ 0) ∧ Post (some (vI 0)) [ob 3 [.ref 1, .ref 2, .ref 3, vI (s : Int), vI (ah : Int), vZ ar, vI (q : Int)], cN 16 lens, cN 16 tens, cN 16 phr, ob 9 [vI (mo : Int), .ref 5, .ref 6, vI (d : Int)], cI mo nums, cK mo g])
              refine ⟨(bI_fits false).1, ?_⟩
              refine ⟨⟨Nat.le_refl _, Nat.le_refl _⟩, hp _ _ ?_⟩
              exact ⟨lens, tens, s, ah, ar, q, g, d, false, rfl, rfl, by rw [ps2 (by omega), if_neg (show ¬ q = 2 by omega)]; rfl⟩
          · 
            rw [kI_eq (by omega)] at s24_2
            refine ⟨fun s24_3 => ?_, fun s24_3 => ?_⟩
            · 
              rw [kI_eq (by omega)] at s24_3
              refine sq_ok rfl [(.iload 5, 0, 0, 0), (.ifCond .eq 14, 0, 0, 0)] 121 _ _ _ _ _ (by decide +kernel) ?_
              show (kI 0 = kI 0 → WM mX3_takes 0 0 Post 7 137 [(0, .ref 0), (1, vI (k : Int)), (2, vJ (c : Int)), (4, .ref 4), (5, vI 0)] [] [ob 3 [.ref 1, .ref 2, .ref 3, vI (s : Int), vI (ah : Int), vZ ar, vI (q : Int)], cN 16 lens, cN 16 tens, cN 16 phr, ob 9 [vI (mo : Int), .ref 5, .ref 6, vI (d : Int)], cI mo nums, cK mo g] 0 0) ∧ (¬ kI 0 = kI 0 → WM mX3_takes 0 0 Post 7 126 [(0, .ref 0), (1, vI (k : Int)), (2, vJ (c : Int)), (4, .ref 4), (5, vI 0)] [] [ob 3 [.ref 1, .ref 2, .ref 3, vI (s : Int), vI (ah : Int), vZ ar, vI (q : Int)], cN 16 lens, cN 16 tens, cN 16 phr, ob 9 [vI (mo : Int), .ref 5, .ref 6, vI (d : Int)], cI mo nums, cK mo g] 0 0)
              refine ⟨fun c123 => ?_, fun c123 => ?_⟩
              · 
                rw [kI_eq (by omega)] at c123
                refine sq_ok rfl [(.iconst 0, 0, 0, 0), (.ireturn, 0, 0, 0)] 137 _ _ _ _ _ (by decide +kernel) ?_
                show narrow .boolean (.int (kI 0)) = .int (kI 0) ∧ ((0 ≤ 0 ∧ 0 ≤ 0) ∧ Post (some (vI 0)) [ob 3 [.ref 1, .ref 2, .ref 3, vI (s : Int), vI (ah : Int), vZ ar, vI (q : Int)], cN 16 lens, cN 16 tens, cN 16 phr, ob 9 [vI (mo : Int), .ref 5, .ref 6, vI (d : Int)], cI mo nums, cK mo g])
                refine ⟨(bI_fits false).1, ?_⟩
                refine ⟨⟨Nat.le_refl _, Nat.le_refl _⟩, hp _ _ ?_⟩
                first
                | exact ⟨lens, tens, s, s, true, 1, g, d, true, rfl, rfl, by
                    rw [if_pos rfl, ps3 (by omega), if_pos (show q = 2 ∨ q = 4 by omega)]
                    refine ⟨?_, by omega, i2, by omega, fun h => by omega, i5, i6, i7⟩
                    unfold pArr
                    rw [if_neg (show ¬ ar = true by rw [hb2]; decide), lst_len]⟩
                | exact ⟨lens, tens, s, ah, ar, q, g, d, false, rfl, rfl, by rw [ps3 (by omega), if_pos (show q = 2 ∨ q = 4 by omega)]; unfold pArr; rw [if_pos (show ar = true from hb2)]; rfl⟩
                | exact ⟨lens, tens, s, ah, ar, q, g, d, false, rfl, rfl, by rw [ps3 (by omega), if_neg (show ¬ (q = 2 ∨ q = 4) by omega)]; rfl⟩
              · 
                exact absurd c123 (by decide)
            · 
              rw [kI_eq (by omega)] at s24_3
              refine ⟨fun s24_4 => ?_, fun s24_4 => ?_⟩
              · 
                rw [kI_eq (by omega)] at s24_4
                refine sq_ok rfl [(.iload 5, 0, 0, 0), (.ifCond .ne 11, 0, 0, 0)] 139 _ _ _ _ _ (by decide +kernel) ?_
                show (¬ kI 0 = kI 0 → WM mX3_takes 0 0 Post 7 152 [(0, .ref 0), (1, vI (k : Int)), (2, vJ (c : Int)), (4, .ref 4), (5, vI 0)] [] [ob 3 [.ref 1, .ref 2, .ref 3, vI (s : Int), vI (ah : Int), vZ ar, vI (q : Int)], cN 16 lens, cN 16 tens, cN 16 phr, ob 9 [vI (mo : Int), .ref 5, .ref 6, vI (d : Int)], cI mo nums, cK mo g] 0 0) ∧ (kI 0 = kI 0 → WM mX3_takes 0 0 Post 7 144 [(0, .ref 0), (1, vI (k : Int)), (2, vJ (c : Int)), (4, .ref 4), (5, vI 0)] [] [ob 3 [.ref 1, .ref 2, .ref 3, vI (s : Int), vI (ah : Int), vZ ar, vI (q : Int)], cN 16 lens, cN 16 tens, cN 16 phr, ob 9 [vI (mo : Int), .ref 5, .ref 6, vI (d : Int)], cI mo nums, cK mo g] 0 0)
                refine ⟨fun c141 => ?_, fun c141 => ?_⟩
                · 
                  exact absurd c141 (by decide)
                · 
                  rw [kI_eq (by omega)] at c141
                  refine sq_ok rfl [(.aload_n 0, 0, 0, 0), (.getfield 32, 3, 6, 0), (.iconst 1, 0, 0, 0), (.if_icmp .ne 7, 0, 0, 0)] 144 _ _ _ _ _ (by decide +kernel) ?_
                  show (¬ kI (q : Int) = kI 1 → WM mX3_takes 0 0 Post 7 156 [(0, .ref 0), (1, vI (k : Int)), (2, vJ (c : Int)), (4, .ref 4), (5, vI 0)] [] [ob 3 [.ref 1, .ref 2, .ref 3, vI (s : Int), vI (ah : Int), vZ ar, vI (q : Int)], cN 16 lens, cN 16 tens, cN 16 phr, ob 9 [vI (mo : Int), .ref 5, .ref 6, vI (d : Int)], cI mo nums, cK mo g] 0 0) ∧ (kI (q : Int) = kI 1 → WM mX3_takes 0 0 Post 7 152 [(0, .ref 0), (1, vI (k : Int)), (2, vJ (c : Int)), (4, .ref 4), (5, vI 0)] [] [ob 3 [.ref 1, .ref 2, .ref 3, vI (s : Int), vI (ah : Int), vZ ar, vI (q : Int)], cN 16 lens, cN 16 tens, cN 16 phr, ob 9 [vI (mo : Int), .ref 5, .ref 6, vI (d : Int)], cI mo nums, cK mo g] 0 0)
                  refine ⟨fun c149 => ?_, fun c149 => ?_⟩
                  · 
                    rw [kI_eq (by omega)] at c149
                    refine sq_ok rfl [(.iconst 0, 0, 0, 0), (.ireturn, 0, 0, 0)] 156 _ _ _ _ _ (by decide +kernel) ?_
                    show narrow .boolean (.int (kI 0)) = .int (kI 0) ∧ ((0 ≤ 0 ∧ 0 ≤ 0) ∧ Post (some (vI 0)) [ob 3 [.ref 1, .ref 2, .ref 3, vI (s : Int), vI (ah : Int), vZ ar, vI (q : Int)], cN 16 lens, cN 16 tens, cN 16 phr, ob 9 [vI (mo : Int), .ref 5, .ref 6, vI (d : Int)], cI mo nums, cK mo g])
                    refine ⟨(bI_fits false).1, ?_⟩
                    refine ⟨⟨Nat.le_refl _, Nat.le_refl _⟩, hp _ _ ?_⟩
                    first
                    | exact ⟨lens, tens, s, ah, ar, q, g, d, true, rfl, rfl, by rw [if_pos rfl, ps4 (by omega), if_pos (show q = 2 ∨ q = 4 ∨ q = 1 by omega)]; exact ⟨rfl, hI⟩⟩
                    | exact ⟨lens, tens, s, ah, ar, q, g, d, false, rfl, rfl, by rw [ps4 (by omega), if_neg (show ¬ (q = 2 ∨ q = 4 ∨ q = 1) by omega)]; rfl⟩
                  · 
                    rw [kI_eq (by omega)] at c149
                    refine sq_ok rfl [(.iconst 1, 0, 0, 0), (.goto 4, 0, 0, 0)] 152 _ _ _ _ _ (by decide +kernel) ?_
                    show WM mX3_takes 0 0 Post 7 157 [(0, .ref 0), (1, vI (k : Int)), (2, vJ (c : Int)), (4, .ref 4), (5, vI 0)] [vI 1] [ob 3 [.ref 1, .ref 2, .ref 3, vI (s : Int), vI (ah : Int), vZ ar, vI (q : Int)], cN 16 lens, cN 16 tens, cN 16 phr, ob 9 [vI (mo : Int), .ref 5, .ref 6, vI (d : Int)], cI mo nums, cK mo g] 0 0
                    refine sq_ok rfl [(.ireturn, 0, 0, 0)] 157 _ _ _ _ _ (by decide +kernel) ?_
                    show narrow .boolean (.int (kI 1)) = .int (kI 1) ∧ ((0 ≤ 0 ∧ 0 ≤ 0) ∧ Post (some (vI 1)) [ob 3 [.ref 1, .ref 2, .ref 3, vI (s : Int), vI (ah : Int), vZ ar, vI (q : Int)], cN 16 lens, cN 16 tens, cN 16 phr, ob 9 [vI (mo : Int), .ref 5, .ref 6, vI (d : Int)], cI mo nums, cK mo g])
                    refine ⟨(bI_fits true).1, ?_⟩
                    refine ⟨⟨Nat.le_refl _, Nat.le_refl _⟩, hp _ _ ?_⟩
                    first
                    | exact ⟨lens, tens, s, ah, ar, q, g, d, true, rfl, rfl, by rw [if_pos rfl, ps4 (by omega), if_pos (show q = 2 ∨ q = 4 ∨ q = 1 by omega)]; exact ⟨rfl, hI⟩⟩
                    | exact ⟨lens, tens, s, ah, ar, q, g, d, false, rfl, rfl, by rw [ps4 (by omega), if_neg (show ¬ (q = 2 ∨ q = 4 ∨ q = 1) by omega)]; rfl⟩
              · 
                rw [kI_eq (by omega)] at s24_4
                refine sq_ok rfl [(.iconst 0, 0, 0, 0), (.ireturn, 0, 0, 0)] 158 _ _ _ _ _ (by decide +kernel) ?_
                show narrow .boolean (.int (kI 0)) = .int (kI 0) ∧ ((0 ≤ 0 ∧ 0 ≤ 0) ∧ Post (some (vI 0)) [ob 3 [.ref 1, .ref 2, .ref 3, vI (s : Int), vI (ah : Int), vZ ar, vI (q : Int)], cN 16 lens, cN 16 tens, cN 16 phr, ob 9 [vI (mo : Int), .ref 5, .ref 6, vI (d : Int)], cI mo nums, cK mo g])
                refine ⟨(bI_fits false).1, ?_⟩
                refine ⟨⟨Nat.le_refl _, Nat.le_refl _⟩, hp _ _ ?_⟩
                exact ⟨lens, tens, s, ah, ar, q, g, d, false, rfl, rfl, by rw [ps5 (by omega) (by omega) (by omega) (by omega) (by omega)]; rfl⟩
    · 
      rw [kI_eq (by omega)] at c13
      refine sq_ok rfl [(.iconst 1, 0, 0, 0), (.goto 4, 0, 0, 0)] 16 _ _ _ _ _ (by decide +kernel) ?_
      show WM mX3_takes 0 0 Post 7 21 [(0, .ref 0), (1, vI (k : Int)), (2, vJ (c : Int)), (4, .ref 4)] [vI 1] [ob 3 [.ref 1, .ref 2, .ref 3, vI (s : Int), vI (ah : Int), vZ ar, vI (q : Int)], cN 16 lens, cN 16 tens, cN 16 phr, ob 9 [vI (mo : Int), .ref 5, .ref 6, vI (d : Int)], cI mo nums, cK mo g] 0 0
      refine sq_ok rfl [(.istore 5, 0, 0, 0), (.iload_n 1, 0, 0, 0), (.tableswitch 134 0 4 #[36, 60, 80, 97, 115], 0, 0, 36)] 21 _ _ _ _ _ (by decide +kernel) ?_
      show (kI (k : Int) = kI 0 → WM mX3_takes 0 0 Post 7 60 [(0, .ref 0), (1, vI (k : Int)), (2, vJ (c : Int)), (4, .ref 4), (5, vI 1)] [] [ob 3 [.ref 1, .ref 2, .ref 3, vI (s : Int), vI (ah : Int), vZ ar, vI (q : Int)], cN 16 lens, cN 16 tens, cN 16 phr, ob 9 [vI (mo : Int), .ref 5, .ref 6, vI (d : Int)], cI mo nums, cK mo g] 0 0) ∧ (¬ kI (k : Int) = kI 0 → (kI (k : Int) = kI 1 → WM mX3_takes 0 0 Post 7 84 [(0, .ref 0), (1, vI (k : Int)), (2, vJ (c : Int)), (4, .ref 4), (5, vI 1)] [] [ob 3 [.ref 1, .ref 2, .ref 3, vI (s : Int), vI (ah : Int), vZ ar, vI (q : Int)], cN 16 lens, cN 16 tens, cN 16 phr, ob 9 [vI (mo : Int), .ref 5, .ref 6, vI (d : Int)], cI mo nums, cK mo g] 0 0) ∧ (¬ kI (k : Int) = kI 1 → (kI (k : Int) = kI 2 → WM mX3_takes 0 0 Post 7 104 [(0, .ref 0), (1, vI (k : Int)), (2, vJ (c : Int)), (4, .ref 4), (5, vI 1)] [] [ob 3 [.ref 1, .ref 2, .ref 3, vI (s : Int), vI (ah : Int), vZ ar, vI (q : Int)], cN 16 lens, cN 16 tens, cN 16 phr, ob 9 [vI (mo : Int), .ref 5, .ref 6, vI (d : Int)], cI mo nums, cK mo g] 0 0) ∧ (¬ kI (k : Int) = kI 2 → (kI (k : Int) = kI 3 → WM mX3_takes 0 0 Post 7 121 [(0, .ref 0), (1, vI (k : Int)), (2, vJ (c : Int)), (4, .ref 4), (5, vI 1)] [] [ob 3 [.ref 1, .ref 2, .ref 3, vI (s : Int), vI (ah : Int), vZ ar, vI (q : Int)], cN 16 lens, cN 16 tens, cN 16 phr, ob 9 [vI (mo : Int), .ref 5, .ref 6, vI (d : Int)], cI mo nums, cK mo g] 0 0) ∧ (¬ kI (k : Int) = kI 3 → (kI (k : Int) = kI 4 → WM mX3_takes 0 0 Post 7 139 [(0, .ref 0), (1, vI (k : Int)), (2, vJ (c : Int)), (4, .ref 4), (5, vI 1)] [] [ob 3 [.ref 1, .ref 2, .ref 3, vI (s : Int), vI (ah : Int), vZ ar, vI (q : Int)], cN 16 lens, cN 16 tens, cN 16 phr, ob 9 [vI (mo : Int), .ref 5, .ref 6, vI (d : Int)], cI mo nums, cK mo g] 0 0) ∧ (¬ kI (k : Int) = kI 4 → WM mX3_takes 0 0 Post 7 158 [(0, .ref 0), (1, vI (k : Int)), (2, vJ (c : Int)), (4, .ref 4), (5, vI 1)] [] [ob 3 [.ref 1, .ref 2, .ref 3, vI (s : Int), vI (ah : Int), vZ ar, vI (q : Int)], cN 16 lens, cN 16 tens, cN 16 phr, ob 9 [vI (mo : Int), .ref 5, .ref 6, vI (d : Int)], cI mo nums, cK mo g] 0 0)))))
      refine ⟨fun s24_0 => ?_, fun s24_0 => ?_⟩
      · 
        rw [kI_eq (by omega)] at s24_0
        refine sq_ok rfl [(.aload_n 0, 0, 0, 0), (.getfield 32, 3, 6, 0), (.iconst 3, 0, 0, 0), (.if_icmp .ne 11, 0, 0, 0)] 60 _ _ _ _ _ (by decide +kernel) ?_
        show (¬ kI (q : Int) = kI 3 → WM mX3_takes 0 0 Post 7 76 [(0, .ref 0), (1, vI (k : Int)), (2, vJ (c : Int)), (4, .ref 4), (5, vI 1)] [] [ob 3 [.ref 1, .ref 2, .ref 3, vI (s : Int), vI (ah : Int), vZ ar, vI (q : Int)], cN 16 lens, cN 16 tens, cN 16 phr, ob 9 [vI (mo : Int), .ref 5, .ref 6, vI (d : Int)], cI mo nums, cK mo g] 0 0) ∧ (kI (q : Int) = kI 3 → WM mX3_takes 0 0 Post 7 68 [(0, .ref 0), (1, vI (k : Int)), (2, vJ (c : Int)), (4, .ref 4), (5, vI 1)] [] [ob 3 [.ref 1, .ref 2, .ref 3, vI (s : Int), vI (ah : Int), vZ ar, vI (q : Int)], cN 16 lens, cN 16 tens, cN 16 phr, ob 9 [vI (mo : Int), .ref 5, .ref 6, vI (d : Int)], cI mo nums, cK mo g] 0 0)
        refine ⟨fun c65 => ?_, fun c65 => ?_⟩
        · 
          rw [kI_eq (by omega)] at c65
          refine sq_ok rfl [(.aload_n 0, 0, 0, 0), (.lload_n 2, 0, 0, 0), (.aload 4, 0, 0, 0)] 76 _ _ _ _ _ (by decide +kernel) ?_
          show WM mX3_takes 0 0 Post 7 80 [(0, .ref 0), (1, vI (k : Int)), (2, vJ (c : Int)), (4, .ref 4), (5, vI 1)] [.ref 4, vJ (c : Int), .ref 0] [ob 3 [.ref 1, .ref 2, .ref 3, vI (s : Int), vI (ah : Int), vZ ar, vI (q : Int)], cN 16 lens, cN 16 tens, cN 16 phr, ob 9 [vI (mo : Int), .ref 5, .ref 6, vI (d : Int)], cI mo nums, cK mo g] 0 0
          refine wm_callV mX3_takesWord [0, 1, 2, 3, 4, 5, 6] (pc := 80) (rest := []) (mc' := 0) (ms' := 0) (by decide +kernel) kX3_64 (c_X3_takesWord lens tens phr s ah ar q mo d hmo nums g c hI) rfl rfl ⟨_, rfl, rfl⟩ ⟨Nat.le_of_ble_eq_true rfl, Nat.le_of_ble_eq_true rfl⟩ ⟨Nat.le_of_ble_eq_true rfl, Nat.le_of_ble_eq_true rfl⟩ (Nat.le_of_ble_eq_true rfl) rfl rfl (Nat.le_of_ble_eq_true rfl) rfl ?_
          rintro _ _ ⟨lens2, tens2, s2, q2, g2, d2, b, rfl, rfl, hb⟩
          show WM mX3_takes 0 0 Post 7 83 [(0, .ref 0), (1, vI (k : Int)), (2, vJ (c : Int)), (4, .ref 4), (5, vI 1)] [vZ b] [ob 3 [.ref 1, .ref 2, .ref 3, vI (s2 : Int), vI (ah : Int), vZ ar, vI (q2 : Int)], cN 16 lens2, cN 16 tens2, cN 16 phr, ob 9 [vI (mo : Int), .ref 5, .ref 6, vI (d2 : Int)], cI mo nums, cK mo g2] 0 0
          refine sq_ok rfl [(.ireturn, 0, 0, 0)] 83 _ _ _ _ _ (by decide +kernel) ?_
          show narrow .boolean (.int (bI b)) = .int (bI b) ∧ ((0 ≤ 0 ∧ 0 ≤ 0) ∧ Post (some (vZ b)) [ob 3 [.ref 1, .ref 2, .ref 3, vI (s2 : Int), vI (ah : Int), vZ ar, vI (q2 : Int)], cN 16 lens2, cN 16 tens2, cN 16 phr, ob 9 [vI (mo : Int), .ref 5, .ref 6, vI (d2 : Int)], cI mo nums, cK mo g2])
          refine ⟨(bI_fits b).1, ?_⟩
          refine ⟨⟨Nat.le_refl _, Nat.le_refl _⟩, hp _ _ ?_⟩
          first
          | exact ⟨lens2, tens2, s2, ah, ar, q2, g2, d2, b, rfl, rfl, by rw [ps0w (by omega) (show ¬ q = 3 by omega)]; exact hb⟩
          | exact ⟨lens, va_up tens (s - 1) (tenW c), s, ah, ar, 4, g, d, true, rfl, rfl, by
              rw [if_pos rfl, ps0t (by omega) (show q = 3 by omega)]
              refine ⟨?_, by omega, i2, i3, fun _ => by omega, i5, i6, i7⟩
              unfold pTen
              rw [if_neg (fun h => hb2 (h.imp id (sd_ne lens tens).mp)), sd_last lens tens (by omega)]
              unfold pabs
              rw [sd_set (lens := lens) (tens := tens) (by omega) (fun _ _ => rfl) (fun j hj => up_ne _ _ (by omega)), up_eq]⟩
          | exact ⟨lens, tens, s, ah, ar, q, g, d, false, rfl, rfl, by
              rw [ps0t (by omega) (show q = 3 by omega)]
              unfold pTen
              rw [if_pos (hb2.imp id (sd_ne lens tens).mpr)]
              rfl⟩
        · 
          rw [kI_eq (by omega)] at c65
          refine sq_ok rfl [(.aload_n 0, 0, 0, 0), (.lload_n 2, 0, 0, 0)] 68 _ _ _ _ _ (by decide +kernel) ?_
          show WM mX3_takes 0 0 Post 7 70 [(0, .ref 0), (1, vI (k : Int)), (2, vJ (c : Int)), (4, .ref 4), (5, vI 1)] [vJ (c : Int), .ref 0] [ob 3 [.ref 1, .ref 2, .ref 3, vI (s : Int), vI (ah : Int), vZ ar, vI (q : Int)], cN 16 lens, cN 16 tens, cN 16 phr, ob 9 [vI (mo : Int), .ref 5, .ref 6, vI (d : Int)], cI mo nums, cK mo g] 0 0
          refine wm_callV mX3_takesTenths [0, 1, 2, 3] (pc := 70) (rest := []) (mc' := 0) (ms' := 0) (by decide +kernel) kX3_60 (c_X3_takesTenths lens tens phr s ah ar q i2 c hc) rfl rfl ⟨_, rfl, rfl⟩ ⟨Nat.le_of_ble_eq_true rfl, Nat.le_of_ble_eq_true rfl⟩ ⟨Nat.le_of_ble_eq_true rfl, Nat.le_of_ble_eq_true rfl⟩ (Nat.le_of_ble_eq_true rfl) rfl rfl (Nat.le_of_ble_eq_true rfl) rfl ?_
          rintro _ _ ⟨b, rfl, ⟨rfl, rfl, hb2⟩ | ⟨rfl, rfl, hb2⟩⟩
          · 
            show WM mX3_takes 0 0 Post 7 73 [(0, .ref 0), (1, vI (k : Int)), (2, vJ (c : Int)), (4, .ref 4), (5, vI 1)] [vZ false] [ob 3 [.ref 1, .ref 2, .ref 3, vI (s : Int), vI (ah : Int), vZ ar, vI (q : Int)], cN 16 lens, cN 16 tens, cN 16 phr, ob 9 [vI (mo : Int), .ref 5, .ref 6, vI (d : Int)], cI mo nums, cK mo g] 0 0
            refine sq_ok rfl [(.goto 10, 0, 0, 0)] 73 _ _ _ _ _ (by decide +kernel) ?_
            show WM mX3_takes 0 0 Post 7 83 [(0, .ref 0), (1, vI (k : Int)), (2, vJ (c : Int)), (4, .ref 4), (5, vI 1)] [vZ false] [ob 3 [.ref 1, .ref 2, .ref 3, vI (s : Int), vI (ah : Int), vZ ar, vI (q : Int)], cN 16 lens, cN 16 tens, cN 16 phr, ob 9 [vI (mo : Int), .ref 5, .ref 6, vI (d : Int)], cI mo nums, cK mo g] 0 0
            refine sq_ok rfl [(.ireturn, 0, 0, 0)] 83 _ _ _ _ _ (by decide +kernel) ?_
            show narrow .boolean (.int (bI false)) = .int (bI false) ∧ ((0 ≤ 0 ∧ 0 ≤ 0) ∧ Post (some (vZ false)) [ob 3 [.ref 1, .ref 2, .ref 3, vI (s : Int), vI (ah : Int), vZ ar, vI (q : Int)], cN 16 lens, cN 16 tens, cN 16 phr, ob 9 [vI (mo : Int), .ref 5, .ref 6, vI (d : Int)], cI mo nums, cK mo g])
            refine ⟨(bI_fits false).1, ?_⟩
            refine ⟨⟨Nat.le_refl _, Nat.le_refl _⟩, hp _ _ ?_⟩
            first
            | exact ⟨lens2, tens2, s2, ah, ar, q2, g2, d2, b, rfl, rfl, by rw [ps0w (by omega) (show ¬ q = 3 by omega)]; exact hb⟩
            | exact ⟨lens, va_up tens (s - 1) (tenW c), s, ah, ar, 4, g, d, true, rfl, rfl, by
                rw [if_pos rfl, ps0t (by omega) (show q = 3 by omega)]
                refine ⟨?_, by omega, i2, i3, fun _ => by omega, i5, i6, i7⟩
                unfold pTen
                rw [if_neg (fun h => hb2 (h.imp id (sd_ne lens tens).mp)), sd_last lens tens (by omega)]
                unfold pabs
                rw [sd_set (lens := lens) (tens := tens) (by omega) (fun _ _ => rfl) (fun j hj => up_ne _ _ (by omega)), up_eq]⟩
            | exact ⟨lens, tens, s, ah, ar, q, g, d, false, rfl, rfl, by
                rw [ps0t (by omega) (show q = 3 by omega)]
                unfold pTen
                rw [if_pos (hb2.imp id (sd_ne lens tens).mpr)]
                rfl⟩
          · 
            show WM mX3_takes 0 0 Post 7 73 [(0, .ref 0), (1, vI (k : Int)), (2, vJ (c : Int)), (4, .ref 4), (5, vI 1)] [vZ true] [ob 3 [.ref 1, .ref 2, .ref 3, vI (s : Int), vI (ah : Int), vZ ar, vI 4], cN 16 lens, cN 16 (va_up tens (s - 1) (tenW c)), cN 16 phr, ob 9 [vI (mo : Int), .ref 5, .ref 6, vI (d : Int)], cI mo nums, cK mo g] 0 0
            refine sq_ok rfl [(.goto 10, 0, 0, 0)] 73 _ _ _ _ _ (by decide +kernel) ?_
            show WM mX3_takes 0 0 Post 7 83 [(0, .ref 0), (1, vI (k : Int)), (2, vJ (c : Int)), (4, .ref 4), (5, vI 1)] [vZ true] [ob 3 [.ref 1, .ref 2, .ref 3, vI (s : Int), vI (ah : Int), vZ ar, vI 4], cN 16 lens, cN 16 (va_up tens (s - 1) (tenW c)), cN 16 phr, ob 9 [vI (mo : Int), .ref 5, .ref 6, vI (d : Int)], cI mo nums, cK mo g] 0 0
            refine sq_ok rfl [(.ireturn, 0, 0, 0)] 83 _ _ _ _ _ (by decide +kernel) ?_
            show narrow .boolean (.int (bI true)) = .int (bI true) ∧ ((0 ≤ 0 ∧ 0 ≤ 0) ∧ Post (some (vZ true)) [ob 3 [.ref 1, .ref 2, .ref 3, vI (s : Int), vI (ah : Int), vZ ar, vI 4], cN 16 lens, cN 16 (va_up tens (s - 1) (tenW c)), cN 16 phr, ob 9 [vI (mo : Int), .ref 5, .ref 6, vI (d : Int)], cI mo nums, cK mo g])
            refine ⟨(bI_fits true).1, ?_⟩
            refine ⟨⟨Nat.le_refl _, Nat.le_refl _⟩, hp _ _ ?_⟩
            first
            | exact ⟨lens2, tens2, s2, ah, ar, q2, g2, d2, b, rfl, rfl, by rw [ps0w (by omega) (show ¬ q = 3 by omega)]; exact hb⟩
            | exact ⟨lens, va_up tens (s - 1) (tenW c), s, ah, ar, 4, g, d, true, rfl, rfl, by
                rw [if_pos rfl, ps0t (by omega) (show q = 3 by omega)]
                refine ⟨?_, by omega, i2, i3, fun _ => by omega, i5, i6, i7⟩
                unfold pTen
                rw [if_neg (fun h => hb2 (h.imp id (sd_ne lens tens).mp)), sd_last lens tens (by omega)]
                unfold pabs
                rw [sd_set (lens := lens) (tens := tens) (by omega) (fun _ _ => rfl) (fun j hj => up_ne _ _ (by omega)), up_eq]⟩
            | exact ⟨lens, tens, s, ah, ar, q, g, d, false, rfl, rfl, by
                rw [ps0t (by omega) (show q = 3 by omega)]
                unfold pTen
                rw [if_pos (hb2.imp id (sd_ne lens tens).mpr)]
                rfl⟩
      · 
        rw [kI_eq (by omega)] at s24_0
        refine ⟨fun s24_1 => ?_, fun s24_1 => ?_⟩
        · 
          rw [kI_eq (by omega)] at s24_1
          refine sq_ok rfl [(.aload_n 0, 0, 0, 0), (.iload 5, 0, 0, 0), (.ifCond .eq 7, 0, 0, 0)] 84 _ _ _ _ _ (by decide +kernel) ?_
          show (kI 1 = kI 0 → WM mX3_takes 0 0 Post 7 94 [(0, .ref 0), (1, vI (k : Int)), (2, vJ (c : Int)), (4, .ref 4), (5, vI 1)] [.ref 0] [ob 3 [.ref 1, .ref 2, .ref 3, vI (s : Int), vI (ah : Int), vZ ar, vI (q : Int)], cN 16 lens, cN 16 tens, cN 16 phr, ob 9 [vI (mo : Int), .ref 5, .ref 6, vI (d : Int)], cI mo nums, cK mo g] 0 0) ∧ (¬ kI 1 = kI 0 → WM mX3_takes 0 0 Post 7 90 [(0, .ref 0), (1, vI (k : Int)), (2, vJ (c : Int)), (4, .ref 4), (5, vI 1)] [.ref 0] [ob 3 [.ref 1, .ref 2, .ref 3, vI (s : Int), vI (ah : Int), vZ ar, vI (q : Int)], cN 16 lens, cN 16 tens, cN 16 phr, ob 9 [vI (mo : Int), .ref 5, .ref 6, vI (d : Int)], cI mo nums, cK mo g] 0 0)
          refine ⟨fun c87 => ?_, fun c87 => ?_⟩
          · 
            exact absurd c87 (by decide)
          · 
            rw [kI_eq (by omega)] at c87
            refine sq_ok rfl [(.iconst 0, 0, 0, 0), (.goto 7, 0, 0, 0)] 90 _ _ _ _ _ (by decide +kernel) ?_
            show WM mX3_takes 0 0 Post 7 98 [(0, .ref 0), (1, vI (k : Int)), (2, vJ (c : Int)), (4, .ref 4), (5, vI 1)] [vI 0, .ref 0] [ob 3 [.ref 1, .ref 2, .ref 3, vI (s : Int), vI (ah : Int), vZ ar, vI (q : Int)], cN 16 lens, cN 16 tens, cN 16 phr, ob 9 [vI (mo : Int), .ref 5, .ref 6, vI (d : Int)], cI mo nums, cK mo g] 0 0
            refine sq_ok rfl [(.putfield 32, 3, 6, 0), (.iload 5, 0, 0, 0), (.ireturn, 0, 0, 0)] 98 _ _ _ _ _ (by decide +kernel) ?_
            show narrow .boolean (.int (kI 1)) = .int (kI 1) ∧ ((0 ≤ 0 ∧ 0 ≤ 0) ∧ Post (some (vI 1)) [ob 3 [.ref 1, .ref 2, .ref 3, vI (s : Int), vI (ah : Int), vZ ar, vI 0], cN 16 lens, cN 16 tens, cN 16 phr, ob 9 [vI (mo : Int), .ref 5, .ref 6, vI (d : Int)], cI mo nums, cK mo g])
            refine ⟨(bI_fits true).1, ?_⟩
            refine ⟨⟨Nat.le_refl _, Nat.le_refl _⟩, hp _ _ ?_⟩
            first
            | exact ⟨lens, tens, s, ah, ar, 0, g, d, true, rfl, rfl, by rw [if_pos rfl, ps1 (by omega), if_pos (show q = 2 ∨ q = 4 by omega)]; exact ⟨rfl, by omega, i2, i3, fun h => by omega, i5, i6, i7⟩⟩
            | exact ⟨lens, tens, s, ah, ar, q, g, d, false, rfl, rfl, by rw [ps1 (by omega), if_neg (show ¬ (q = 2 ∨ q = 4) by omega)]; rfl⟩
        · 
          rw [kI_eq (by omega)] at s24_1
          refine ⟨fun s24_2 => ?_, fun s24_2 => ?_⟩
          · 
            rw [kI_eq (by omega)] at s24_2
            refine sq_ok rfl [(.aload_n 0, 0, 0, 0), (.getfield 32, 3, 6, 0), (.iconst 2, 0, 0, 0), (.if_icmp .eq 5, 0, 0, 0)] 104 _ _ _ _ _ (by decide +kernel) ?_
            show (kI (q : Int) = kI 2 → WM mX3_takes 0 0 Post 7 114 [(0, .ref 0), (1, vI (k : Int)), (2, vJ (c : Int)), (4, .ref 4), (5, vI 1)] [] [ob 3 [.ref 1, .ref 2, .ref 3, vI (s : Int), vI (ah : Int), vZ ar, vI (q : Int)], cN 16 lens, cN 16 tens, cN 16 phr, ob 9 [vI (mo : Int), .ref 5, .ref 6, vI (d : Int)], cI mo nums, cK mo g] 0 0) ∧ (¬ kI (q : Int) = kI 2 → WM mX3_takes 0 0 Post 7 112 [(0, .ref 0), (1, vI (k : Int)), (2, vJ (c : Int)), (4, .ref 4), (5, vI 1)] [] [ob 3 [.ref 1, .ref 2, .ref 3, vI (s : Int), vI (ah : Int), vZ ar, vI (q : Int)], cN 16 lens, cN 16 tens, cN 16 phr, ob 9 [vI (mo : Int), .ref 5, .ref 6, vI (d : Int)], cI mo nums, cK mo g] 0 0)
            refine ⟨fun c109 => ?_, fun c109 => ?_⟩
            · 
              rw [kI_eq (by omega)] at c109
              refine sq_ok rfl [(.aload_n 0, 0, 0, 0), (.iconst 3, 0, 0, 0), (.putfield 32, 3, 6, 0), (.iconst 1, 0, 0, 0), (.ireturn, 0, 0, 0)] 114 _ _ _ _ _ (by decide +kernel) ?_
              show narrow .boolean (.int (kI 1)) = .int (kI 1) ∧ ((0 ≤ 0 ∧ 0 ≤ 0) ∧ Post (some (vI 1)) [ob 3 [.ref 1, .ref 2, .ref 3, vI (s : Int), vI (ah : Int), vZ ar, vI 3], cN 16 lens, cN 16 tens, cN 16 phr, ob 9 [vI (mo : Int), .ref 5, .ref 6, vI (d : Int)], cI mo nums, cK mo g])
              refine ⟨(bI_fits true).1, ?_⟩
              refine ⟨⟨Nat.le_refl _, Nat.le_refl _⟩, hp _ _ ?_⟩
              exact ⟨lens, tens, s, ah, ar, 3, g, d, true, rfl, rfl, by rw [if_pos rfl, ps2 (by omega), if_pos (show q = 2 by omega)]; exact ⟨rfl, by omega, i2, i3, fun h => i4 (by omega), i5, i6, i7⟩⟩
            · 
              rw [kI_eq (by omega)] at c109
              refine sq_ok rfl [(.iconst 0, 0, 0, 0), (.ireturn, 0, 0, 0)] 112 _ _ _ _ _ (by decide +kernel) ?_
              show narrow .boolean (.int (kI 0)) = .int (kI 0) ∧ ((0 ≤ 0 ∧ 0 ≤ 0) ∧ Post (some (vI 0)) [ob 3 [.ref 1, .ref 2, .ref 3, vI (s : Int), vI (ah : Int), vZ ar, vI (q : Int)], cN 16 lens, cN 16 tens, cN 16 phr, ob 9 [vI (mo : Int), .ref 5, .ref 6, vI (d : Int)], cI mo nums, cK mo g])
              refine ⟨(bI_fits false).1, ?_⟩
              refine ⟨⟨Nat.le_refl _, Nat.le_refl _⟩, hp _ _ ?_⟩
              exact ⟨lens, tens, s, ah, ar, q, g, d, false, rfl, rfl, by rw [ps2 (by omega), if_neg (show ¬ q = 2 by omega)]; rfl⟩
          · 
            rw [kI_eq (by omega)] at s24_2
            refine ⟨fun s24_3 => ?_, fun s24_3 => ?_⟩
            · 
              rw [kI_eq (by omega)] at s24_3
              refine sq_ok rfl [(.iload 5, 0, 0, 0), (.ifCond .eq 14, 0, 0, 0)] 121 _ _ _ _ _ (by decide +kernel) ?_
              show (kI 1 = kI 0 → WM mX3_takes 0 0 Post 7 137 [(0, .ref 0), (1, vI (k : Int)), (2, vJ (c : Int)), (4, .ref 4), (5, vI 1)] [] [ob 3 [.ref 1, .ref 2, .ref 3, vI (s : Int), vI (ah : Int), vZ ar, vI (q : Int)], cN 16 lens, cN 16 tens, cN 16 phr, ob 9 [vI (mo : Int), .ref 5, .ref 6, vI (d : Int)], cI mo nums, cK mo g] 0 0) ∧ (¬ kI 1 = kI 0 → WM mX3_takes 0 0 Post 7 126 [(0, .ref 0), (1, vI (k : Int)), (2, vJ (c : Int)), (4, .ref 4), (5, vI 1)] [] [ob 3 [.ref 1, .ref 2, .ref 3, vI (s : Int), vI (ah : Int), vZ ar, vI (q : Int)], cN 16 lens, cN 16 tens, cN 16 phr, ob 9 [vI (mo : Int), .ref 5, .ref 6, vI (d : Int)], cI mo nums, cK mo g] 0 0)
              refine ⟨fun c123 => ?_, fun c123 => ?_⟩
              · 
                exact absurd c123 (by decide)
              · 
                rw [kI_eq (by omega)] at c123
                refine sq_ok rfl [(.aload_n 0, 0, 0, 0)] 126 _ _ _ _ _ (by decide +kernel) ?_
                show WM mX3_takes 0 0 Post 7 127 [(0, .ref 0), (1, vI (k : Int)), (2, vJ (c : Int)), (4, .ref 4), (5, vI 1)] [.ref 0] [ob 3 [.ref 1, .ref 2, .ref 3, vI (s : Int), vI (ah : Int), vZ ar, vI (q : Int)], cN 16 lens, cN 16 tens, cN 16 phr, ob 9 [vI (mo : Int), .ref 5, .ref 6, vI (d : Int)], cI mo nums, cK mo g] 0 0
                refine wm_callV mX3_takesArrow [0, 1, 2, 3] (pc := 127) (rest := []) (mc' := 0) (ms' := 0) (by decide +kernel) kX3_68 (c_X3_takesArrow lens tens phr s ah ar q) rfl rfl ⟨_, rfl, rfl⟩ ⟨Nat.le_of_ble_eq_true rfl, Nat.le_of_ble_eq_true rfl⟩ ⟨Nat.le_of_ble_eq_true rfl, Nat.le_of_ble_eq_true rfl⟩ (Nat.le_of_ble_eq_true rfl) rfl rfl (Nat.le_of_ble_eq_true rfl) rfl ?_
                rintro _ _ ⟨b, rfl, ⟨rfl, rfl, hb2⟩ | ⟨rfl, rfl, hb2⟩⟩
                · 
                  show WM mX3_takes 0 0 Post 7 130 [(0, .ref 0), (1, vI (k : Int)), (2, vJ (c : Int)), (4, .ref 4), (5, vI 1)] [vZ false] [ob 3 [.ref 1, .ref 2, .ref 3, vI (s : Int), vI (ah : Int), vZ ar, vI (q : Int)], cN 16 lens, cN 16 tens, cN 16 phr, ob 9 [vI (mo : Int), .ref 5, .ref 6, vI (d : Int)], cI mo nums, cK mo g] 0 0
                  refine sq_ok rfl [(.ifCond .eq 7, 0, 0, 0)] 130 _ _ _ _ _ (by decide +kernel) ?_
                  show ((bI false) = kI 0 → WM mX3_takes 0 0 Post 7 137 [(0, .ref 0), (1, vI (k : Int)), (2, vJ (c : Int)), (4, .ref 4), (5, vI 1)] [] [ob 3 [.ref 1, .ref 2, .ref 3, vI (s : Int), vI (ah : Int), vZ ar, vI (q : Int)], cN 16 lens, cN 16 tens, cN 16 phr, ob 9 [vI (mo : Int), .ref 5, .ref 6, vI (d : Int)], cI mo nums, cK mo g] 0 0) ∧ (¬ (bI false) = kI 0 → WM mX3_takes 0 0 Post 7 133 [(0, .ref 0), (1, vI (k : Int)), (2, vJ (c : Int)), (4, .ref 4), (5, vI 1)] [] [ob 3 [.ref 1, .ref 2, .ref 3, vI (s : Int), vI (ah : Int), vZ ar, vI (q : Int)], cN 16 lens, cN 16 tens, cN 16 phr, ob 9 [vI (mo : Int), .ref 5, .ref 6, vI (d : Int)], cI mo nums, cK mo g] 0 0)
                  refine ⟨fun c130 => ?_, fun c130 => ?_⟩
                  · 
                    rw [bI_eq0] at c130
                    refine sq_ok rfl [(.iconst 0, 0, 0, 0), (.ireturn, 0, 0, 0)] 137 _ _ _ _ _ (by decide +kernel) ?_
                    show narrow .boolean (.int (kI 0)) = .int (kI 0) ∧ ((0 ≤ 0 ∧ 0 ≤ 0) ∧ Post (some (vI 0)) [ob 3 [.ref 1, .ref 2, .ref 3, vI (s : Int), vI (ah : Int), vZ ar, vI (q : Int)], cN 16 lens, cN 16 tens, cN 16 phr, ob 9 [vI (mo : Int), .ref 5, .ref 6, vI (d : Int)], cI mo nums, cK mo g])
                    refine ⟨(bI_fits false).1, ?_⟩
                    refine ⟨⟨Nat.le_refl _, Nat.le_refl _⟩, hp _ _ ?_⟩
                    first
                    | exact ⟨lens, tens, s, s, true, 1, g, d, true, rfl, rfl, by
                        rw [if_pos rfl, ps3 (by omega), if_pos (show q = 2 ∨ q = 4 by omega)]
                        refine ⟨?_, by omega, i2, by omega, fun h => by omega, i5, i6, i7⟩
                        unfold pArr
                        rw [if_neg (show ¬ ar = true by rw [hb2]; decide), lst_len]⟩
                    | exact ⟨lens, tens, s, ah, ar, q, g, d, false, rfl, rfl, by rw [ps3 (by omega), if_pos (show q = 2 ∨ q = 4 by omega)]; unfold pArr; rw [if_pos (show ar = true from hb2)]; rfl⟩
                    | exact ⟨lens, tens, s, ah, ar, q, g, d, false, rfl, rfl, by rw [ps3 (by omega), if_neg (show ¬ (q = 2 ∨ q = 4) by omega)]; rfl⟩
                  · 
                    exact absurd c130 (by decide)
                · 
                  show WM mX3_takes 0 0 Post 7 130 [(0, .ref 0), (1, vI (k : Int)), (2, vJ (c : Int)), (4, .ref 4), (5, vI 1)] [vZ true] [ob 3 [.ref 1, .ref 2, .ref 3, vI (s : Int), vI (s : Int), vZ true, vI 1], cN 16 lens, cN 16 tens, cN 16 phr, ob 9 [vI (mo : Int), .ref 5, .ref 6, vI (d : Int)], cI mo nums, cK mo g] 0 0
                  refine sq_ok rfl [(.ifCond .eq 7, 0, 0, 0)] 130 _ _ _ _ _ (by decide +kernel) ?_
                  show ((bI true) = kI 0 → WM mX3_takes 0 0 Post 7 137 [(0, .ref 0), (1, vI (k : Int)), (2, vJ (c : Int)), (4, .ref 4), (5, vI 1)] [] [ob 3 [.ref 1, .ref 2, .ref 3, vI (s : Int), vI (s : Int), vZ true, vI 1], cN 16 lens, cN 16 tens, cN 16 phr, ob 9 [vI (mo : Int), .ref 5, .ref 6, vI (d : Int)], cI mo nums, cK mo g] 0 0) ∧ (¬ (bI true) = kI 0 → WM mX3_takes 0 0 Post 7 133 [(0, .ref 0), (1, vI (k : Int)), (2, vJ (c : Int)), (4, .ref 4), (5, vI 1)] [] [ob 3 [.ref 1, .ref 2, .ref 3, vI (s : Int), vI (s : Int), vZ true, vI 1], cN 16 lens, cN 16 tens, cN 16 phr, ob 9 [vI (mo : Int), .ref 5, .ref 6, vI (d : Int)], cI mo nums, cK mo g] 0 0)
                  refine ⟨fun c130 => ?_, fun c130 => ?_⟩
                  · 
                    exact absurd c130 (by decide)
                  · 
                    rw [bI_eq0] at c130
                    refine sq_ok rfl [(.iconst 1, 0, 0, 0), (.goto 4, 0, 0, 0)] 133 _ _ _ _ _ (by decide +kernel) ?_
                    show WM mX3_takes 0 0 Post 7 138 [(0, .ref 0), (1, vI (k : Int)), (2, vJ (c : Int)), (4, .ref 4), (5, vI 1)] [vI 1] [ob 3 [.ref 1, .ref 2, .ref 3, vI (s : Int), vI (s : Int), vZ true, vI 1], cN 16 lens, cN 16 tens, cN 16 phr, ob 9 [vI (mo : Int), .ref 5, .ref 6, vI (d : Int)], cI mo nums, cK mo g] 0 0
                    refine sq_ok rfl [(.ireturn, 0, 0, 0)] 138 _ _ _ _ _ (by decide +kernel) ?_
                    show narrow .boolean (.int (kI 1)) = .int (kI 1) ∧ ((0 ≤ 0 ∧ 0 ≤ 0) ∧ Post (some (vI 1)) [ob 3 [.ref 1, .ref 2, .ref 3, vI (s : Int), vI (s : Int), vZ true, vI 1], cN 16 lens, cN 16 tens, cN 16 phr, ob 9 [vI (mo : Int), .ref 5, .ref 6, vI (d : Int)], cI mo nums, cK mo g])
                    refine ⟨(bI_fits true).1, ?_⟩
                    refine ⟨⟨Nat.le_refl _, Nat.le_refl _⟩, hp _ _ ?_⟩
                    first
                    | exact ⟨lens, tens, s, s, true, 1, g, d, true, rfl, rfl, by
                        rw [if_pos rfl, ps3 (by omega), if_pos (show q = 2 ∨ q = 4 by omega)]
                        refine ⟨?_, by omega, i2, by omega, fun h => by omega, i5, i6, i7⟩
                        unfold pArr
                        rw [if_neg (show ¬ ar = true by rw [hb2]; decide), lst_len]⟩
                    | exact ⟨lens, tens, s, ah, ar, q, g, d, false, rfl, rfl, by rw [ps3 (by omega), if_pos (show q = 2 ∨ q = 4 by omega)]; unfold pArr; rw [if_pos (show ar = true from hb2)]; rfl⟩
                    | exact ⟨lens, tens, s, ah, ar, q, g, d, false, rfl, rfl, by rw [ps3 (by omega), if_neg (show ¬ (q = 2 ∨ q = 4) by omega)]; rfl⟩
            · 
              rw [kI_eq (by omega)] at s24_3
              refine ⟨fun s24_4 => ?_, fun s24_4 => ?_⟩
              · 
                rw [kI_eq (by omega)] at s24_4
                refine sq_ok rfl [(.iload 5, 0, 0, 0), (.ifCond .ne 11, 0, 0, 0)] 139 _ _ _ _ _ (by decide +kernel) ?_
                show (¬ kI 1 = kI 0 → WM mX3_takes 0 0 Post 7 152 [(0, .ref 0), (1, vI (k : Int)), (2, vJ (c : Int)), (4, .ref 4), (5, vI 1)] [] [ob 3 [.ref 1, .ref 2, .ref 3, vI (s : Int), vI (ah : Int), vZ ar, vI (q : Int)], cN 16 lens, cN 16 tens, cN 16 phr, ob 9 [vI (mo : Int), .ref 5, .ref 6, vI (d : Int)], cI mo nums, cK mo g] 0 0) ∧ (kI 1 = kI 0 → WM mX3_takes 0 0 Post 7 144 [(0, .ref 0), (1, vI (k : Int)), (2, vJ (c : Int)), (4, .ref 4), (5, vI 1)] [] [ob 3 [.ref 1, .ref 2, .ref 3, vI (s : Int), vI (ah : Int), vZ ar, vI (q : Int)], cN 16 lens, cN 16 tens, cN 16 phr, ob 9 [vI (mo : Int), .ref 5, .ref 6, vI (d : Int)], cI mo nums, cK mo g] 0 0)
                refine ⟨fun c141 => ?_, fun c141 => ?_⟩
                · 
                  rw [kI_eq (by omega)] at c141
                  refine sq_ok rfl [(.iconst 1, 0, 0, 0), (.goto 4, 0, 0, 0)] 152 _ _ _ _ _ (by decide +kernel) ?_
                  show WM mX3_takes 0 0 Post 7 157 [(0, .ref 0), (1, vI (k : Int)), (2, vJ (c : Int)), (4, .ref 4), (5, vI 1)] [vI 1] [ob 3 [.ref 1, .ref 2, .ref 3, vI (s : Int), vI (ah : Int), vZ ar, vI (q : Int)], cN 16 lens, cN 16 tens, cN 16 phr, ob 9 [vI (mo : Int), .ref 5, .ref 6, vI (d : Int)], cI mo nums, cK mo g] 0 0
                  refine sq_ok rfl [(.ireturn, 0, 0, 0)] 157 _ _ _ _ _ (by decide +kernel) ?_
                  show narrow .boolean (.int (kI 1)) = .int (kI 1) ∧ ((0 ≤ 0 ∧ 0 ≤ 0) ∧ Post (some (vI 1)) [ob 3 [.ref 1, .ref 2, .ref 3, vI (s : Int), vI (ah : Int), vZ ar, vI (q : Int)], cN 16 lens, cN 16 tens, cN 16 phr, ob 9 [vI (mo : Int), .ref 5, .ref 6, vI (d : Int)], cI mo nums, cK mo g])
                  refine ⟨(bI_fits true).1, ?_⟩
                  refine ⟨⟨Nat.le_refl _, Nat.le_refl _⟩, hp _ _ ?_⟩
                  first
                  | exact ⟨lens, tens, s, ah, ar, q, g, d, true, rfl, rfl, by rw [if_pos rfl, ps4 (by omega), if_pos (show q = 2 ∨ q = 4 ∨ q = 1 by omega)]; exact ⟨rfl, hI⟩⟩
                  | exact ⟨lens, tens, s, ah, ar, q, g, d, false, rfl, rfl, by rw [ps4 (by omega), if_neg (show ¬ (q = 2 ∨ q = 4 ∨ q = 1) by omega)]; rfl⟩
                · 
                  exact absurd c141 (by decide)
              · 
                rw [kI_eq (by omega)] at s24_4
                refine sq_ok rfl [(.iconst 0, 0, 0, 0), (.ireturn, 0, 0, 0)] 158 _ _ _ _ _ (by decide +kernel) ?_
                show narrow .boolean (.int (kI 0)) = .int (kI 0) ∧ ((0 ≤ 0 ∧ 0 ≤ 0) ∧ Post (some (vI 0)) [ob 3 [.ref 1, .ref 2, .ref 3, vI (s : Int), vI (ah : Int), vZ ar, vI (q : Int)], cN 16 lens, cN 16 tens, cN 16 phr, ob 9 [vI (mo : Int), .ref 5, .ref 6, vI (d : Int)], cI mo nums, cK mo g])
                refine ⟨(bI_fits false).1, ?_⟩
                refine ⟨⟨Nat.le_refl _, Nat.le_refl _⟩, hp _ _ ?_⟩
                exact ⟨lens, tens, s, ah, ar, q, g, d, false, rfl, rfl, by rw [ps5 (by omega) (by omega) (by omega) (by omega) (by omega)]; rfl⟩

set_option maxRecDepth 100000 in
set_option maxHeartbeats 4000000 in
theorem c_X3_readRule (lens tens phr : Nat → Nat) (s ah : Nat) (ar : Bool) (q : Nat) (B : Nat → Int) (ln : Nat) (K Pl C : Nat → Nat) (t : Nat) (ht : t ≤ 209) (hK : ∀ j, j < t → K j ≤ 5 ∧ C j < 9223372036854775808) (mo d : Nat) (hmo : 64 ≤ mo ∧ mo < 2147483648) (nums : Nat → Int) (g : Nat → Nat) : CT mX3_readRule 0 0 [.ref 0, .ref 4, .ref 9] [ob 3 [.ref 1, .ref 2, .ref 3, vI (s : Int), vI (ah : Int), vZ ar, vI (q : Int)], cN 16 lens, cN 16 tens, cN 16 phr, ob 7 [.ref 5, vI (ln : Int), .ref 6, .ref 7, .ref 8, vI (t : Int)], cB 208 B, cN 209 K, cN 209 Pl, cK 209 C, ob 9 [vI (mo : Int), .ref 10, .ref 11, vI (d : Int)], cI mo nums, cK mo g] (fun r w => ∃ (lens2 tens2 : Nat → Nat) (s2 ah2 : Nat) (ar2 : Bool) (q2 : Nat) (g2 : Nat → Nat) (d2 : Nat), r = some (vI (prule (0, [], 0, false, []) (tk3 K Pl C t)).1) ∧ w = [ob 3 [.ref 1, .ref 2, .ref 3, vI (s2 : Int), vI (ah2 : Int), vZ ar2, vI (q2 : Int)], cN 16 lens2, cN 16 tens2, cN 16 phr, ob 7 [.ref 5, vI (ln : Int), .ref 6, .ref 7, .ref 8, vI (t : Int)], cB 208 B, cN 209 K, cN 209 Pl, cK 209 C, ob 9 [vI (mo : Int), .ref 10, .ref 11, vI (d2 : Int)], cI mo nums, cK mo g2] ∧ ((prule (0, [], 0, false, []) (tk3 K Pl C t)).1 < 0 ∨ ((prule (0, [], 0, false, []) (tk3 K Pl C t)).1 = 0 ∧ ∃ ah3 : Nat, (prule (0, [], 0, false, []) (tk3 K Pl C t)).2 = pabs lens2 tens2 s2 ah3 ar2 q2 g2 d2 ∧ ah2 = (if ar2 then ah3 else s2) ∧ pInv lens2 s2 ah2 q2 d2))) := by
  refine CT.intro rfl (Nat.le_of_ble_eq_true rfl) ?_
  generalize hPost : (fun r w => ∃ (lens2 tens2 : Nat → Nat) (s2 ah2 : Nat) (ar2 : Bool) (q2 : Nat) (g2 : Nat → Nat) (d2 : Nat), r = some (vI (prule (0, [], 0, false, []) (tk3 K Pl C t)).1) ∧ w = [ob 3 [.ref 1, .ref 2, .ref 3, vI (s2 : Int), vI (ah2 : Int), vZ ar2, vI (q2 : Int)], cN 16 lens2, cN 16 tens2, cN 16 phr, ob 7 [.ref 5, vI (ln : Int), .ref 6, .ref 7, .ref 8, vI (t : Int)], cB 208 B, cN 209 K, cN 209 Pl, cK 209 C, ob 9 [vI (mo : Int), .ref 10, .ref 11, vI (d2 : Int)], cI mo nums, cK mo g2] ∧ ((prule (0, [], 0, false, []) (tk3 K Pl C t)).1 < 0 ∨ ((prule (0, [], 0, false, []) (tk3 K Pl C t)).1 = 0 ∧ ∃ ah3 : Nat, (prule (0, [], 0, false, []) (tk3 K Pl C t)).2 = pabs lens2 tens2 s2 ah3 ar2 q2 g2 d2 ∧ ah2 = (if ar2 then ah3 else s2) ∧ pInv lens2 s2 ah2 q2 d2)) : MP) = Post
  have hp : ∀ r w', (fun r w => ∃ (lens2 tens2 : Nat → Nat) (s2 ah2 : Nat) (ar2 : Bool) (q2 : Nat) (g2 : Nat → Nat) (d2 : Nat), r = some (vI (prule (0, [], 0, false, []) (tk3 K Pl C t)).1) ∧ w = [ob 3 [.ref 1, .ref 2, .ref 3, vI (s2 : Int), vI (ah2 : Int), vZ ar2, vI (q2 : Int)], cN 16 lens2, cN 16 tens2, cN 16 phr, ob 7 [.ref 5, vI (ln : Int), .ref 6, .ref 7, .ref 8, vI (t : Int)], cB 208 B, cN 209 K, cN 209 Pl, cK 209 C, ob 9 [vI (mo : Int), .ref 10, .ref 11, vI (d2 : Int)], cI mo nums, cK mo g2] ∧ ((prule (0, [], 0, false, []) (tk3 K Pl C t)).1 < 0 ∨ ((prule (0, [], 0, false, []) (tk3 K Pl C t)).1 = 0 ∧ ∃ ah3 : Nat, (prule (0, [], 0, false, []) (tk3 K Pl C t)).2 = pabs lens2 tens2 s2 ah3 ar2 q2 g2 d2 ∧ ah2 = (if ar2 then ah3 else s2) ∧ pInv lens2 s2 ah2 q2 d2)) : MP) r w' → Post r w' := by rw [← hPost]; exact fun _ _ h => h
  clear hPost
  show WM mX3_readRule 0 0 Post 12 0 [(0, .ref 0), (1, .ref 4), (2, .ref 9)] [] [ob 3 [.ref 1, .ref 2, .ref 3, vI (s : Int), vI (ah : Int), vZ ar, vI (q : Int)], cN 16 lens, cN 16 tens, cN 16 phr, ob 7 [.ref 5, vI (ln : Int), .ref 6, .ref 7, .ref 8, vI (t : Int)], cB 208 B, cN 209 K, cN 209 Pl, cK 209 C, ob 9 [vI (mo : Int), .ref 10, .ref 11, vI (d : Int)], cI mo nums, cK mo g] 0 0
  refine sq_ok rfl [(.aload_n 0, 0, 0, 0), (.iconst 0, 0, 0, 0), (.putfield 21, 3, 3, 0), (.aload_n 0, 0, 0, 0), (.iconst 0, 0, 0, 0), (.putfield 25, 3, 4, 0), (.aload_n 0, 0, 0, 0), (.iconst 0, 0, 0, 0), (.putfield 28, 3, 5, 0), (.aload_n 0, 0, 0, 0), (.iconst 0, 0, 0, 0), (.putfield 32, 3, 6, 0), (.aload_n 2, 0, 0, 0), (.iconst 0, 0, 0, 0), (.putfield 35, 9, 3, 0), (.iconst 0, 0, 0, 0), (.istore_n 3, 0, 0, 0)] 0 _ _ _ _ _ (by decide +kernel) ?_
  show (narrow .boolean (.int (kI 0)) = .int (kI 0) ∧ fits .boolean (.int (kI 0)) = true) ∧ WM mX3_readRule 0 0 Post 12 27 [(0, .ref 0), (1, .ref 4), (2, .ref 9), (3, vI 0)] [] [ob 3 [.ref 1, .ref 2, .ref 3, vI 0, vI 0, vZ false, vI 0], cN 16 lens, cN 16 tens, cN 16 phr, ob 7 [.ref 5, vI (ln : Int), .ref 6, .ref 7, .ref 8, vI (t : Int)], cB 208 B, cN 209 K, cN 209 Pl, cK 209 C, ob 9 [vI (mo : Int), .ref 10, .ref 11, vI 0], cI mo nums, cK mo g] 0 0
  refine ⟨bI_fits false, ?_⟩
  have lp27 : ∀ (n27 : Nat) (k : Nat) (lens1 : Nat → Nat) (tens1 : Nat → Nat) (s1 : Nat) (ah1 : Nat) (ar1 : Bool) (q1 : Nat) (g1 : Nat → Nat) (d1 : Nat), (k ≤ t) → (pInv lens1 s1 ah1 q1 d1) → (prule (0, [], 0, false, []) (tk3 K Pl C t) = prule (pabs lens1 tens1 s1 ah1 ar1 q1 g1 d1) ((tk3 K Pl C t).drop k)) → (t - k) < n27 → WM mX3_readRule 0 0 Post 12 27 [(0, .ref 0), (1, .ref 4), (2, .ref 9), (3, vI (k : Int))] [] [ob 3 [.ref 1, .ref 2, .ref 3, vI (s1 : Int), vI (ah1 : Int), vZ ar1, vI (q1 : Int)], cN 16 lens1, cN 16 tens1, cN 16 phr, ob 7 [.ref 5, vI (ln : Int), .ref 6, .ref 7, .ref 8, vI (t : Int)], cB 208 B, cN 209 K, cN 209 Pl, cK 209 C, ob 9 [vI (mo : Int), .ref 10, .ref 11, vI (d1 : Int)], cI mo nums, cK mo g1] 0 0 := by
    intro n27
    induction n27 with
    | zero => intro k lens1 tens1 s1 ah1 ar1 q1 g1 d1 hk hJ hq hm; exact absurd hm (Nat.not_lt_zero _)
    | succ n27 ih27 =>
      intro k lens1 tens1 s1 ah1 ar1 q1 g1 d1 hk hJ hq hm27
      refine sq_ok rfl [(.iload_n 3, 0, 0, 0), (.aload_n 1, 0, 0, 0), (.getfield 40, 7, 5, 0), (.if_icmp .ge 35, 0, 0, 0)] 27 _ _ _ _ _ (by decide +kernel) ?_
      show (kI (t : Int) ≤ kI (k : Int) → WM mX3_readRule 0 0 Post 12 67 [(0, .ref 0), (1, .ref 4), (2, .ref 9), (3, vI (k : Int))] [] [ob 3 [.ref 1, .ref 2, .ref 3, vI (s1 : Int), vI (ah1 : Int), vZ ar1, vI (q1 : Int)], cN 16 lens1, cN 16 tens1, cN 16 phr, ob 7 [.ref 5, vI (ln : Int), .ref 6, .ref 7, .ref 8, vI (t : Int)], cB 208 B, cN 209 K, cN 209 Pl, cK 209 C, ob 9 [vI (mo : Int), .ref 10, .ref 11, vI (d1 : Int)], cI mo nums, cK mo g1] 0 0) ∧ (¬ kI (t : Int) ≤ kI (k : Int) → WM mX3_readRule 0 0 Post 12 35 [(0, .ref 0), (1, .ref 4), (2, .ref 9), (3, vI (k : Int))] [] [ob 3 [.ref 1, .ref 2, .ref 3, vI (s1 : Int), vI (ah1 : Int), vZ ar1, vI (q1 : Int)], cN 16 lens1, cN 16 tens1, cN 16 phr, ob 7 [.ref 5, vI (ln : Int), .ref 6, .ref 7, .ref 8, vI (t : Int)], cB 208 B, cN 209 K, cN 209 Pl, cK 209 C, ob 9 [vI (mo : Int), .ref 10, .ref 11, vI (d1 : Int)], cI mo nums, cK mo g1] 0 0)
      refine ⟨fun c32 => ?_, fun c32 => ?_⟩
      · 
        rw [kI_le (by omega)] at c32
        refine sq_ok rfl [(.aload_n 0, 0, 0, 0), (.getfield 28, 3, 5, 0), (.ifCond .ne 11, 0, 0, 0)] 67 _ _ _ _ _ (by decide +kernel) ?_
        show (¬ (bI ar1) = kI 0 → WM mX3_readRule 0 0 Post 12 82 [(0, .ref 0), (1, .ref 4), (2, .ref 9), (3, vI (k : Int))] [] [ob 3 [.ref 1, .ref 2, .ref 3, vI (s1 : Int), vI (ah1 : Int), vZ ar1, vI (q1 : Int)], cN 16 lens1, cN 16 tens1, cN 16 phr, ob 7 [.ref 5, vI (ln : Int), .ref 6, .ref 7, .ref 8, vI (t : Int)], cB 208 B, cN 209 K, cN 209 Pl, cK 209 C, ob 9 [vI (mo : Int), .ref 10, .ref 11, vI (d1 : Int)], cI mo nums, cK mo g1] 0 0) ∧ ((bI ar1) = kI 0 → WM mX3_readRule 0 0 Post 12 74 [(0, .ref 0), (1, .ref 4), (2, .ref 9), (3, vI (k : Int))] [] [ob 3 [.ref 1, .ref 2, .ref 3, vI (s1 : Int), vI (ah1 : Int), vZ ar1, vI (q1 : Int)], cN 16 lens1, cN 16 tens1, cN 16 phr, ob 7 [.ref 5, vI (ln : Int), .ref 6, .ref 7, .ref 8, vI (t : Int)], cB 208 B, cN 209 K, cN 209 Pl, cK 209 C, ob 9 [vI (mo : Int), .ref 10, .ref 11, vI (d1 : Int)], cI mo nums, cK mo g1] 0 0)
        refine ⟨fun c71 => ?_, fun c71 => ?_⟩
        · 
          rw [bI_eq0] at c71
          refine sq_ok rfl [(.iconst 0, 0, 0, 0), (.ireturn, 0, 0, 0)] 82 _ _ _ _ _ (by decide +kernel) ?_
          show ((0 ≤ 0 ∧ 0 ≤ 0) ∧ Post (some (vI 0)) [ob 3 [.ref 1, .ref 2, .ref 3, vI (s1 : Int), vI (ah1 : Int), vZ ar1, vI (q1 : Int)], cN 16 lens1, cN 16 tens1, cN 16 phr, ob 7 [.ref 5, vI (ln : Int), .ref 6, .ref 7, .ref 8, vI (t : Int)], cB 208 B, cN 209 K, cN 209 Pl, cK 209 C, ob 9 [vI (mo : Int), .ref 10, .ref 11, vI (d1 : Int)], cI mo nums, cK mo g1])
          refine ⟨⟨Nat.le_refl _, Nat.le_refl _⟩, hp _ _ ?_⟩
          have e : k = t := by omega
          rw [e, drop_lst_all] at hq
          first
          | exact ⟨lens1, tens1, s1, ah1, ar1, q1, g1, d1, by rw [hq]; rfl, rfl, Or.inr ⟨by rw [hq]; rfl, ah1, by rw [hq]; rfl, by rw [if_pos (by cases ar1 <;> simp_all)], hJ⟩⟩
          | exact ⟨lens1, tens1, s1, s1, ar1, q1, g1, d1, by rw [hq]; rfl, rfl, Or.inr ⟨by rw [hq]; rfl, ah1, by rw [hq]; rfl, by rw [if_neg (by cases ar1 <;> simp_all)], hJ.1, hJ.2.1, Nat.le_refl _, hJ.2.2.2⟩⟩
        · 
          rw [bI_eq0] at c71
          refine sq_ok rfl [(.aload_n 0, 0, 0, 0), (.aload_n 0, 0, 0, 0), (.getfield 21, 3, 3, 0), (.putfield 25, 3, 4, 0), (.iconst 0, 0, 0, 0), (.ireturn, 0, 0, 0)] 74 _ _ _ _ _ (by decide +kernel) ?_
          show ((0 ≤ 0 ∧ 0 ≤ 0) ∧ Post (some (vI 0)) [ob 3 [.ref 1, .ref 2, .ref 3, vI (s1 : Int), vI (s1 : Int), vZ ar1, vI (q1 : Int)], cN 16 lens1, cN 16 tens1, cN 16 phr, ob 7 [.ref 5, vI (ln : Int), .ref 6, .ref 7, .ref 8, vI (t : Int)], cB 208 B, cN 209 K, cN 209 Pl, cK 209 C, ob 9 [vI (mo : Int), .ref 10, .ref 11, vI (d1 : Int)], cI mo nums, cK mo g1])
          refine ⟨⟨Nat.le_refl _, Nat.le_refl _⟩, hp _ _ ?_⟩
          have e : k = t := by omega
          rw [e, drop_lst_all] at hq
          first
          | exact ⟨lens1, tens1, s1, ah1, ar1, q1, g1, d1, by rw [hq]; rfl, rfl, Or.inr ⟨by rw [hq]; rfl, ah1, by rw [hq]; rfl, by rw [if_pos (by cases ar1 <;> simp_all)], hJ⟩⟩
          | exact ⟨lens1, tens1, s1, s1, ar1, q1, g1, d1, by rw [hq]; rfl, rfl, Or.inr ⟨by rw [hq]; rfl, ah1, by rw [hq]; rfl, by rw [if_neg (by cases ar1 <;> simp_all)], hJ.1, hJ.2.1, Nat.le_refl _, hJ.2.2.2⟩⟩
      · 
        rw [kI_le (by omega)] at c32
        have hKk := hK k (by omega)
        rw [drop_lst _ (show k < t by omega)] at hq
        refine sq_ok rfl [(.aload_n 0, 0, 0, 0), (.aload_n 1, 0, 0, 0), (.getfield 45, 7, 2, 0), (.iload_n 3, 0, 0, 0), (.iaload, 0, 0, 0), (.aload_n 1, 0, 0, 0), (.getfield 48, 7, 4, 0), (.iload_n 3, 0, 0, 0), (.laload, 0, 0, 0), (.aload_n 2, 0, 0, 0)] 35 _ _ _ _ _ (by decide +kernel) ?_
        show ∃ j41 : Nat, mj 209 (kI (k : Int)) j41 ∧ ∃ j47 : Nat, mj 209 (kI (k : Int)) j47 ∧ WM mX3_readRule 0 0 Post 12 49 [(0, .ref 0), (1, .ref 4), (2, .ref 9), (3, vI (k : Int))] [.ref 9, vJ ((C j47 : Nat) : Int), vI ((K j41 : Nat) : Int), .ref 0] [ob 3 [.ref 1, .ref 2, .ref 3, vI (s1 : Int), vI (ah1 : Int), vZ ar1, vI (q1 : Int)], cN 16 lens1, cN 16 tens1, cN 16 phr, ob 7 [.ref 5, vI (ln : Int), .ref 6, .ref 7, .ref 8, vI (t : Int)], cB 208 B, cN 209 K, cN 209 Pl, cK 209 C, ob 9 [vI (mo : Int), .ref 10, .ref 11, vI (d1 : Int)], cI mo nums, cK mo g1] 0 0
        refine ⟨k, ⟨by omega, by omega, rfl⟩, ?_⟩
        refine ⟨k, ⟨by omega, by omega, rfl⟩, ?_⟩
        refine wm_callV mX3_takes [0, 1, 2, 3, 9, 10, 11] (pc := 49) (rest := []) (mc' := 0) (ms' := 0) (by decide +kernel) kX3_52 (c_X3_takes lens1 tens1 phr s1 ah1 ar1 q1 mo d1 hmo nums g1 (C k) hJ (K k) hKk.1 hKk.2) rfl rfl ⟨_, rfl, rfl⟩ ⟨Nat.le_of_ble_eq_true rfl, Nat.le_of_ble_eq_true rfl⟩ ⟨Nat.le_of_ble_eq_true rfl, Nat.le_of_ble_eq_true rfl⟩ (Nat.le_of_ble_eq_true rfl) rfl rfl (Nat.le_of_ble_eq_true rfl) rfl ?_
        rintro _ _ ⟨lens2, tens2, s2, ah2, ar2, q2, g2, d2, b, rfl, rfl, hb⟩
        show WM mX3_readRule 0 0 Post 12 52 [(0, .ref 0), (1, .ref 4), (2, .ref 9), (3, vI (k : Int))] [vZ b] [ob 3 [.ref 1, .ref 2, .ref 3, vI (s2 : Int), vI (ah2 : Int), vZ ar2, vI (q2 : Int)], cN 16 lens2, cN 16 tens2, cN 16 phr, ob 7 [.ref 5, vI (ln : Int), .ref 6, .ref 7, .ref 8, vI (t : Int)], cB 208 B, cN 209 K, cN 209 Pl, cK 209 C, ob 9 [vI (mo : Int), .ref 10, .ref 11, vI (d2 : Int)], cI mo nums, cK mo g2] 0 0
        refine sq_ok rfl [(.ifCond .ne 9, 0, 0, 0)] 52 _ _ _ _ _ (by decide +kernel) ?_
        show (¬ (bI b) = kI 0 → WM mX3_readRule 0 0 Post 12 61 [(0, .ref 0), (1, .ref 4), (2, .ref 9), (3, vI (k : Int))] [] [ob 3 [.ref 1, .ref 2, .ref 3, vI (s2 : Int), vI (ah2 : Int), vZ ar2, vI (q2 : Int)], cN 16 lens2, cN 16 tens2, cN 16 phr, ob 7 [.ref 5, vI (ln : Int), .ref 6, .ref 7, .ref 8, vI (t : Int)], cB 208 B, cN 209 K, cN 209 Pl, cK 209 C, ob 9 [vI (mo : Int), .ref 10, .ref 11, vI (d2 : Int)], cI mo nums, cK mo g2] 0 0) ∧ ((bI b) = kI 0 → WM mX3_readRule 0 0 Post 12 55 [(0, .ref 0), (1, .ref 4), (2, .ref 9), (3, vI (k : Int))] [] [ob 3 [.ref 1, .ref 2, .ref 3, vI (s2 : Int), vI (ah2 : Int), vZ ar2, vI (q2 : Int)], cN 16 lens2, cN 16 tens2, cN 16 phr, ob 7 [.ref 5, vI (ln : Int), .ref 6, .ref 7, .ref 8, vI (t : Int)], cB 208 B, cN 209 K, cN 209 Pl, cK 209 C, ob 9 [vI (mo : Int), .ref 10, .ref 11, vI (d2 : Int)], cI mo nums, cK mo g2] 0 0)
        refine ⟨fun c52 => ?_, fun c52 => ?_⟩
        · 
          rw [bI_eq0] at c52
          have hb1 : b = true := by cases b <;> simp_all
          rw [if_pos hb1] at hb
          refine sq_ok rfl [(.iinc 3 1, 0, 0, 0), (.goto (-37), 0, 0, 0)] 61 _ _ _ _ _ (by decide +kernel) ?_
          show WM mX3_readRule 0 0 Post 12 27 [(0, .ref 0), (1, .ref 4), (2, .ref 9), (3, .int ((kI (k : Int)) + (kI 1)))] [] [ob 3 [.ref 1, .ref 2, .ref 3, vI (s2 : Int), vI (ah2 : Int), vZ ar2, vI (q2 : Int)], cN 16 lens2, cN 16 tens2, cN 16 phr, ob 7 [.ref 5, vI (ln : Int), .ref 6, .ref 7, .ref 8, vI (t : Int)], cB 208 B, cN 209 K, cN 209 Pl, cK 209 C, ob 9 [vI (mo : Int), .ref 10, .ref 11, vI (d2 : Int)], cI mo nums, cK mo g2] 0 0
          have e4 : ((kI (k : Int)) + (kI 1)) = kI ((k : Int) + 1) := by simp only [kI_add, kI_sub, kI_mul]
          rw [e4]
          exact WM.pick [0, 1, 2, 3] rfl (ih27 (k + 1) lens2 tens2 s2 ah2 ar2 q2 g2 d2 (by omega) hb.2 (by rw [hq]; exact prule_some hb.1) (by omega))
        · 
          rw [bI_eq0] at c52
          rw [c52] at hb
          rw [if_neg (by decide)] at hb
          rw [prule_none hb] at hq
          refine sq_ok rfl [(.aload_n 1, 0, 0, 0), (.iload_n 3, 0, 0, 0)] 55 _ _ _ _ _ (by decide +kernel) ?_
          show WM mX3_readRule 0 0 Post 12 57 [(0, .ref 0), (1, .ref 4), (2, .ref 9), (3, vI (k : Int))] [vI (k : Int), .ref 4] [ob 3 [.ref 1, .ref 2, .ref 3, vI (s2 : Int), vI (ah2 : Int), vZ ar2, vI (q2 : Int)], cN 16 lens2, cN 16 tens2, cN 16 phr, ob 7 [.ref 5, vI (ln : Int), .ref 6, .ref 7, .ref 8, vI (t : Int)], cB 208 B, cN 209 K, cN 209 Pl, cK 209 C, ob 9 [vI (mo : Int), .ref 10, .ref 11, vI (d2 : Int)], cI mo nums, cK mo g2] 0 0
          refine wm_callV mX7_faultAt [4, 5, 6, 7, 8] (pc := 57) (rest := []) (mc' := 0) (ms' := 0) (by decide +kernel) kX3_56 (c_X7_faultAt B ln K Pl C t ht k (by omega)) rfl rfl ⟨_, rfl, rfl⟩ ⟨Nat.le_of_ble_eq_true rfl, Nat.le_of_ble_eq_true rfl⟩ ⟨Nat.le_of_ble_eq_true rfl, Nat.le_of_ble_eq_true rfl⟩ (Nat.le_of_ble_eq_true rfl) rfl rfl (Nat.le_of_ble_eq_true rfl) rfl ?_
          rintro _ _ ⟨rfl, rfl⟩
          show WM mX3_readRule 0 0 Post 12 60 [(0, .ref 0), (1, .ref 4), (2, .ref 9), (3, vI (k : Int))] [vI (-10 - (Pl k : Int))] [ob 3 [.ref 1, .ref 2, .ref 3, vI (s2 : Int), vI (ah2 : Int), vZ ar2, vI (q2 : Int)], cN 16 lens2, cN 16 tens2, cN 16 phr, ob 7 [.ref 5, vI (ln : Int), .ref 6, .ref 7, .ref 8, vI (t : Int)], cB 208 B, cN 209 K, cN 209 Pl, cK 209 C, ob 9 [vI (mo : Int), .ref 10, .ref 11, vI (d2 : Int)], cI mo nums, cK mo g2] 0 0
          refine sq_ok rfl [(.ireturn, 0, 0, 0)] 60 _ _ _ _ _ (by decide +kernel) ?_
          show ((0 ≤ 0 ∧ 0 ≤ 0) ∧ Post (some (vI (-10 - (Pl k : Int)))) [ob 3 [.ref 1, .ref 2, .ref 3, vI (s2 : Int), vI (ah2 : Int), vZ ar2, vI (q2 : Int)], cN 16 lens2, cN 16 tens2, cN 16 phr, ob 7 [.ref 5, vI (ln : Int), .ref 6, .ref 7, .ref 8, vI (t : Int)], cB 208 B, cN 209 K, cN 209 Pl, cK 209 C, ob 9 [vI (mo : Int), .ref 10, .ref 11, vI (d2 : Int)], cI mo nums, cK mo g2])
          refine ⟨⟨Nat.le_refl _, Nat.le_refl _⟩, hp _ _ ?_⟩
          exact ⟨lens2, tens2, s2, ah2, ar2, q2, g2, d2, by rw [hq], rfl, Or.inl (by rw [hq]; show -10 - (Pl k : Int) < 0; omega)⟩
  exact WM.pick [0, 1, 2, 3] rfl (lp27 _ 0 lens tens 0 0 false 0 g 0 (by omega) ⟨by omega, by omega, by omega, fun h => by omega, fun j hj => absurd hj (Nat.not_lt_zero _), fun h => by omega, fun _ => rfl⟩ (by rw [List.drop_zero]; rfl) (Nat.lt_succ_self _))
