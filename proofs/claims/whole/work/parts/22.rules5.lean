/-! Rules: addRule, longestAt; RuleReader: packSides -/
def mRule (X : Rl) (phr tens : Nat → Nat) (s ah : Nat) (ar both : Bool) : Option Rl :=
  if ar = false then mLefts X ((lst phr s).drop 0) ((sdA phr tens s).drop 0) else if ah = s then mLefts X (lst phr s) [(0, 10)]
  else (mLefts X ((lst phr ah).drop 0) ((sdA phr tens s).drop ah)).bind (fun X => if both = true then mLefts X ((lst phr s).drop ah) ((sdA phr tens ah).drop 0) else some X)
def ppk (nf : Nat → Nat) (at_ : Nat) : Nat → Nat
  | 0 => 0
  | i + 1 => ppk nf at_ i + (nf (at_ + i) + 1) * 256 ^ i
theorem ppk_lt {nf : Nat → Nat} {at_ : Nat} : ∀ {i : Nat}, (∀ j, j < i → nf (at_ + j) < 200) → ppk nf at_ i < 256 ^ i
  | 0, _ => by simp [ppk]
  | i + 1, h => by
    have h1 := ppk_lt (i := i) (fun j hj => h j (by omega))
    have h2 := h i (by omega)
    unfold ppk
    rw [Nat.pow_succ]
    have h3 : (nf (at_ + i) + 1) * 256 ^ i ≤ 200 * 256 ^ i := Nat.mul_le_mul_right _ (by omega)
    omega
def lgs (LP : Nat → Nat) (le : Nat) (nf : Nat → Nat) (at_ : Nat) : Nat → Int
  | 0 => -2
  | i + 1 => match fnd (fun k => LP k == ppk nf at_ (i + 1)) le with
    | some l => l
    | none => lgs LP le nf at_ i
theorem lgs_R {LP : Nat → Nat} {le : Nat} {nf : Nat → Nat} {at_ : Nat} (hle : le ≤ 60) : ∀ i, -2 ≤ lgs LP le nf at_ i ∧ lgs LP le nf at_ i < 60
  | 0 => by simp [lgs]
  | i + 1 => by
    unfold lgs
    cases h : fnd (fun k => LP k == ppk nf at_ (i + 1)) le with
    | none => exact lgs_R hle i
    | some l => have := (fnd_spec h).1; simp only; omega
def off (lens : Nat → Nat) : Nat → Nat
  | 0 => 0
  | n + 1 => off lens n + lens n
theorem off_le (lens : Nat → Nat) {a : Nat} : ∀ {b : Nat}, a ≤ b → off lens a ≤ off lens b
  | 0, h => by rw [show a = 0 by omega]; exact Nat.le_refl _
  | b + 1, h => by
    rcases Nat.lt_or_ge a (b + 1) with h1 | h1
    · have := off_le lens (a := a) (b := b) (by omega)
      show off lens a ≤ off lens b + lens b
      omega
    · rw [show a = b + 1 by omega]; exact Nat.le_refl _

set_option maxRecDepth 100000 in
set_option maxHeartbeats 500000 in
theorem c_X4_addRule (LP AL : Nat → Nat) (ru le : Nat) (PH TE LD : Nat → Nat) (kn : Bool) (hle : le ≤ 60) (hO : rOK LP AL PH TE) (lens tens phr : Nat → Nat) (s ah : Nat) (ar : Bool) (q : Nat) (hphr : ∀ j, j < s → phr j < 4294967296) (htens : ∀ j, j < s → tens j ≤ 10) (both : Bool) (hs : s ≤ 16) (hah : ah ≤ s) (hru : ru ≤ 24) : CT mX4_addRule 0 0 [.ref 0, .ref 6, vZ both] [ob 4 [.ref 1, .ref 2, vI (ru : Int), vI (le : Int), .ref 3, .ref 4, .ref 5, vZ kn], cN 60 LP, cN 60 AL, cN 480 PH, cN 480 TE, cK 60 LD, ob 3 [.ref 7, .ref 8, .ref 9, vI (s : Int), vI (ah : Int), vZ ar, vI (q : Int)], cN 16 lens, cN 16 tens, cN 16 phr] (fun r w => ∃ (LP2 AL2 PH2 TE2 : Nat → Nat) (ru2 le2 : Nat) (b : Bool), r = some (vZ b) ∧ w = [ob 4 [.ref 1, .ref 2, vI (ru2 : Int), vI (le2 : Int), .ref 3, .ref 4, .ref 5, vZ kn], cN 60 LP2, cN 60 AL2, cN 480 PH2, cN 480 TE2, cK 60 LD, ob 3 [.ref 7, .ref 8, .ref 9, vI (s : Int), vI (ah : Int), vZ ar, vI (q : Int)], cN 16 lens, cN 16 tens, cN 16 phr] ∧ if b then ru2 = ru + 1 ∧ ru < 24 ∧ mRule (rabs LP AL PH TE le) phr tens s ah ar both = some (rabs LP2 AL2 PH2 TE2 le2) ∧ rOK LP2 AL2 PH2 TE2 ∧ le2 ≤ 60 else ((24 ≤ ru ∨ mRule (rabs LP AL PH TE le) phr tens s ah ar both = none) ∧ rOK LP2 AL2 PH2 TE2)) := by
  refine CT.intro rfl (Nat.le_of_ble_eq_true rfl) ?_
  generalize hPost : (fun r w => ∃ (LP2 AL2 PH2 TE2 : Nat → Nat) (ru2 le2 : Nat) (b : Bool), r = some (vZ b) ∧ w = [ob 4 [.ref 1, .ref 2, vI (ru2 : Int), vI (le2 : Int), .ref 3, .ref 4, .ref 5, vZ kn], cN 60 LP2, cN 60 AL2, cN 480 PH2, cN 480 TE2, cK 60 LD, ob 3 [.ref 7, .ref 8, .ref 9, vI (s : Int), vI (ah : Int), vZ ar, vI (q : Int)], cN 16 lens, cN 16 tens, cN 16 phr] ∧ if b then ru2 = ru + 1 ∧ ru < 24 ∧ mRule (rabs LP AL PH TE le) phr tens s ah ar both = some (rabs LP2 AL2 PH2 TE2 le2) ∧ rOK LP2 AL2 PH2 TE2 ∧ le2 ≤ 60 else ((24 ≤ ru ∨ mRule (rabs LP AL PH TE le) phr tens s ah ar both = none) ∧ rOK LP2 AL2 PH2 TE2) : MP) = Post
  have hPo : ∀ rr ww, (fun r w => ∃ (LP2 AL2 PH2 TE2 : Nat → Nat) (ru2 le2 : Nat) (b : Bool), r = some (vZ b) ∧ w = [ob 4 [.ref 1, .ref 2, vI (ru2 : Int), vI (le2 : Int), .ref 3, .ref 4, .ref 5, vZ kn], cN 60 LP2, cN 60 AL2, cN 480 PH2, cN 480 TE2, cK 60 LD, ob 3 [.ref 7, .ref 8, .ref 9, vI (s : Int), vI (ah : Int), vZ ar, vI (q : Int)], cN 16 lens, cN 16 tens, cN 16 phr] ∧ if b then ru2 = ru + 1 ∧ ru < 24 ∧ mRule (rabs LP AL PH TE le) phr tens s ah ar both = some (rabs LP2 AL2 PH2 TE2 le2) ∧ rOK LP2 AL2 PH2 TE2 ∧ le2 ≤ 60 else ((24 ≤ ru ∨ mRule (rabs LP AL PH TE le) phr tens s ah ar both = none) ∧ rOK LP2 AL2 PH2 TE2) : MP) rr ww → Post rr ww := by rw [← hPost]; exact fun _ _ h => h
  clear hPost
  show WM mX4_addRule 0 0 Post 10 0 [(0, .ref 0), (1, .ref 6), (2, vZ both)] [] [ob 4 [.ref 1, .ref 2, vI (ru : Int), vI (le : Int), .ref 3, .ref 4, .ref 5, vZ kn], cN 60 LP, cN 60 AL, cN 480 PH, cN 480 TE, cK 60 LD, ob 3 [.ref 7, .ref 8, .ref 9, vI (s : Int), vI (ah : Int), vZ ar, vI (q : Int)], cN 16 lens, cN 16 tens, cN 16 phr] 0 0
  refine sq_ok rfl [(.aload_n 0, 0, 0, 0), (.getfield 32, 4, 2, 0), (.bipush 24, 0, 0, 0), (.if_icmp .lt 5, 0, 0, 0)] 0 _ _ _ _ _ (by decide +kernel) ?_
  show (kI (ru : Int) < kI 24 → WM mX4_addRule 0 0 Post 10 11 [(0, .ref 0), (1, .ref 6), (2, vZ both)] [] [ob 4 [.ref 1, .ref 2, vI (ru : Int), vI (le : Int), .ref 3, .ref 4, .ref 5, vZ kn], cN 60 LP, cN 60 AL, cN 480 PH, cN 480 TE, cK 60 LD, ob 3 [.ref 7, .ref 8, .ref 9, vI (s : Int), vI (ah : Int), vZ ar, vI (q : Int)], cN 16 lens, cN 16 tens, cN 16 phr] 0 0) ∧ (¬ kI (ru : Int) < kI 24 → WM mX4_addRule 0 0 Post 10 9 [(0, .ref 0), (1, .ref 6), (2, vZ both)] [] [ob 4 [.ref 1, .ref 2, vI (ru : Int), vI (le : Int), .ref 3, .ref 4, .ref 5, vZ kn], cN 60 LP, cN 60 AL, cN 480 PH, cN 480 TE, cK 60 LD, ob 3 [.ref 7, .ref 8, .ref 9, vI (s : Int), vI (ah : Int), vZ ar, vI (q : Int)], cN 16 lens, cN 16 tens, cN 16 phr] 0 0)
  refine ⟨fun c6 => ?_, fun c6 => ?_⟩
  · 
    rw [kI_lt (by omega)] at c6
    refine sq_ok rfl [(.aload_n 0, 0, 0, 0), (.dup, 0, 0, 0), (.getfield 32, 4, 2, 0), (.iconst 1, 0, 0, 0), (.iadd, 0, 0, 0), (.putfield 32, 4, 2, 0), (.aload_n 1, 0, 0, 0), (.getfield 49, 3, 5, 0), (.ifCond .ne 19, 0, 0, 0)] 11 _ _ _ _ _ (by decide +kernel) ?_
    show (¬ (bI ar) = kI 0 → WM mX4_addRule 0 0 Post 10 44 [(0, .ref 0), (1, .ref 6), (2, vZ both)] [] [ob 4 [.ref 1, .ref 2, .int ((kI (ru : Int)) + (kI 1)), vI (le : Int), .ref 3, .ref 4, .ref 5, vZ kn], cN 60 LP, cN 60 AL, cN 480 PH, cN 480 TE, cK 60 LD, ob 3 [.ref 7, .ref 8, .ref 9, vI (s : Int), vI (ah : Int), vZ ar, vI (q : Int)], cN 16 lens, cN 16 tens, cN 16 phr] 0 0) ∧ ((bI ar) = kI 0 → WM mX4_addRule 0 0 Post 10 28 [(0, .ref 0), (1, .ref 6), (2, vZ both)] [] [ob 4 [.ref 1, .ref 2, .int ((kI (ru : Int)) + (kI 1)), vI (le : Int), .ref 3, .ref 4, .ref 5, vZ kn], cN 60 LP, cN 60 AL, cN 480 PH, cN 480 TE, cK 60 LD, ob 3 [.ref 7, .ref 8, .ref 9, vI (s : Int), vI (ah : Int), vZ ar, vI (q : Int)], cN 16 lens, cN 16 tens, cN 16 phr] 0 0)
    have e2 : ((kI (ru : Int)) + (kI 1)) = kI (((ru + 1) : Nat) : Int) := by first | (simp only [kI_add, kI_sub, kI_mul]; done) | (simp only [kI_add, kI_sub, kI_mul]; rfl)
    rw [e2]
    refine ⟨fun c25 => ?_, fun c25 => ?_⟩
    · 
      rw [bI_eq0] at c25
      have ha : ar = true := by cases ar <;> simp_all
      refine sq_ok rfl [(.aload_n 1, 0, 0, 0), (.getfield 61, 3, 4, 0), (.aload_n 1, 0, 0, 0), (.getfield 54, 3, 3, 0), (.if_icmp .ne 9, 0, 0, 0)] 44 _ _ _ _ _ (by decide +kernel) ?_
      show (¬ kI (ah : Int) = kI (s : Int) → WM mX4_addRule 0 0 Post 10 61 [(0, .ref 0), (1, .ref 6), (2, vZ both)] [] [ob 4 [.ref 1, .ref 2, vI (((ru + 1) : Nat) : Int), vI (le : Int), .ref 3, .ref 4, .ref 5, vZ kn], cN 60 LP, cN 60 AL, cN 480 PH, cN 480 TE, cK 60 LD, ob 3 [.ref 7, .ref 8, .ref 9, vI (s : Int), vI (ah : Int), vZ ar, vI (q : Int)], cN 16 lens, cN 16 tens, cN 16 phr] 0 0) ∧ (kI (ah : Int) = kI (s : Int) → WM mX4_addRule 0 0 Post 10 55 [(0, .ref 0), (1, .ref 6), (2, vZ both)] [] [ob 4 [.ref 1, .ref 2, vI (((ru + 1) : Nat) : Int), vI (le : Int), .ref 3, .ref 4, .ref 5, vZ kn], cN 60 LP, cN 60 AL, cN 480 PH, cN 480 TE, cK 60 LD, ob 3 [.ref 7, .ref 8, .ref 9, vI (s : Int), vI (ah : Int), vZ ar, vI (q : Int)], cN 16 lens, cN 16 tens, cN 16 phr] 0 0)
      refine ⟨fun c52 => ?_, fun c52 => ?_⟩
      · 
        rw [kI_eq (by omega)] at c52
        refine sq_ok rfl [(.aload_n 0, 0, 0, 0), (.aload_n 1, 0, 0, 0), (.iconst 0, 0, 0, 0), (.aload_n 1, 0, 0, 0), (.getfield 61, 3, 4, 0), (.aload_n 1, 0, 0, 0), (.getfield 61, 3, 4, 0), (.aload_n 1, 0, 0, 0), (.getfield 54, 3, 3, 0)] 61 _ _ _ _ _ (by decide +kernel) ?_
        show WM mX4_addRule 0 0 Post 10 76 [(0, .ref 0), (1, .ref 6), (2, vZ both)] [vI (s : Int), vI (ah : Int), vI (ah : Int), vI 0, .ref 6, .ref 0] [ob 4 [.ref 1, .ref 2, vI (((ru + 1) : Nat) : Int), vI (le : Int), .ref 3, .ref 4, .ref 5, vZ kn], cN 60 LP, cN 60 AL, cN 480 PH, cN 480 TE, cK 60 LD, ob 3 [.ref 7, .ref 8, .ref 9, vI (s : Int), vI (ah : Int), vZ ar, vI (q : Int)], cN 16 lens, cN 16 tens, cN 16 phr] 0 0
        refine wm_callV (y := mX4_addRule) mX4_addLefts [0, 1, 2, 3, 4, 5, 6, 7, 8, 9] (pc := 76) (rest := []) (mc' := 0) (ms' := 0) (by decide +kernel) kX4_57 (c_X4_addLefts LP AL (ru + 1) le PH TE LD kn hle hO lens tens phr s ah ar q hphr htens 0 ah ah s (by omega) (by omega) (by omega) (by omega) (by omega)) rfl rfl ⟨_, rfl, rfl⟩ ⟨Nat.le_of_ble_eq_true rfl, Nat.le_of_ble_eq_true rfl⟩ ⟨Nat.le_of_ble_eq_true rfl, Nat.le_of_ble_eq_true rfl⟩ (Nat.le_of_ble_eq_true rfl) rfl rfl (Nat.le_of_ble_eq_true rfl) rfl ?_
        rintro _ _ ⟨LP2, AL2, PH2, TE2, le2, b2, rfl, rfl, hb2⟩
        show WM mX4_addRule 0 0 Post 10 79 [(0, .ref 0), (1, .ref 6), (2, vZ both)] [vZ b2] [ob 4 [.ref 1, .ref 2, vI (((ru + 1) : Nat) : Int), vI (le2 : Int), .ref 3, .ref 4, .ref 5, vZ kn], cN 60 LP2, cN 60 AL2, cN 480 PH2, cN 480 TE2, cK 60 LD, ob 3 [.ref 7, .ref 8, .ref 9, vI (s : Int), vI (ah : Int), vZ ar, vI (q : Int)], cN 16 lens, cN 16 tens, cN 16 phr] 0 0
        refine sq_ok rfl [(.ifCond .ne 5, 0, 0, 0)] 79 _ _ _ _ _ (by decide +kernel) ?_
        show (¬ (bI b2) = kI 0 → WM mX4_addRule 0 0 Post 10 84 [(0, .ref 0), (1, .ref 6), (2, vZ both)] [] [ob 4 [.ref 1, .ref 2, vI (((ru + 1) : Nat) : Int), vI (le2 : Int), .ref 3, .ref 4, .ref 5, vZ kn], cN 60 LP2, cN 60 AL2, cN 480 PH2, cN 480 TE2, cK 60 LD, ob 3 [.ref 7, .ref 8, .ref 9, vI (s : Int), vI (ah : Int), vZ ar, vI (q : Int)], cN 16 lens, cN 16 tens, cN 16 phr] 0 0) ∧ ((bI b2) = kI 0 → WM mX4_addRule 0 0 Post 10 82 [(0, .ref 0), (1, .ref 6), (2, vZ both)] [] [ob 4 [.ref 1, .ref 2, vI (((ru + 1) : Nat) : Int), vI (le2 : Int), .ref 3, .ref 4, .ref 5, vZ kn], cN 60 LP2, cN 60 AL2, cN 480 PH2, cN 480 TE2, cK 60 LD, ob 3 [.ref 7, .ref 8, .ref 9, vI (s : Int), vI (ah : Int), vZ ar, vI (q : Int)], cN 16 lens, cN 16 tens, cN 16 phr] 0 0)
        refine ⟨fun c79 => ?_, fun c79 => ?_⟩
        · 
          rw [bI_eq0] at c79
          have hb1 : b2 = true := by cases b2 <;> simp_all
          rw [if_pos hb1] at hb2
          refine sq_ok rfl [(.iload_n 2, 0, 0, 0), (.ifCond .eq 24, 0, 0, 0)] 84 _ _ _ _ _ (by decide +kernel) ?_
          show ((bI both) = kI 0 → WM mX4_addRule 0 0 Post 10 109 [(0, .ref 0), (1, .ref 6), (2, vZ both)] [] [ob 4 [.ref 1, .ref 2, vI (((ru + 1) : Nat) : Int), vI (le2 : Int), .ref 3, .ref 4, .ref 5, vZ kn], cN 60 LP2, cN 60 AL2, cN 480 PH2, cN 480 TE2, cK 60 LD, ob 3 [.ref 7, .ref 8, .ref 9, vI (s : Int), vI (ah : Int), vZ ar, vI (q : Int)], cN 16 lens, cN 16 tens, cN 16 phr] 0 0) ∧ (¬ (bI both) = kI 0 → WM mX4_addRule 0 0 Post 10 88 [(0, .ref 0), (1, .ref 6), (2, vZ both)] [] [ob 4 [.ref 1, .ref 2, vI (((ru + 1) : Nat) : Int), vI (le2 : Int), .ref 3, .ref 4, .ref 5, vZ kn], cN 60 LP2, cN 60 AL2, cN 480 PH2, cN 480 TE2, cK 60 LD, ob 3 [.ref 7, .ref 8, .ref 9, vI (s : Int), vI (ah : Int), vZ ar, vI (q : Int)], cN 16 lens, cN 16 tens, cN 16 phr] 0 0)
          refine ⟨fun c85 => ?_, fun c85 => ?_⟩
          · 
            rw [bI_eq0] at c85
            refine sq_ok rfl [(.iconst 1, 0, 0, 0), (.goto 4, 0, 0, 0)] 109 _ _ _ _ _ (by decide +kernel) ?_
            show WM mX4_addRule 0 0 Post 10 114 [(0, .ref 0), (1, .ref 6), (2, vZ both)] [vI 1] [ob 4 [.ref 1, .ref 2, vI (((ru + 1) : Nat) : Int), vI (le2 : Int), .ref 3, .ref 4, .ref 5, vZ kn], cN 60 LP2, cN 60 AL2, cN 480 PH2, cN 480 TE2, cK 60 LD, ob 3 [.ref 7, .ref 8, .ref 9, vI (s : Int), vI (ah : Int), vZ ar, vI (q : Int)], cN 16 lens, cN 16 tens, cN 16 phr] 0 0
            refine sq_ok rfl [(.ireturn, 0, 0, 0)] 114 _ _ _ _ _ (by decide +kernel) ?_
            show narrow .boolean (.int (kI 1)) = .int (kI 1) ∧ ((0 ≤ 0 ∧ 0 ≤ 0) ∧ Post (some (vI 1)) [ob 4 [.ref 1, .ref 2, vI (((ru + 1) : Nat) : Int), vI (le2 : Int), .ref 3, .ref 4, .ref 5, vZ kn], cN 60 LP2, cN 60 AL2, cN 480 PH2, cN 480 TE2, cK 60 LD, ob 3 [.ref 7, .ref 8, .ref 9, vI (s : Int), vI (ah : Int), vZ ar, vI (q : Int)], cN 16 lens, cN 16 tens, cN 16 phr])
            refine ⟨(bI_fits true).1, ?_⟩
            refine ⟨⟨Nat.le_refl _, Nat.le_refl _⟩, hPo _ _ ?_⟩
            first
            | exact ⟨LP3, AL3, PH3, TE3, ru + 1, le3, true, rfl, rfl, by
                have hb3t : b3 = true := by simpa using c106
                rw [if_pos hb3t] at hb3
                rw [if_pos rfl]
                refine ⟨rfl, by omega, ?_, hb3.2⟩
                unfold mRule
                rw [if_neg (show ¬ ar = false by rw [ha]; decide), if_neg (show ¬ ah = s by omega), hb2.1]
                simp only [Option.bind_some, hbo, if_true]
                exact hb3.1⟩
            | exact ⟨LP3, AL3, PH3, TE3, ru + 1, le3, false, rfl, rfl, by
                have hb3t : b3 = false := c106
                rw [hb3t] at hb3
                rw [if_neg (by decide)] at hb3
                rw [if_neg (by decide)]
                refine ⟨Or.inr ?_, hb3.2⟩
                unfold mRule
                rw [if_neg (show ¬ ar = false by rw [ha]; decide), if_neg (show ¬ ah = s by omega), hb2.1]
                simp only [Option.bind_some, hbo, if_true]
                exact hb3.1⟩
            | exact ⟨LP2, AL2, PH2, TE2, ru + 1, le2, true, rfl, rfl, by
                rw [if_pos rfl]
                refine ⟨rfl, by omega, ?_, hb2.2⟩
                unfold mRule
                rw [if_neg (show ¬ ar = false by rw [ha]; decide), if_neg (show ¬ ah = s by omega), hb2.1]
                simp only [Option.bind_some, c85, Bool.false_eq_true, if_false]⟩
          · 
            rw [bI_eq0] at c85
            have hbo : both = true := by cases both <;> simp_all
            refine sq_ok rfl [(.aload_n 0, 0, 0, 0), (.aload_n 1, 0, 0, 0), (.aload_n 1, 0, 0, 0), (.getfield 61, 3, 4, 0), (.aload_n 1, 0, 0, 0), (.getfield 54, 3, 3, 0), (.iconst 0, 0, 0, 0), (.aload_n 1, 0, 0, 0), (.getfield 61, 3, 4, 0)] 88 _ _ _ _ _ (by decide +kernel) ?_
            show WM mX4_addRule 0 0 Post 10 103 [(0, .ref 0), (1, .ref 6), (2, vZ both)] [vI (ah : Int), vI 0, vI (s : Int), vI (ah : Int), .ref 6, .ref 0] [ob 4 [.ref 1, .ref 2, vI (((ru + 1) : Nat) : Int), vI (le2 : Int), .ref 3, .ref 4, .ref 5, vZ kn], cN 60 LP2, cN 60 AL2, cN 480 PH2, cN 480 TE2, cK 60 LD, ob 3 [.ref 7, .ref 8, .ref 9, vI (s : Int), vI (ah : Int), vZ ar, vI (q : Int)], cN 16 lens, cN 16 tens, cN 16 phr] 0 0
            refine wm_callV (y := mX4_addRule) mX4_addLefts [0, 1, 2, 3, 4, 5, 6, 7, 8, 9] (pc := 103) (rest := []) (mc' := 0) (ms' := 0) (by decide +kernel) kX4_57 (c_X4_addLefts LP2 AL2 (ru + 1) le2 PH2 TE2 LD kn hb2.2.2 hb2.2.1 lens tens phr s ah ar q hphr htens ah s 0 ah (by omega) (by omega) (by omega) (by omega) (by omega)) rfl rfl ⟨_, rfl, rfl⟩ ⟨Nat.le_of_ble_eq_true rfl, Nat.le_of_ble_eq_true rfl⟩ ⟨Nat.le_of_ble_eq_true rfl, Nat.le_of_ble_eq_true rfl⟩ (Nat.le_of_ble_eq_true rfl) rfl rfl (Nat.le_of_ble_eq_true rfl) rfl ?_
            rintro _ _ ⟨LP3, AL3, PH3, TE3, le3, b3, rfl, rfl, hb3⟩
            show WM mX4_addRule 0 0 Post 10 106 [(0, .ref 0), (1, .ref 6), (2, vZ both)] [vZ b3] [ob 4 [.ref 1, .ref 2, vI (((ru + 1) : Nat) : Int), vI (le3 : Int), .ref 3, .ref 4, .ref 5, vZ kn], cN 60 LP3, cN 60 AL3, cN 480 PH3, cN 480 TE3, cK 60 LD, ob 3 [.ref 7, .ref 8, .ref 9, vI (s : Int), vI (ah : Int), vZ ar, vI (q : Int)], cN 16 lens, cN 16 tens, cN 16 phr] 0 0
            refine sq_ok rfl [(.ifCond .eq 7, 0, 0, 0)] 106 _ _ _ _ _ (by decide +kernel) ?_
            show ((bI b3) = kI 0 → WM mX4_addRule 0 0 Post 10 113 [(0, .ref 0), (1, .ref 6), (2, vZ both)] [] [ob 4 [.ref 1, .ref 2, vI (((ru + 1) : Nat) : Int), vI (le3 : Int), .ref 3, .ref 4, .ref 5, vZ kn], cN 60 LP3, cN 60 AL3, cN 480 PH3, cN 480 TE3, cK 60 LD, ob 3 [.ref 7, .ref 8, .ref 9, vI (s : Int), vI (ah : Int), vZ ar, vI (q : Int)], cN 16 lens, cN 16 tens, cN 16 phr] 0 0) ∧ (¬ (bI b3) = kI 0 → WM mX4_addRule 0 0 Post 10 109 [(0, .ref 0), (1, .ref 6), (2, vZ both)] [] [ob 4 [.ref 1, .ref 2, vI (((ru + 1) : Nat) : Int), vI (le3 : Int), .ref 3, .ref 4, .ref 5, vZ kn], cN 60 LP3, cN 60 AL3, cN 480 PH3, cN 480 TE3, cK 60 LD, ob 3 [.ref 7, .ref 8, .ref 9, vI (s : Int), vI (ah : Int), vZ ar, vI (q : Int)], cN 16 lens, cN 16 tens, cN 16 phr] 0 0)
            refine ⟨fun c106 => ?_, fun c106 => ?_⟩
            · 
              rw [bI_eq0] at c106
              refine sq_ok rfl [(.iconst 0, 0, 0, 0), (.ireturn, 0, 0, 0)] 113 _ _ _ _ _ (by decide +kernel) ?_
              show narrow .boolean (.int (kI 0)) = .int (kI 0) ∧ ((0 ≤ 0 ∧ 0 ≤ 0) ∧ Post (some (vI 0)) [ob 4 [.ref 1, .ref 2, vI (((ru + 1) : Nat) : Int), vI (le3 : Int), .ref 3, .ref 4, .ref 5, vZ kn], cN 60 LP3, cN 60 AL3, cN 480 PH3, cN 480 TE3, cK 60 LD, ob 3 [.ref 7, .ref 8, .ref 9, vI (s : Int), vI (ah : Int), vZ ar, vI (q : Int)], cN 16 lens, cN 16 tens, cN 16 phr])
              refine ⟨(bI_fits false).1, ?_⟩
              refine ⟨⟨Nat.le_refl _, Nat.le_refl _⟩, hPo _ _ ?_⟩
              first
              | exact ⟨LP3, AL3, PH3, TE3, ru + 1, le3, true, rfl, rfl, by
                  have hb3t : b3 = true := by simpa using c106
                  rw [if_pos hb3t] at hb3
                  rw [if_pos rfl]
                  refine ⟨rfl, by omega, ?_, hb3.2⟩
                  unfold mRule
                  rw [if_neg (show ¬ ar = false by rw [ha]; decide), if_neg (show ¬ ah = s by omega), hb2.1]
                  simp only [Option.bind_some, hbo, if_true]
                  exact hb3.1⟩
              | exact ⟨LP3, AL3, PH3, TE3, ru + 1, le3, false, rfl, rfl, by
                  have hb3t : b3 = false := c106
                  rw [hb3t] at hb3
                  rw [if_neg (by decide)] at hb3
                  rw [if_neg (by decide)]
                  refine ⟨Or.inr ?_, hb3.2⟩
                  unfold mRule
                  rw [if_neg (show ¬ ar = false by rw [ha]; decide), if_neg (show ¬ ah = s by omega), hb2.1]
                  simp only [Option.bind_some, hbo, if_true]
                  exact hb3.1⟩
              | exact ⟨LP2, AL2, PH2, TE2, ru + 1, le2, true, rfl, rfl, by
                  rw [if_pos rfl]
                  refine ⟨rfl, by omega, ?_, hb2.2⟩
                  unfold mRule
                  rw [if_neg (show ¬ ar = false by rw [ha]; decide), if_neg (show ¬ ah = s by omega), hb2.1]
                  simp only [Option.bind_some, c85, Bool.false_eq_true, if_false]⟩
            · 
              rw [bI_eq0] at c106
              refine sq_ok rfl [(.iconst 1, 0, 0, 0), (.goto 4, 0, 0, 0)] 109 _ _ _ _ _ (by decide +kernel) ?_
              show WM mX4_addRule 0 0 Post 10 114 [(0, .ref 0), (1, .ref 6), (2, vZ both)] [vI 1] [ob 4 [.ref 1, .ref 2, vI (((ru + 1) : Nat) : Int), vI (le3 : Int), .ref 3, .ref 4, .ref 5, vZ kn], cN 60 LP3, cN 60 AL3, cN 480 PH3, cN 480 TE3, cK 60 LD, ob 3 [.ref 7, .ref 8, .ref 9, vI (s : Int), vI (ah : Int), vZ ar, vI (q : Int)], cN 16 lens, cN 16 tens, cN 16 phr] 0 0
              refine sq_ok rfl [(.ireturn, 0, 0, 0)] 114 _ _ _ _ _ (by decide +kernel) ?_
              show narrow .boolean (.int (kI 1)) = .int (kI 1) ∧ ((0 ≤ 0 ∧ 0 ≤ 0) ∧ Post (some (vI 1)) [ob 4 [.ref 1, .ref 2, vI (((ru + 1) : Nat) : Int), vI (le3 : Int), .ref 3, .ref 4, .ref 5, vZ kn], cN 60 LP3, cN 60 AL3, cN 480 PH3, cN 480 TE3, cK 60 LD, ob 3 [.ref 7, .ref 8, .ref 9, vI (s : Int), vI (ah : Int), vZ ar, vI (q : Int)], cN 16 lens, cN 16 tens, cN 16 phr])
              refine ⟨(bI_fits true).1, ?_⟩
              refine ⟨⟨Nat.le_refl _, Nat.le_refl _⟩, hPo _ _ ?_⟩
              first
              | exact ⟨LP3, AL3, PH3, TE3, ru + 1, le3, true, rfl, rfl, by
                  have hb3t : b3 = true := by simpa using c106
                  rw [if_pos hb3t] at hb3
                  rw [if_pos rfl]
                  refine ⟨rfl, by omega, ?_, hb3.2⟩
                  unfold mRule
                  rw [if_neg (show ¬ ar = false by rw [ha]; decide), if_neg (show ¬ ah = s by omega), hb2.1]
                  simp only [Option.bind_some, hbo, if_true]
                  exact hb3.1⟩
              | exact ⟨LP3, AL3, PH3, TE3, ru + 1, le3, false, rfl, rfl, by
                  have hb3t : b3 = false := c106
                  rw [hb3t] at hb3
                  rw [if_neg (by decide)] at hb3
                  rw [if_neg (by decide)]
                  refine ⟨Or.inr ?_, hb3.2⟩
                  unfold mRule
                  rw [if_neg (show ¬ ar = false by rw [ha]; decide), if_neg (show ¬ ah = s by omega), hb2.1]
                  simp only [Option.bind_some, hbo, if_true]
                  exact hb3.1⟩
              | exact ⟨LP2, AL2, PH2, TE2, ru + 1, le2, true, rfl, rfl, by
                  rw [if_pos rfl]
                  refine ⟨rfl, by omega, ?_, hb2.2⟩
                  unfold mRule
                  rw [if_neg (show ¬ ar = false by rw [ha]; decide), if_neg (show ¬ ah = s by omega), hb2.1]
                  simp only [Option.bind_some, c85, Bool.false_eq_true, if_false]⟩
        · 
          rw [bI_eq0] at c79
          rw [c79] at hb2
          rw [if_neg (by decide)] at hb2
          refine sq_ok rfl [(.iconst 0, 0, 0, 0), (.ireturn, 0, 0, 0)] 82 _ _ _ _ _ (by decide +kernel) ?_
          show narrow .boolean (.int (kI 0)) = .int (kI 0) ∧ ((0 ≤ 0 ∧ 0 ≤ 0) ∧ Post (some (vI 0)) [ob 4 [.ref 1, .ref 2, vI (((ru + 1) : Nat) : Int), vI (le2 : Int), .ref 3, .ref 4, .ref 5, vZ kn], cN 60 LP2, cN 60 AL2, cN 480 PH2, cN 480 TE2, cK 60 LD, ob 3 [.ref 7, .ref 8, .ref 9, vI (s : Int), vI (ah : Int), vZ ar, vI (q : Int)], cN 16 lens, cN 16 tens, cN 16 phr])
          refine ⟨(bI_fits false).1, ?_⟩
          refine ⟨⟨Nat.le_refl _, Nat.le_refl _⟩, hPo _ _ ?_⟩
          refine ⟨LP2, AL2, PH2, TE2, ru + 1, le2, false, rfl, rfl, ?_⟩
          rw [if_neg (by decide)]
          refine ⟨Or.inr ?_, hb2.2⟩
          unfold mRule
          rw [if_neg (show ¬ ar = false by rw [ha]; decide), if_neg (show ¬ ah = s by omega), hb2.1]
          rfl
      · 
        rw [kI_eq (by omega)] at c52
        refine sq_ok rfl [(.aload_n 0, 0, 0, 0), (.aload_n 1, 0, 0, 0)] 55 _ _ _ _ _ (by decide +kernel) ?_
        show WM mX4_addRule 0 0 Post 10 57 [(0, .ref 0), (1, .ref 6), (2, vZ both)] [.ref 6, .ref 0] [ob 4 [.ref 1, .ref 2, vI (((ru + 1) : Nat) : Int), vI (le : Int), .ref 3, .ref 4, .ref 5, vZ kn], cN 60 LP, cN 60 AL, cN 480 PH, cN 480 TE, cK 60 LD, ob 3 [.ref 7, .ref 8, .ref 9, vI (s : Int), vI (ah : Int), vZ ar, vI (q : Int)], cN 16 lens, cN 16 tens, cN 16 phr] 0 0
        refine wm_callV (y := mX4_addRule) mX4_addErasers [0, 1, 2, 3, 4, 5, 6, 7, 8, 9] (pc := 57) (rest := []) (mc' := 0) (ms' := 0) (by decide +kernel) kX4_64 (c_X4_addErasers LP AL (ru + 1) le PH TE LD kn hle hO lens tens phr s ah ar q hphr htens hs) rfl rfl ⟨_, rfl, rfl⟩ ⟨Nat.le_of_ble_eq_true rfl, Nat.le_of_ble_eq_true rfl⟩ ⟨Nat.le_of_ble_eq_true rfl, Nat.le_of_ble_eq_true rfl⟩ (Nat.le_of_ble_eq_true rfl) rfl rfl (Nat.le_of_ble_eq_true rfl) rfl ?_
        rintro _ _ ⟨LP2, AL2, PH2, TE2, le2, b2, rfl, rfl, hb2⟩
        show WM mX4_addRule 0 0 Post 10 60 [(0, .ref 0), (1, .ref 6), (2, vZ both)] [vZ b2] [ob 4 [.ref 1, .ref 2, vI (((ru + 1) : Nat) : Int), vI (le2 : Int), .ref 3, .ref 4, .ref 5, vZ kn], cN 60 LP2, cN 60 AL2, cN 480 PH2, cN 480 TE2, cK 60 LD, ob 3 [.ref 7, .ref 8, .ref 9, vI (s : Int), vI (ah : Int), vZ ar, vI (q : Int)], cN 16 lens, cN 16 tens, cN 16 phr] 0 0
        refine sq_ok rfl [(.ireturn, 0, 0, 0)] 60 _ _ _ _ _ (by decide +kernel) ?_
        show narrow .boolean (.int (bI b2)) = .int (bI b2) ∧ ((0 ≤ 0 ∧ 0 ≤ 0) ∧ Post (some (vZ b2)) [ob 4 [.ref 1, .ref 2, vI (((ru + 1) : Nat) : Int), vI (le2 : Int), .ref 3, .ref 4, .ref 5, vZ kn], cN 60 LP2, cN 60 AL2, cN 480 PH2, cN 480 TE2, cK 60 LD, ob 3 [.ref 7, .ref 8, .ref 9, vI (s : Int), vI (ah : Int), vZ ar, vI (q : Int)], cN 16 lens, cN 16 tens, cN 16 phr])
        refine ⟨(bI_fits b2).1, ?_⟩
        refine ⟨⟨Nat.le_refl _, Nat.le_refl _⟩, hPo _ _ ?_⟩
        refine ⟨LP2, AL2, PH2, TE2, ru + 1, le2, b2, rfl, rfl, ?_⟩
        unfold mRule
        rw [if_neg (show ¬ ar = false by rw [ha]; decide), if_pos (show ah = s by omega)]
        cases b2
        · rw [if_neg (by decide)] at hb2 ⊢; exact ⟨Or.inr hb2.1, hb2.2⟩
        · exact ⟨rfl, by omega, hb2⟩
    · 
      rw [bI_eq0] at c25
      refine sq_ok rfl [(.aload_n 0, 0, 0, 0), (.aload_n 1, 0, 0, 0), (.iconst 0, 0, 0, 0), (.aload_n 1, 0, 0, 0), (.getfield 54, 3, 3, 0), (.iconst 0, 0, 0, 0), (.aload_n 1, 0, 0, 0), (.getfield 54, 3, 3, 0)] 28 _ _ _ _ _ (by decide +kernel) ?_
      show WM mX4_addRule 0 0 Post 10 40 [(0, .ref 0), (1, .ref 6), (2, vZ both)] [vI (s : Int), vI 0, vI (s : Int), vI 0, .ref 6, .ref 0] [ob 4 [.ref 1, .ref 2, vI (((ru + 1) : Nat) : Int), vI (le : Int), .ref 3, .ref 4, .ref 5, vZ kn], cN 60 LP, cN 60 AL, cN 480 PH, cN 480 TE, cK 60 LD, ob 3 [.ref 7, .ref 8, .ref 9, vI (s : Int), vI (ah : Int), vZ ar, vI (q : Int)], cN 16 lens, cN 16 tens, cN 16 phr] 0 0
      refine wm_callV (y := mX4_addRule) mX4_addLefts [0, 1, 2, 3, 4, 5, 6, 7, 8, 9] (pc := 40) (rest := []) (mc' := 0) (ms' := 0) (by decide +kernel) kX4_57 (c_X4_addLefts LP AL (ru + 1) le PH TE LD kn hle hO lens tens phr s ah ar q hphr htens 0 s 0 s (by omega) (by omega) (by omega) (by omega) (by omega)) rfl rfl ⟨_, rfl, rfl⟩ ⟨Nat.le_of_ble_eq_true rfl, Nat.le_of_ble_eq_true rfl⟩ ⟨Nat.le_of_ble_eq_true rfl, Nat.le_of_ble_eq_true rfl⟩ (Nat.le_of_ble_eq_true rfl) rfl rfl (Nat.le_of_ble_eq_true rfl) rfl ?_
      rintro _ _ ⟨LP2, AL2, PH2, TE2, le2, b2, rfl, rfl, hb2⟩
      show WM mX4_addRule 0 0 Post 10 43 [(0, .ref 0), (1, .ref 6), (2, vZ both)] [vZ b2] [ob 4 [.ref 1, .ref 2, vI (((ru + 1) : Nat) : Int), vI (le2 : Int), .ref 3, .ref 4, .ref 5, vZ kn], cN 60 LP2, cN 60 AL2, cN 480 PH2, cN 480 TE2, cK 60 LD, ob 3 [.ref 7, .ref 8, .ref 9, vI (s : Int), vI (ah : Int), vZ ar, vI (q : Int)], cN 16 lens, cN 16 tens, cN 16 phr] 0 0
      refine sq_ok rfl [(.ireturn, 0, 0, 0)] 43 _ _ _ _ _ (by decide +kernel) ?_
      show narrow .boolean (.int (bI b2)) = .int (bI b2) ∧ ((0 ≤ 0 ∧ 0 ≤ 0) ∧ Post (some (vZ b2)) [ob 4 [.ref 1, .ref 2, vI (((ru + 1) : Nat) : Int), vI (le2 : Int), .ref 3, .ref 4, .ref 5, vZ kn], cN 60 LP2, cN 60 AL2, cN 480 PH2, cN 480 TE2, cK 60 LD, ob 3 [.ref 7, .ref 8, .ref 9, vI (s : Int), vI (ah : Int), vZ ar, vI (q : Int)], cN 16 lens, cN 16 tens, cN 16 phr])
      refine ⟨(bI_fits b2).1, ?_⟩
      refine ⟨⟨Nat.le_refl _, Nat.le_refl _⟩, hPo _ _ ?_⟩
      refine ⟨LP2, AL2, PH2, TE2, ru + 1, le2, b2, rfl, rfl, ?_⟩
      unfold mRule
      rw [if_pos c25]
      cases b2
      · rw [if_neg (by decide)] at hb2 ⊢; exact ⟨Or.inr hb2.1, hb2.2⟩
      · exact ⟨rfl, by omega, hb2⟩
  · 
    rw [kI_lt (by omega)] at c6
    refine sq_ok rfl [(.iconst 0, 0, 0, 0), (.ireturn, 0, 0, 0)] 9 _ _ _ _ _ (by decide +kernel) ?_
    show narrow .boolean (.int (kI 0)) = .int (kI 0) ∧ ((0 ≤ 0 ∧ 0 ≤ 0) ∧ Post (some (vI 0)) [ob 4 [.ref 1, .ref 2, vI (ru : Int), vI (le : Int), .ref 3, .ref 4, .ref 5, vZ kn], cN 60 LP, cN 60 AL, cN 480 PH, cN 480 TE, cK 60 LD, ob 3 [.ref 7, .ref 8, .ref 9, vI (s : Int), vI (ah : Int), vZ ar, vI (q : Int)], cN 16 lens, cN 16 tens, cN 16 phr])
    refine ⟨(bI_fits false).1, ?_⟩
    refine ⟨⟨Nat.le_refl _, Nat.le_refl _⟩, hPo _ _ ?_⟩
    exact ⟨LP, AL, PH, TE, ru, le, false, rfl, rfl, by rw [if_neg (by decide)]; exact ⟨Or.inl (by omega), hO⟩⟩

set_option maxRecDepth 100000 in
set_option maxHeartbeats 500000 in
theorem c_X4_longestAt (LP AL : Nat → Nat) (ru le : Nat) (PH TE LD : Nat → Nat) (kn : Bool) (hle : le ≤ 60) (hO : rOK LP AL PH TE) (mo rc : Nat) (hmo : mo ≤ 1000) (hrc : rc ≤ mo) (nums : Nat → Int) (rcodes : Nat → Nat) (hN : ∀ j, j < rc → 0 ≤ nums j ∧ nums j < 200) (a : Nat) (ha : a < rc) : CT mX4_longestAt 0 0 [.ref 0, .ref 6, vI (a : Int)] [ob 4 [.ref 1, .ref 2, vI (ru : Int), vI (le : Int), .ref 3, .ref 4, .ref 5, vZ kn], cN 60 LP, cN 60 AL, cN 480 PH, cN 480 TE, cK 60 LD, ob 9 [vI (mo : Int), .ref 7, .ref 8, vI (rc : Int)], cI mo nums, cK mo rcodes] (fun r w => r = some (vI (lgs LP le (fun j => (nums j).toNat) a (min 4 (rc - a)))) ∧ w = [ob 4 [.ref 1, .ref 2, vI (ru : Int), vI (le : Int), .ref 3, .ref 4, .ref 5, vZ kn], cN 60 LP, cN 60 AL, cN 480 PH, cN 480 TE, cK 60 LD, ob 9 [vI (mo : Int), .ref 7, .ref 8, vI (rc : Int)], cI mo nums, cK mo rcodes]) := by
  refine CT.intro rfl (Nat.le_of_ble_eq_true rfl) ?_
  generalize hPost : (fun r w => r = some (vI (lgs LP le (fun j => (nums j).toNat) a (min 4 (rc - a)))) ∧ w = [ob 4 [.ref 1, .ref 2, vI (ru : Int), vI (le : Int), .ref 3, .ref 4, .ref 5, vZ kn], cN 60 LP, cN 60 AL, cN 480 PH, cN 480 TE, cK 60 LD, ob 9 [vI (mo : Int), .ref 7, .ref 8, vI (rc : Int)], cI mo nums, cK mo rcodes] : MP) = Post
  have hPo : ∀ rr ww, (fun r w => r = some (vI (lgs LP le (fun j => (nums j).toNat) a (min 4 (rc - a)))) ∧ w = [ob 4 [.ref 1, .ref 2, vI (ru : Int), vI (le : Int), .ref 3, .ref 4, .ref 5, vZ kn], cN 60 LP, cN 60 AL, cN 480 PH, cN 480 TE, cK 60 LD, ob 9 [vI (mo : Int), .ref 7, .ref 8, vI (rc : Int)], cI mo nums, cK mo rcodes] : MP) rr ww → Post rr ww := by rw [← hPost]; exact fun _ _ h => h
  clear hPost
  show WM mX4_longestAt 0 0 Post 9 0 [(0, .ref 0), (1, .ref 6), (2, vI (a : Int))] [] [ob 4 [.ref 1, .ref 2, vI (ru : Int), vI (le : Int), .ref 3, .ref 4, .ref 5, vZ kn], cN 60 LP, cN 60 AL, cN 480 PH, cN 480 TE, cK 60 LD, ob 9 [vI (mo : Int), .ref 7, .ref 8, vI (rc : Int)], cI mo nums, cK mo rcodes] 0 0
  refine sq_ok rfl [(.bipush (-2), 0, 0, 0), (.istore_n 3, 0, 0, 0), (.iconst 0, 0, 0, 0), (.istore 4, 0, 0, 0), (.iconst 0, 0, 0, 0), (.istore 5, 0, 0, 0)] 0 _ _ _ _ _ (by decide +kernel) ?_
  show WM mX4_longestAt 0 0 Post 9 9 [(0, .ref 0), (1, .ref 6), (2, vI (a : Int)), (3, vI (-2)), (4, vI 0), (5, vI 0)] [] [ob 4 [.ref 1, .ref 2, vI (ru : Int), vI (le : Int), .ref 3, .ref 4, .ref 5, vZ kn], cN 60 LP, cN 60 AL, cN 480 PH, cN 480 TE, cK 60 LD, ob 9 [vI (mo : Int), .ref 7, .ref 8, vI (rc : Int)], cI mo nums, cK mo rcodes] 0 0
  have lp9 : ∀ (n9 : Nat) (i : Nat), (i ≤ 4 ∧ a + i ≤ rc) → (5 - i) < n9 → WM mX4_longestAt 0 0 Post 9 9 [(0, .ref 0), (1, .ref 6), (2, vI (a : Int)), (3, vI (lgs LP le (fun j => (nums j).toNat) a i)), (4, vI (((ppk (fun j => (nums j).toNat) a i) : Nat) : Int)), (5, vI (i : Int))] [] [ob 4 [.ref 1, .ref 2, vI (ru : Int), vI (le : Int), .ref 3, .ref 4, .ref 5, vZ kn], cN 60 LP, cN 60 AL, cN 480 PH, cN 480 TE, cK 60 LD, ob 9 [vI (mo : Int), .ref 7, .ref 8, vI (rc : Int)], cI mo nums, cK mo rcodes] 0 0 := by
    intro n9
    induction n9 with
    | zero => intro i hi hm; exact absurd hm (Nat.not_lt_zero _)
    | succ n9 ih9 =>
      intro i hi hm9
      refine sq_ok rfl [(.iload 5, 0, 0, 0), (.iconst 4, 0, 0, 0), (.if_icmp .ge 58, 0, 0, 0)] 9 _ _ _ _ _ (by decide +kernel) ?_
      show (kI 4 ≤ kI (i : Int) → WM mX4_longestAt 0 0 Post 9 70 [(0, .ref 0), (1, .ref 6), (2, vI (a : Int)), (3, vI (lgs LP le (fun j => (nums j).toNat) a i)), (4, vI (((ppk (fun j => (nums j).toNat) a i) : Nat) : Int)), (5, vI (i : Int))] [] [ob 4 [.ref 1, .ref 2, vI (ru : Int), vI (le : Int), .ref 3, .ref 4, .ref 5, vZ kn], cN 60 LP, cN 60 AL, cN 480 PH, cN 480 TE, cK 60 LD, ob 9 [vI (mo : Int), .ref 7, .ref 8, vI (rc : Int)], cI mo nums, cK mo rcodes] 0 0) ∧ (¬ kI 4 ≤ kI (i : Int) → WM mX4_longestAt 0 0 Post 9 15 [(0, .ref 0), (1, .ref 6), (2, vI (a : Int)), (3, vI (lgs LP le (fun j => (nums j).toNat) a i)), (4, vI (((ppk (fun j => (nums j).toNat) a i) : Nat) : Int)), (5, vI (i : Int))] [] [ob 4 [.ref 1, .ref 2, vI (ru : Int), vI (le : Int), .ref 3, .ref 4, .ref 5, vZ kn], cN 60 LP, cN 60 AL, cN 480 PH, cN 480 TE, cK 60 LD, ob 9 [vI (mo : Int), .ref 7, .ref 8, vI (rc : Int)], cI mo nums, cK mo rcodes] 0 0)
      refine ⟨fun c12 => ?_, fun c12 => ?_⟩
      · 
        rw [kI_le (by omega)] at c12
        refine sq_ok rfl [(.iload_n 3, 0, 0, 0), (.ireturn, 0, 0, 0)] 70 _ _ _ _ _ (by decide +kernel) ?_
        show ((0 ≤ 0 ∧ 0 ≤ 0) ∧ Post (some (vI (lgs LP le (fun j => (nums j).toNat) a i))) [ob 4 [.ref 1, .ref 2, vI (ru : Int), vI (le : Int), .ref 3, .ref 4, .ref 5, vZ kn], cN 60 LP, cN 60 AL, cN 480 PH, cN 480 TE, cK 60 LD, ob 9 [vI (mo : Int), .ref 7, .ref 8, vI (rc : Int)], cI mo nums, cK mo rcodes])
        refine ⟨⟨Nat.le_refl _, Nat.le_refl _⟩, hPo _ _ ?_⟩
        exact ⟨by rw [show min 4 (rc - a) = i by omega], rfl⟩
      · 
        rw [kI_le (by omega)] at c12
        refine sq_ok rfl [(.iload_n 2, 0, 0, 0), (.iload 5, 0, 0, 0), (.iadd, 0, 0, 0), (.aload_n 1, 0, 0, 0), (.getfield 86, 9, 3, 0), (.if_icmp .ge 47, 0, 0, 0)] 15 _ _ _ _ _ (by decide +kernel) ?_
        show (kI (rc : Int) ≤ ((kI (a : Int)) + (kI (i : Int))) → WM mX4_longestAt 0 0 Post 9 70 [(0, .ref 0), (1, .ref 6), (2, vI (a : Int)), (3, vI (lgs LP le (fun j => (nums j).toNat) a i)), (4, vI (((ppk (fun j => (nums j).toNat) a i) : Nat) : Int)), (5, vI (i : Int))] [] [ob 4 [.ref 1, .ref 2, vI (ru : Int), vI (le : Int), .ref 3, .ref 4, .ref 5, vZ kn], cN 60 LP, cN 60 AL, cN 480 PH, cN 480 TE, cK 60 LD, ob 9 [vI (mo : Int), .ref 7, .ref 8, vI (rc : Int)], cI mo nums, cK mo rcodes] 0 0) ∧ (¬ kI (rc : Int) ≤ ((kI (a : Int)) + (kI (i : Int))) → WM mX4_longestAt 0 0 Post 9 26 [(0, .ref 0), (1, .ref 6), (2, vI (a : Int)), (3, vI (lgs LP le (fun j => (nums j).toNat) a i)), (4, vI (((ppk (fun j => (nums j).toNat) a i) : Nat) : Int)), (5, vI (i : Int))] [] [ob 4 [.ref 1, .ref 2, vI (ru : Int), vI (le : Int), .ref 3, .ref 4, .ref 5, vZ kn], cN 60 LP, cN 60 AL, cN 480 PH, cN 480 TE, cK 60 LD, ob 9 [vI (mo : Int), .ref 7, .ref 8, vI (rc : Int)], cI mo nums, cK mo rcodes] 0 0)
        have e2 : ((kI (a : Int)) + (kI (i : Int))) = kI (((a + i) : Nat) : Int) := by first | (simp only [kI_add, kI_sub, kI_mul]; done) | (simp only [kI_add, kI_sub, kI_mul]; rfl)
        rw [e2]
        refine ⟨fun c23 => ?_, fun c23 => ?_⟩
        · 
          rw [kI_le (by omega)] at c23
          refine sq_ok rfl [(.iload_n 3, 0, 0, 0), (.ireturn, 0, 0, 0)] 70 _ _ _ _ _ (by decide +kernel) ?_
          show ((0 ≤ 0 ∧ 0 ≤ 0) ∧ Post (some (vI (lgs LP le (fun j => (nums j).toNat) a i))) [ob 4 [.ref 1, .ref 2, vI (ru : Int), vI (le : Int), .ref 3, .ref 4, .ref 5, vZ kn], cN 60 LP, cN 60 AL, cN 480 PH, cN 480 TE, cK 60 LD, ob 9 [vI (mo : Int), .ref 7, .ref 8, vI (rc : Int)], cI mo nums, cK mo rcodes])
          refine ⟨⟨Nat.le_refl _, Nat.le_refl _⟩, hPo _ _ ?_⟩
          exact ⟨by rw [show min 4 (rc - a) = i by omega], rfl⟩
        · 
          rw [kI_le (by omega)] at c23
          have hna := hN (a + i) (by omega)
          have hpl : ppk (fun j => (nums j).toNat) a i < 256 ^ i := ppk_lt (fun j hj => by have := hN (a + j) (by omega); show (nums (a + j)).toNat < 200; omega)
          have hpl2 : ppk (fun j => (nums j).toNat) a (i + 1) < 256 ^ (i + 1) := ppk_lt (fun j hj => by have := hN (a + j) (by omega); show (nums (a + j)).toNat < 200; omega)
          have hp4 : ppk (fun j => (nums j).toNat) a (i + 1) < 4294967296 := Nat.lt_of_lt_of_le hpl2 (Nat.pow_le_pow_right (n := 256) (by omega) (show i + 1 ≤ 4 by omega))
          refine sq_ok rfl [(.iload 4, 0, 0, 0), (.iload 5, 0, 0, 0), (.aload_n 1, 0, 0, 0), (.getfield 91, 9, 1, 0), (.iload_n 2, 0, 0, 0), (.iload 5, 0, 0, 0), (.iadd, 0, 0, 0), (.iaload, 0, 0, 0)] 26 _ _ _ _ _ (by decide +kernel) ?_
          show ∃ j38 : Nat, mj mo ((kI (a : Int)) + (kI (i : Int))) j38 ∧ WM mX4_longestAt 0 0 Post 9 39 [(0, .ref 0), (1, .ref 6), (2, vI (a : Int)), (3, vI (lgs LP le (fun j => (nums j).toNat) a i)), (4, vI (((ppk (fun j => (nums j).toNat) a i) : Nat) : Int)), (5, vI (i : Int))] [.int (kI (nums j38)), vI (i : Int), vI (((ppk (fun j => (nums j).toNat) a i) : Nat) : Int)] [ob 4 [.ref 1, .ref 2, vI (ru : Int), vI (le : Int), .ref 3, .ref 4, .ref 5, vZ kn], cN 60 LP, cN 60 AL, cN 480 PH, cN 480 TE, cK 60 LD, ob 9 [vI (mo : Int), .ref 7, .ref 8, vI (rc : Int)], cI mo nums, cK mo rcodes] 0 0
          refine ⟨(a + i), ⟨by omega, by omega, by rw [kI_add]; rfl⟩, ?_⟩
          have e4 : kI (nums (a + i)) = kI ((((nums (a + i)).toNat) : Nat) : Int) := by rw [Int.toNat_of_nonneg (by omega)]
          rw [e4]
          refine wm_callS (y := mX4_longestAt) mX4_with [] (pc := 39) (rest := []) (mc' := 0) (ms' := 0) (by decide +kernel) kX4_94 (c_X4_with (ppk (fun j => (nums j).toNat) a i) i (nums (a + i)).toNat (by omega) hpl (by omega)) rfl ⟨Nat.le_of_ble_eq_true rfl, Nat.le_of_ble_eq_true rfl⟩ ⟨Nat.le_of_ble_eq_true rfl, Nat.le_of_ble_eq_true rfl⟩ (Nat.le_of_ble_eq_true rfl) rfl rfl (Nat.le_of_ble_eq_true rfl) rfl ?_
          rintro _ _ ⟨rfl, rfl⟩
          show WM mX4_longestAt 0 0 Post 9 42 [(0, .ref 0), (1, .ref 6), (2, vI (a : Int)), (3, vI (lgs LP le (fun j => (nums j).toNat) a i)), (4, vI (((ppk (fun j => (nums j).toNat) a i) : Nat) : Int)), (5, vI (i : Int))] [vI (((ppk (fun j => (nums j).toNat) a (i + 1)) : Nat) : Int)] [ob 4 [.ref 1, .ref 2, vI (ru : Int), vI (le : Int), .ref 3, .ref 4, .ref 5, vZ kn], cN 60 LP, cN 60 AL, cN 480 PH, cN 480 TE, cK 60 LD, ob 9 [vI (mo : Int), .ref 7, .ref 8, vI (rc : Int)], cI mo nums, cK mo rcodes] 0 0
          refine sq_ok rfl [(.istore 4, 0, 0, 0), (.aload_n 0, 0, 0, 0), (.iload 4, 0, 0, 0)] 42 _ _ _ _ _ (by decide +kernel) ?_
          show WM mX4_longestAt 0 0 Post 9 47 [(0, .ref 0), (1, .ref 6), (2, vI (a : Int)), (3, vI (lgs LP le (fun j => (nums j).toNat) a i)), (4, vI (((ppk (fun j => (nums j).toNat) a (i + 1)) : Nat) : Int)), (5, vI (i : Int))] [vI (((ppk (fun j => (nums j).toNat) a (i + 1)) : Nat) : Int), .ref 0] [ob 4 [.ref 1, .ref 2, vI (ru : Int), vI (le : Int), .ref 3, .ref 4, .ref 5, vZ kn], cN 60 LP, cN 60 AL, cN 480 PH, cN 480 TE, cK 60 LD, ob 9 [vI (mo : Int), .ref 7, .ref 8, vI (rc : Int)], cI mo nums, cK mo rcodes] 0 0
          refine wm_callV (y := mX4_longestAt) mX4_findLeft [0, 1, 2, 3, 4, 5] (pc := 47) (rest := []) (mc' := 0) (ms' := 0) (by decide +kernel) kX4_77 (c_X4_findLeft LP AL ru le PH TE LD kn hle (fun j _ => hO.1 j) (ppk (fun j => (nums j).toNat) a (i + 1)) hp4) rfl rfl ⟨_, rfl, rfl⟩ ⟨Nat.le_of_ble_eq_true rfl, Nat.le_of_ble_eq_true rfl⟩ ⟨Nat.le_of_ble_eq_true rfl, Nat.le_of_ble_eq_true rfl⟩ (Nat.le_of_ble_eq_true rfl) rfl rfl (Nat.le_of_ble_eq_true rfl) rfl ?_
          rintro _ _ ⟨rfl, rfl⟩
          show WM mX4_longestAt 0 0 Post 9 50 [(0, .ref 0), (1, .ref 6), (2, vI (a : Int)), (3, vI (lgs LP le (fun j => (nums j).toNat) a i)), (4, vI (((ppk (fun j => (nums j).toNat) a (i + 1)) : Nat) : Int)), (5, vI (i : Int))] [vI (oI (fnd (fun k => LP k == ppk (fun j => (nums j).toNat) a (i + 1)) le))] [ob 4 [.ref 1, .ref 2, vI (ru : Int), vI (le : Int), .ref 3, .ref 4, .ref 5, vZ kn], cN 60 LP, cN 60 AL, cN 480 PH, cN 480 TE, cK 60 LD, ob 9 [vI (mo : Int), .ref 7, .ref 8, vI (rc : Int)], cI mo nums, cK mo rcodes] 0 0
          have hRf := oI_Rf (p := fun k => LP k == ppk (fun j => (nums j).toNat) a (i + 1)) (n := le) (by omega)
          refine sq_ok rfl [(.istore 6, 0, 0, 0), (.iload 6, 0, 0, 0), (.ifCond .lt 8, 0, 0, 0)] 50 _ _ _ _ _ (by decide +kernel) ?_
          show (kI (oI (fnd (fun k => LP k == ppk (fun j => (nums j).toNat) a (i + 1)) le)) < kI 0 → WM mX4_longestAt 0 0 Post 9 62 [(0, .ref 0), (1, .ref 6), (2, vI (a : Int)), (3, vI (lgs LP le (fun j => (nums j).toNat) a i)), (4, vI (((ppk (fun j => (nums j).toNat) a (i + 1)) : Nat) : Int)), (5, vI (i : Int)), (6, vI (oI (fnd (fun k => LP k == ppk (fun j => (nums j).toNat) a (i + 1)) le)))] [] [ob 4 [.ref 1, .ref 2, vI (ru : Int), vI (le : Int), .ref 3, .ref 4, .ref 5, vZ kn], cN 60 LP, cN 60 AL, cN 480 PH, cN 480 TE, cK 60 LD, ob 9 [vI (mo : Int), .ref 7, .ref 8, vI (rc : Int)], cI mo nums, cK mo rcodes] 0 0) ∧ (¬ kI (oI (fnd (fun k => LP k == ppk (fun j => (nums j).toNat) a (i + 1)) le)) < kI 0 → WM mX4_longestAt 0 0 Post 9 57 [(0, .ref 0), (1, .ref 6), (2, vI (a : Int)), (3, vI (lgs LP le (fun j => (nums j).toNat) a i)), (4, vI (((ppk (fun j => (nums j).toNat) a (i + 1)) : Nat) : Int)), (5, vI (i : Int)), (6, vI (oI (fnd (fun k => LP k == ppk (fun j => (nums j).toNat) a (i + 1)) le)))] [] [ob 4 [.ref 1, .ref 2, vI (ru : Int), vI (le : Int), .ref 3, .ref 4, .ref 5, vZ kn], cN 60 LP, cN 60 AL, cN 480 PH, cN 480 TE, cK 60 LD, ob 9 [vI (mo : Int), .ref 7, .ref 8, vI (rc : Int)], cI mo nums, cK mo rcodes] 0 0)
          refine ⟨fun c54 => ?_, fun c54 => ?_⟩
          · 
            rw [kI_lt (by omega)] at c54
            have hk1 := oI_neg (show ¬ 0 ≤ oI (fnd (fun k => LP k == ppk (fun j => (nums j).toNat) a (i + 1)) le) by omega)
            refine sq_ok rfl [(.iload_n 3, 0, 0, 0), (.istore_n 3, 0, 0, 0), (.iinc 5 1, 0, 0, 0), (.goto (-58), 0, 0, 0)] 62 _ _ _ _ _ (by decide +kernel) ?_
            show WM mX4_longestAt 0 0 Post 9 9 [(0, .ref 0), (1, .ref 6), (2, vI (a : Int)), (3, vI (lgs LP le (fun j => (nums j).toNat) a i)), (4, vI (((ppk (fun j => (nums j).toNat) a (i + 1)) : Nat) : Int)), (5, .int ((kI (i : Int)) + (kI 1))), (6, vI (oI (fnd (fun k => LP k == ppk (fun j => (nums j).toNat) a (i + 1)) le)))] [] [ob 4 [.ref 1, .ref 2, vI (ru : Int), vI (le : Int), .ref 3, .ref 4, .ref 5, vZ kn], cN 60 LP, cN 60 AL, cN 480 PH, cN 480 TE, cK 60 LD, ob 9 [vI (mo : Int), .ref 7, .ref 8, vI (rc : Int)], cI mo nums, cK mo rcodes] 0 0
            have e6 : ((kI (i : Int)) + (kI 1)) = kI (((i + 1) : Nat) : Int) := by first | (simp only [kI_add, kI_sub, kI_mul]; done) | (simp only [kI_add, kI_sub, kI_mul]; rfl)
            rw [e6]
            have hlg : lgs LP le (fun j => (nums j).toNat) a (i + 1) = lgs LP le (fun j => (nums j).toNat) a i := by (simp only [lgs, hk1] <;> rfl)
            rw [← hlg]
            exact WM.pick [0, 1, 2, 3, 4, 5] rfl (ih9 (i + 1) (by omega) (by omega))
          · 
            rw [kI_lt (by omega)] at c54
            obtain ⟨kk, hk1, hk2⟩ := oI_pos (show 0 ≤ oI (fnd (fun k => LP k == ppk (fun j => (nums j).toNat) a (i + 1)) le) by omega)
            refine sq_ok rfl [(.iload 6, 0, 0, 0), (.goto 4, 0, 0, 0)] 57 _ _ _ _ _ (by decide +kernel) ?_
            show WM mX4_longestAt 0 0 Post 9 63 [(0, .ref 0), (1, .ref 6), (2, vI (a : Int)), (3, vI (lgs LP le (fun j => (nums j).toNat) a i)), (4, vI (((ppk (fun j => (nums j).toNat) a (i + 1)) : Nat) : Int)), (5, vI (i : Int)), (6, vI (oI (fnd (fun k => LP k == ppk (fun j => (nums j).toNat) a (i + 1)) le)))] [vI (oI (fnd (fun k => LP k == ppk (fun j => (nums j).toNat) a (i + 1)) le))] [ob 4 [.ref 1, .ref 2, vI (ru : Int), vI (le : Int), .ref 3, .ref 4, .ref 5, vZ kn], cN 60 LP, cN 60 AL, cN 480 PH, cN 480 TE, cK 60 LD, ob 9 [vI (mo : Int), .ref 7, .ref 8, vI (rc : Int)], cI mo nums, cK mo rcodes] 0 0
            refine sq_ok rfl [(.istore_n 3, 0, 0, 0), (.iinc 5 1, 0, 0, 0), (.goto (-58), 0, 0, 0)] 63 _ _ _ _ _ (by decide +kernel) ?_
            show WM mX4_longestAt 0 0 Post 9 9 [(0, .ref 0), (1, .ref 6), (2, vI (a : Int)), (3, vI (oI (fnd (fun k => LP k == ppk (fun j => (nums j).toNat) a (i + 1)) le))), (4, vI (((ppk (fun j => (nums j).toNat) a (i + 1)) : Nat) : Int)), (5, .int ((kI (i : Int)) + (kI 1))), (6, vI (oI (fnd (fun k => LP k == ppk (fun j => (nums j).toNat) a (i + 1)) le)))] [] [ob 4 [.ref 1, .ref 2, vI (ru : Int), vI (le : Int), .ref 3, .ref 4, .ref 5, vZ kn], cN 60 LP, cN 60 AL, cN 480 PH, cN 480 TE, cK 60 LD, ob 9 [vI (mo : Int), .ref 7, .ref 8, vI (rc : Int)], cI mo nums, cK mo rcodes] 0 0
            have e7 : ((kI (i : Int)) + (kI 1)) = kI (((i + 1) : Nat) : Int) := by first | (simp only [kI_add, kI_sub, kI_mul]; done) | (simp only [kI_add, kI_sub, kI_mul]; rfl)
            rw [e7]
            have hlg : lgs LP le (fun j => (nums j).toNat) a (i + 1) = oI (fnd (fun k => LP k == ppk (fun j => (nums j).toNat) a (i + 1)) le) := by (simp only [lgs, hk1] <;> rfl)
            rw [← hlg]
            exact WM.pick [0, 1, 2, 3, 4, 5] rfl (ih9 (i + 1) (by omega) (by omega))
  exact WM.pick [0, 1, 2, 3, 4, 5] rfl (lp9 _ 0 (by omega) (Nat.lt_succ_self _))

set_option maxRecDepth 100000 in
set_option maxHeartbeats 500000 in
theorem c_X3_packSides (lens tens phr : Nat → Nat) (s ah : Nat) (ar : Bool) (q : Nat) (hs : s ≤ 16) (hlens : ∀ j, j < s → lens j ≤ 4) (mo rc : Nat) (hmo : mo ≤ 1000) (hrc : rc ≤ mo) (nums : Nat → Int) (rcodes : Nat → Nat) (hN : ∀ j, j < rc → 0 ≤ nums j ∧ nums j < 200) (ho : off lens s ≤ rc) : CT mX3_packSides 0 0 [.ref 0, .ref 4] [ob 3 [.ref 1, .ref 2, .ref 3, vI (s : Int), vI (ah : Int), vZ ar, vI (q : Int)], cN 16 lens, cN 16 tens, cN 16 phr, ob 9 [vI (mo : Int), .ref 5, .ref 6, vI (rc : Int)], cI mo nums, cK mo rcodes] (fun r w => r = none ∧ w = [ob 3 [.ref 1, .ref 2, .ref 3, vI (s : Int), vI (ah : Int), vZ ar, vI (q : Int)], cN 16 lens, cN 16 tens, cN 16 (fun j => if j < s then ppk (fun j => (nums j).toNat) (off lens j) (lens j) else phr j), ob 9 [vI (mo : Int), .ref 5, .ref 6, vI (rc : Int)], cI mo nums, cK mo rcodes]) := by
  refine CT.intro rfl (Nat.le_of_ble_eq_true rfl) ?_
  generalize hPost : (fun r w => r = none ∧ w = [ob 3 [.ref 1, .ref 2, .ref 3, vI (s : Int), vI (ah : Int), vZ ar, vI (q : Int)], cN 16 lens, cN 16 tens, cN 16 (fun j => if j < s then ppk (fun j => (nums j).toNat) (off lens j) (lens j) else phr j), ob 9 [vI (mo : Int), .ref 5, .ref 6, vI (rc : Int)], cI mo nums, cK mo rcodes] : MP) = Post
  have hPo : ∀ rr ww, (fun r w => r = none ∧ w = [ob 3 [.ref 1, .ref 2, .ref 3, vI (s : Int), vI (ah : Int), vZ ar, vI (q : Int)], cN 16 lens, cN 16 tens, cN 16 (fun j => if j < s then ppk (fun j => (nums j).toNat) (off lens j) (lens j) else phr j), ob 9 [vI (mo : Int), .ref 5, .ref 6, vI (rc : Int)], cI mo nums, cK mo rcodes] : MP) rr ww → Post rr ww := by rw [← hPost]; exact fun _ _ h => h
  clear hPost
  show WM mX3_packSides 0 0 Post 7 0 [(0, .ref 0), (1, .ref 4)] [] [ob 3 [.ref 1, .ref 2, .ref 3, vI (s : Int), vI (ah : Int), vZ ar, vI (q : Int)], cN 16 lens, cN 16 tens, cN 16 phr, ob 9 [vI (mo : Int), .ref 5, .ref 6, vI (rc : Int)], cI mo nums, cK mo rcodes] 0 0
  refine sq_ok rfl [(.iconst 0, 0, 0, 0), (.istore_n 2, 0, 0, 0), (.iconst 0, 0, 0, 0), (.istore_n 3, 0, 0, 0)] 0 _ _ _ _ _ (by decide +kernel) ?_
  show WM mX3_packSides 0 0 Post 7 4 [(0, .ref 0), (1, .ref 4), (2, vI 0), (3, vI 0)] [] [ob 3 [.ref 1, .ref 2, .ref 3, vI (s : Int), vI (ah : Int), vZ ar, vI (q : Int)], cN 16 lens, cN 16 tens, cN 16 phr, ob 9 [vI (mo : Int), .ref 5, .ref 6, vI (rc : Int)], cI mo nums, cK mo rcodes] 0 0
  have lp4 : ∀ (n4 : Nat) (k : Nat) (g : Nat → Nat), (k ≤ s) → (g = fun j => if j < k then ppk (fun j => (nums j).toNat) (off lens j) (lens j) else phr j) → (s - k) < n4 → WM mX3_packSides 0 0 Post 7 4 [(0, .ref 0), (1, .ref 4), (2, vI (((off lens k) : Nat) : Int)), (3, vI (k : Int))] [] [ob 3 [.ref 1, .ref 2, .ref 3, vI (s : Int), vI (ah : Int), vZ ar, vI (q : Int)], cN 16 lens, cN 16 tens, cN 16 g, ob 9 [vI (mo : Int), .ref 5, .ref 6, vI (rc : Int)], cI mo nums, cK mo rcodes] 0 0 := by
    intro n4
    induction n4 with
    | zero => intro k g hk hg hm; exact absurd hm (Nat.not_lt_zero _)
    | succ n4 ih4 =>
      intro k g hk hg hm4
      refine sq_ok rfl [(.iload_n 3, 0, 0, 0), (.aload_n 0, 0, 0, 0), (.getfield 21, 3, 3, 0), (.if_icmp .ge 58, 0, 0, 0)] 4 _ _ _ _ _ (by decide +kernel) ?_
      show (kI (s : Int) ≤ kI (k : Int) → WM mX3_packSides 0 0 Post 7 67 [(0, .ref 0), (1, .ref 4), (2, vI (((off lens k) : Nat) : Int)), (3, vI (k : Int))] [] [ob 3 [.ref 1, .ref 2, .ref 3, vI (s : Int), vI (ah : Int), vZ ar, vI (q : Int)], cN 16 lens, cN 16 tens, cN 16 g, ob 9 [vI (mo : Int), .ref 5, .ref 6, vI (rc : Int)], cI mo nums, cK mo rcodes] 0 0) ∧ (¬ kI (s : Int) ≤ kI (k : Int) → WM mX3_packSides 0 0 Post 7 12 [(0, .ref 0), (1, .ref 4), (2, vI (((off lens k) : Nat) : Int)), (3, vI (k : Int))] [] [ob 3 [.ref 1, .ref 2, .ref 3, vI (s : Int), vI (ah : Int), vZ ar, vI (q : Int)], cN 16 lens, cN 16 tens, cN 16 g, ob 9 [vI (mo : Int), .ref 5, .ref 6, vI (rc : Int)], cI mo nums, cK mo rcodes] 0 0)
      refine ⟨fun c9 => ?_, fun c9 => ?_⟩
      · 
        rw [kI_le (by omega)] at c9
        refine sq_ok rfl [(.return_, 0, 0, 0)] 67 _ _ _ _ _ (by decide +kernel) ?_
        show ((0 ≤ 0 ∧ 0 ≤ 0) ∧ Post none [ob 3 [.ref 1, .ref 2, .ref 3, vI (s : Int), vI (ah : Int), vZ ar, vI (q : Int)], cN 16 lens, cN 16 tens, cN 16 g, ob 9 [vI (mo : Int), .ref 5, .ref 6, vI (rc : Int)], cI mo nums, cK mo rcodes])
        refine ⟨⟨Nat.le_refl _, Nat.le_refl _⟩, hPo _ _ ?_⟩
        have e : k = s := by omega
        subst e
        subst hg
        exact ⟨rfl, rfl⟩
      · 
        rw [kI_le (by omega)] at c9
        have hlk := hlens k (by omega)
        have hok : off lens (k + 1) ≤ off lens s := off_le lens (by omega)
        simp only [off] at hok
        refine sq_ok rfl [(.iconst 0, 0, 0, 0), (.istore 4, 0, 0, 0), (.iconst 0, 0, 0, 0), (.istore 5, 0, 0, 0)] 12 _ _ _ _ _ (by decide +kernel) ?_
        show WM mX3_packSides 0 0 Post 7 18 [(0, .ref 0), (1, .ref 4), (2, vI (((off lens k) : Nat) : Int)), (3, vI (k : Int)), (4, vI 0), (5, vI 0)] [] [ob 3 [.ref 1, .ref 2, .ref 3, vI (s : Int), vI (ah : Int), vZ ar, vI (q : Int)], cN 16 lens, cN 16 tens, cN 16 g, ob 9 [vI (mo : Int), .ref 5, .ref 6, vI (rc : Int)], cI mo nums, cK mo rcodes] 0 0
        have lp18 : ∀ (n18 : Nat) (i : Nat), (i ≤ lens k) → (5 - i) < n18 → WM mX3_packSides 0 0 Post 7 18 [(0, .ref 0), (1, .ref 4), (2, vI (((off lens k + i) : Nat) : Int)), (3, vI (k : Int)), (4, vI (((ppk (fun j => (nums j).toNat) (off lens k) i) : Nat) : Int)), (5, vI (i : Int))] [] [ob 3 [.ref 1, .ref 2, .ref 3, vI (s : Int), vI (ah : Int), vZ ar, vI (q : Int)], cN 16 lens, cN 16 tens, cN 16 g, ob 9 [vI (mo : Int), .ref 5, .ref 6, vI (rc : Int)], cI mo nums, cK mo rcodes] 0 0 := by
          intro n18
          induction n18 with
          | zero => intro i hi hm; exact absurd hm (Nat.not_lt_zero _)
          | succ n18 ih18 =>
            intro i hi hm18
            refine sq_ok rfl [(.iload 5, 0, 0, 0), (.aload_n 0, 0, 0, 0), (.getfield 9, 3, 0, 0), (.iload_n 3, 0, 0, 0), (.iaload, 0, 0, 0), (.if_icmp .ge 27, 0, 0, 0)] 18 _ _ _ _ _ (by decide +kernel) ?_
            show ∃ j25 : Nat, mj 16 (kI (k : Int)) j25 ∧ (kI ((lens j25 : Nat) : Int) ≤ kI (i : Int) → WM mX3_packSides 0 0 Post 7 53 [(0, .ref 0), (1, .ref 4), (2, vI (((off lens k + i) : Nat) : Int)), (3, vI (k : Int)), (4, vI (((ppk (fun j => (nums j).toNat) (off lens k) i) : Nat) : Int)), (5, vI (i : Int))] [] [ob 3 [.ref 1, .ref 2, .ref 3, vI (s : Int), vI (ah : Int), vZ ar, vI (q : Int)], cN 16 lens, cN 16 tens, cN 16 g, ob 9 [vI (mo : Int), .ref 5, .ref 6, vI (rc : Int)], cI mo nums, cK mo rcodes] 0 0) ∧ (¬ kI ((lens j25 : Nat) : Int) ≤ kI (i : Int) → WM mX3_packSides 0 0 Post 7 29 [(0, .ref 0), (1, .ref 4), (2, vI (((off lens k + i) : Nat) : Int)), (3, vI (k : Int)), (4, vI (((ppk (fun j => (nums j).toNat) (off lens k) i) : Nat) : Int)), (5, vI (i : Int))] [] [ob 3 [.ref 1, .ref 2, .ref 3, vI (s : Int), vI (ah : Int), vZ ar, vI (q : Int)], cN 16 lens, cN 16 tens, cN 16 g, ob 9 [vI (mo : Int), .ref 5, .ref 6, vI (rc : Int)], cI mo nums, cK mo rcodes] 0 0)
            refine ⟨k, ⟨by omega, by omega, rfl⟩, ?_⟩
            refine ⟨fun c26 => ?_, fun c26 => ?_⟩
            · 
              rw [kI_le (by omega)] at c26
              refine sq_ok rfl [(.aload_n 0, 0, 0, 0), (.getfield 18, 3, 2, 0), (.iload_n 3, 0, 0, 0), (.iload 4, 0, 0, 0), (.iastore, 0, 0, 0)] 53 _ _ _ _ _ (by decide +kernel) ?_
              show ∃ (j60 : Nat) (g60 : Nat → Int32), (mj 16 (kI (k : Int)) j60 ∧ g60 = upd (fun q => kI ((g q : Nat) : Int)) j60 (kI (((ppk (fun j => (nums j).toNat) (off lens k) i) : Nat) : Int))) ∧ WM mX3_packSides 0 0 Post 7 61 [(0, .ref 0), (1, .ref 4), (2, vI (((off lens k + i) : Nat) : Int)), (3, vI (k : Int)), (4, vI (((ppk (fun j => (nums j).toNat) (off lens k) i) : Nat) : Int)), (5, vI (i : Int))] [] [ob 3 [.ref 1, .ref 2, .ref 3, vI (s : Int), vI (ah : Int), vZ ar, vI (q : Int)], cN 16 lens, cN 16 tens, .inl (0, 16, .inl g60), ob 9 [vI (mo : Int), .ref 5, .ref 6, vI (rc : Int)], cI mo nums, cK mo rcodes] 0 0
              refine ⟨k, fun q => kI (((va_up g k (ppk (fun j => (nums j).toNat) (off lens k) i)) q : Nat) : Int), ⟨⟨by omega, by omega, rfl⟩, st_N (rfl)⟩, ?_⟩
              refine sq_ok rfl [(.iinc 3 1, 0, 0, 0), (.goto (-60), 0, 0, 0)] 61 _ _ _ _ _ (by decide +kernel) ?_
              show WM mX3_packSides 0 0 Post 7 4 [(0, .ref 0), (1, .ref 4), (2, vI (((off lens k + i) : Nat) : Int)), (3, .int ((kI (k : Int)) + (kI 1))), (4, vI (((ppk (fun j => (nums j).toNat) (off lens k) i) : Nat) : Int)), (5, vI (i : Int))] [] [ob 3 [.ref 1, .ref 2, .ref 3, vI (s : Int), vI (ah : Int), vZ ar, vI (q : Int)], cN 16 lens, cN 16 tens, cN 16 (va_up g k (ppk (fun j => (nums j).toNat) (off lens k) i)), ob 9 [vI (mo : Int), .ref 5, .ref 6, vI (rc : Int)], cI mo nums, cK mo rcodes] 0 0
              have e3 : ((kI (k : Int)) + (kI 1)) = kI (((k + 1) : Nat) : Int) := by first | (simp only [kI_add, kI_sub, kI_mul]; done) | (simp only [kI_add, kI_sub, kI_mul]; rfl)
              rw [e3]
              rw [show off lens k + i = off lens (k + 1) from by show _ = off lens k + lens k; omega]
              exact WM.pick [0, 1, 2, 3] rfl (ih4 (k + 1) (va_up g k (ppk (fun j => (nums j).toNat) (off lens k) i)) (by omega) (by subst hg; funext j; rw [show i = lens k by omega]; simp only [va_up]; by_cases h1 : j = k <;> by_cases h2 : j < k <;> simp [h1, h2] <;> omega) (by omega))
            · 
              rw [kI_le (by omega)] at c26
              have hna := hN (off lens k + i) (by omega)
              have hpl : ppk (fun j => (nums j).toNat) (off lens k) i < 256 ^ i := ppk_lt (fun j hj => by have := hN (off lens k + j) (by omega); show (nums (off lens k + j)).toNat < 200; omega)
              refine sq_ok rfl [(.iload 4, 0, 0, 0), (.iload 5, 0, 0, 0), (.aload_n 1, 0, 0, 0), (.getfield 85, 9, 1, 0), (.iload_n 2, 0, 0, 0), (.iaload, 0, 0, 0)] 29 _ _ _ _ _ (by decide +kernel) ?_
              show ∃ j38 : Nat, mj mo (kI (((off lens k + i) : Nat) : Int)) j38 ∧ WM mX3_packSides 0 0 Post 7 39 [(0, .ref 0), (1, .ref 4), (2, vI (((off lens k + i) : Nat) : Int)), (3, vI (k : Int)), (4, vI (((ppk (fun j => (nums j).toNat) (off lens k) i) : Nat) : Int)), (5, vI (i : Int))] [.int (kI (nums j38)), vI (i : Int), vI (((ppk (fun j => (nums j).toNat) (off lens k) i) : Nat) : Int)] [ob 3 [.ref 1, .ref 2, .ref 3, vI (s : Int), vI (ah : Int), vZ ar, vI (q : Int)], cN 16 lens, cN 16 tens, cN 16 g, ob 9 [vI (mo : Int), .ref 5, .ref 6, vI (rc : Int)], cI mo nums, cK mo rcodes] 0 0
              refine ⟨(off lens k + i), ⟨by omega, by omega, rfl⟩, ?_⟩
              have e4 : kI (nums (off lens k + i)) = kI ((((nums (off lens k + i)).toNat) : Nat) : Int) := by rw [Int.toNat_of_nonneg (by omega)]
              rw [e4]
              refine wm_callS (y := mX3_packSides) mX4_with [] (pc := 39) (rest := []) (mc' := 0) (ms' := 0) (by decide +kernel) kX3_88 (c_X4_with (ppk (fun j => (nums j).toNat) (off lens k) i) i (nums (off lens k + i)).toNat (by omega) hpl (by omega)) rfl ⟨Nat.le_of_ble_eq_true rfl, Nat.le_of_ble_eq_true rfl⟩ ⟨Nat.le_of_ble_eq_true rfl, Nat.le_of_ble_eq_true rfl⟩ (Nat.le_of_ble_eq_true rfl) rfl rfl (Nat.le_of_ble_eq_true rfl) rfl ?_
              rintro _ _ ⟨rfl, rfl⟩
              show WM mX3_packSides 0 0 Post 7 42 [(0, .ref 0), (1, .ref 4), (2, vI (((off lens k + i) : Nat) : Int)), (3, vI (k : Int)), (4, vI (((ppk (fun j => (nums j).toNat) (off lens k) i) : Nat) : Int)), (5, vI (i : Int))] [vI (((ppk (fun j => (nums j).toNat) (off lens k) (i + 1)) : Nat) : Int)] [ob 3 [.ref 1, .ref 2, .ref 3, vI (s : Int), vI (ah : Int), vZ ar, vI (q : Int)], cN 16 lens, cN 16 tens, cN 16 g, ob 9 [vI (mo : Int), .ref 5, .ref 6, vI (rc : Int)], cI mo nums, cK mo rcodes] 0 0
              refine sq_ok rfl [(.istore 4, 0, 0, 0), (.iinc 2 1, 0, 0, 0), (.iinc 5 1, 0, 0, 0), (.goto (-32), 0, 0, 0)] 42 _ _ _ _ _ (by decide +kernel) ?_
              show WM mX3_packSides 0 0 Post 7 18 [(0, .ref 0), (1, .ref 4), (2, .int ((kI (((off lens k + i) : Nat) : Int)) + (kI 1))), (3, vI (k : Int)), (4, vI (((ppk (fun j => (nums j).toNat) (off lens k) (i + 1)) : Nat) : Int)), (5, .int ((kI (i : Int)) + (kI 1)))] [] [ob 3 [.ref 1, .ref 2, .ref 3, vI (s : Int), vI (ah : Int), vZ ar, vI (q : Int)], cN 16 lens, cN 16 tens, cN 16 g, ob 9 [vI (mo : Int), .ref 5, .ref 6, vI (rc : Int)], cI mo nums, cK mo rcodes] 0 0
              have e5 : ((kI (((off lens k + i) : Nat) : Int)) + (kI 1)) = kI ((((off lens k + i) + 1) : Nat) : Int) := by first | (simp only [kI_add, kI_sub, kI_mul]; done) | (simp only [kI_add, kI_sub, kI_mul]; rfl)
              rw [e5]
              have e6 : ((kI (i : Int)) + (kI 1)) = kI (((i + 1) : Nat) : Int) := by first | (simp only [kI_add, kI_sub, kI_mul]; done) | (simp only [kI_add, kI_sub, kI_mul]; rfl)
              rw [e6]
              exact WM.pick [0, 1, 2, 3, 4, 5] rfl (ih18 (i + 1) (by omega) (by omega))
        exact WM.pick [0, 1, 2, 3, 4, 5] rfl (lp18 _ 0 (by omega) (Nat.lt_succ_self _))
  exact WM.pick [0, 1, 2, 3] rfl (lp4 _ 0 phr (by omega) (by funext j; simp) (Nat.lt_succ_self _))
