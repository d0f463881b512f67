/-! Rules: which go round -/
abbrev lin (LP : Nat → Nat) (le p : Nat) : Nat := lb (fun m => hld p (LP m)) le
def loa (LP PH : Nat → Nat) (le l : Nat) : Nat → Nat
  | 0 => 0
  | a + 1 => if PH (8 * l + a) = LP l then loa LP PH le l a else loa LP PH le l a ||| lin LP le (PH (8 * l + a))
theorem loa_lt (LP PH : Nat → Nat) (le l : Nat) : ∀ a, loa LP PH le l a < 2 ^ le
  | 0 => Nat.two_pow_pos _
  | a + 1 => by
    unfold loa
    split
    · exact loa_lt LP PH le l a
    · exact Nat.or_lt_two_pow (loa_lt LP PH le l a) (lb_lt _ _)
def wal (LD : Nat → Nat) (y : Nat) : Nat → (Nat → Nat)
  | 0 => LD
  | l + 1 => if wal LD y l l / 2 ^ y % 2 = 0 then wal LD y l else va_up (wal LD y l) l (wal LD y l l ||| wal LD y l y)
def war (LD : Nat → Nat) (le : Nat) : Nat → (Nat → Nat)
  | 0 => LD
  | y + 1 => wal (war LD le y) y le

set_option maxRecDepth 100000 in
set_option maxHeartbeats 1000000 in
theorem c_X4_leftsIn (LP AL : Nat → Nat) (ru le : Nat) (PH TE LD : Nat → Nat) (kn : Bool) (hle : le ≤ 60) (hO : rOK LP AL PH TE) (p : Nat) (hp : p < 4294967296) : CT mX4_leftsIn 0 0 [.ref 0, vI (p : Int)] [ob 4 [.ref 1, .ref 2, vI (ru : Int), vI (le : Int), .ref 3, .ref 4, .ref 5, vZ kn], cN 60 LP, cN 60 AL, cN 480 PH, cN 480 TE, cK 60 LD] (fun r w => r = some (vJ (lin LP le p : Nat)) ∧ w = [ob 4 [.ref 1, .ref 2, vI (ru : Int), vI (le : Int), .ref 3, .ref 4, .ref 5, vZ kn], cN 60 LP, cN 60 AL, cN 480 PH, cN 480 TE, cK 60 LD]) := by
  refine CT.intro rfl (Nat.le_of_ble_eq_true rfl) ?_
  generalize hPost : (fun r w => r = some (vJ (lin LP le p : Nat)) ∧ w = [ob 4 [.ref 1, .ref 2, vI (ru : Int), vI (le : Int), .ref 3, .ref 4, .ref 5, vZ kn], cN 60 LP, cN 60 AL, cN 480 PH, cN 480 TE, cK 60 LD] : MP) = Post
  have hPo : ∀ rr ww, (fun r w => r = some (vJ (lin LP le p : Nat)) ∧ w = [ob 4 [.ref 1, .ref 2, vI (ru : Int), vI (le : Int), .ref 3, .ref 4, .ref 5, vZ kn], cN 60 LP, cN 60 AL, cN 480 PH, cN 480 TE, cK 60 LD] : MP) rr ww → Post rr ww := by rw [← hPost]; exact fun _ _ h => h
  clear hPost
  show WM mX4_leftsIn 0 0 Post 6 0 [(0, .ref 0), (1, vI (p : Int))] [] [ob 4 [.ref 1, .ref 2, vI (ru : Int), vI (le : Int), .ref 3, .ref 4, .ref 5, vZ kn], cN 60 LP, cN 60 AL, cN 480 PH, cN 480 TE, cK 60 LD] 0 0
  refine sq_ok rfl [(.lconst 0, 0, 0, 0), (.lstore_n 2, 0, 0, 0), (.iconst 0, 0, 0, 0), (.istore 4, 0, 0, 0)] 0 _ _ _ _ _ (by decide +kernel) ?_
  show WM mX4_leftsIn 0 0 Post 6 5 [(0, .ref 0), (1, vI (p : Int)), (2, vJ 0), (4, vI 0)] [] [ob 4 [.ref 1, .ref 2, vI (ru : Int), vI (le : Int), .ref 3, .ref 4, .ref 5, vZ kn], cN 60 LP, cN 60 AL, cN 480 PH, cN 480 TE, cK 60 LD] 0 0
  have lp5 : ∀ (n5 : Nat) (m : Nat), (m ≤ le) → (le - m) < n5 → WM mX4_leftsIn 0 0 Post 6 5 [(0, .ref 0), (1, vI (p : Int)), (2, vJ (((lb (fun m => hld p (LP m)) m) : Nat) : Int)), (4, vI (m : Int))] [] [ob 4 [.ref 1, .ref 2, vI (ru : Int), vI (le : Int), .ref 3, .ref 4, .ref 5, vZ kn], cN 60 LP, cN 60 AL, cN 480 PH, cN 480 TE, cK 60 LD] 0 0 := by
    intro n5
    induction n5 with
    | zero => intro m hm hm; exact absurd hm (Nat.not_lt_zero _)
    | succ n5 ih5 =>
      intro m hm hm5
      refine sq_ok rfl [(.iload 4, 0, 0, 0), (.aload_n 0, 0, 0, 0), (.getfield 36, 4, 3, 0), (.if_icmp .ge 30, 0, 0, 0)] 5 _ _ _ _ _ (by decide +kernel) ?_
      show (kI (le : Int) ≤ kI (m : Int) → WM mX4_leftsIn 0 0 Post 6 41 [(0, .ref 0), (1, vI (p : Int)), (2, vJ (((lb (fun m => hld p (LP m)) m) : Nat) : Int)), (4, vI (m : Int))] [] [ob 4 [.ref 1, .ref 2, vI (ru : Int), vI (le : Int), .ref 3, .ref 4, .ref 5, vZ kn], cN 60 LP, cN 60 AL, cN 480 PH, cN 480 TE, cK 60 LD] 0 0) ∧ (¬ kI (le : Int) ≤ kI (m : Int) → WM mX4_leftsIn 0 0 Post 6 14 [(0, .ref 0), (1, vI (p : Int)), (2, vJ (((lb (fun m => hld p (LP m)) m) : Nat) : Int)), (4, vI (m : Int))] [] [ob 4 [.ref 1, .ref 2, vI (ru : Int), vI (le : Int), .ref 3, .ref 4, .ref 5, vZ kn], cN 60 LP, cN 60 AL, cN 480 PH, cN 480 TE, cK 60 LD] 0 0)
      refine ⟨fun c11 => ?_, fun c11 => ?_⟩
      · 
        rw [kI_le (by omega)] at c11
        refine sq_ok rfl [(.lload_n 2, 0, 0, 0), (.lreturn, 0, 0, 0)] 41 _ _ _ _ _ (by decide +kernel) ?_
        show ((0 ≤ 0 ∧ 0 ≤ 0) ∧ Post (some (vJ (((lb (fun m => hld p (LP m)) m) : Nat) : Int))) [ob 4 [.ref 1, .ref 2, vI (ru : Int), vI (le : Int), .ref 3, .ref 4, .ref 5, vZ kn], cN 60 LP, cN 60 AL, cN 480 PH, cN 480 TE, cK 60 LD])
        refine ⟨⟨Nat.le_refl _, Nat.le_refl _⟩, hPo _ _ ?_⟩
        exact ⟨by rw [show m = le by omega], rfl⟩
      · 
        rw [kI_le (by omega)] at c11
        have hb1 := p60 (show m ≤ 60 by omega) (lb_lt (fun m => hld p (LP m)) m)
        have hb2 := p60 (x := 2 ^ m) (show m + 1 ≤ 60 by omega) (Nat.pow_lt_pow_right (by omega) (by omega))
        refine sq_ok rfl [(.iload_n 1, 0, 0, 0), (.aload_n 0, 0, 0, 0), (.getfield 9, 4, 0, 0), (.iload 4, 0, 0, 0), (.iaload, 0, 0, 0)] 14 _ _ _ _ _ (by decide +kernel) ?_
        show ∃ j21 : Nat, mj 60 (kI (m : Int)) j21 ∧ WM mX4_leftsIn 0 0 Post 6 22 [(0, .ref 0), (1, vI (p : Int)), (2, vJ (((lb (fun m => hld p (LP m)) m) : Nat) : Int)), (4, vI (m : Int))] [vI ((LP j21 : Nat) : Int), vI (p : Int)] [ob 4 [.ref 1, .ref 2, vI (ru : Int), vI (le : Int), .ref 3, .ref 4, .ref 5, vZ kn], cN 60 LP, cN 60 AL, cN 480 PH, cN 480 TE, cK 60 LD] 0 0
        refine ⟨m, ⟨by omega, by omega, rfl⟩, ?_⟩
        refine wm_callS (y := mX4_leftsIn) mX4_holds [] (pc := 22) (rest := []) (mc' := 0) (ms' := 0) (by decide +kernel) kX4_111 (c_X4_holds p (LP m) hp (hO.1 m)) rfl ⟨Nat.le_of_ble_eq_true rfl, Nat.le_of_ble_eq_true rfl⟩ ⟨Nat.le_of_ble_eq_true rfl, Nat.le_of_ble_eq_true rfl⟩ (Nat.le_of_ble_eq_true rfl) rfl rfl (Nat.le_of_ble_eq_true rfl) rfl ?_
        rintro _ _ ⟨rfl, rfl⟩
        show WM mX4_leftsIn 0 0 Post 6 25 [(0, .ref 0), (1, vI (p : Int)), (2, vJ (((lb (fun m => hld p (LP m)) m) : Nat) : Int)), (4, vI (m : Int))] [vZ (hld p (LP m))] [ob 4 [.ref 1, .ref 2, vI (ru : Int), vI (le : Int), .ref 3, .ref 4, .ref 5, vZ kn], cN 60 LP, cN 60 AL, cN 480 PH, cN 480 TE, cK 60 LD] 0 0
        refine sq_ok rfl [(.ifCond .eq 10, 0, 0, 0)] 25 _ _ _ _ _ (by decide +kernel) ?_
        show ((bI (hld p (LP m))) = kI 0 → WM mX4_leftsIn 0 0 Post 6 35 [(0, .ref 0), (1, vI (p : Int)), (2, vJ (((lb (fun m => hld p (LP m)) m) : Nat) : Int)), (4, vI (m : Int))] [] [ob 4 [.ref 1, .ref 2, vI (ru : Int), vI (le : Int), .ref 3, .ref 4, .ref 5, vZ kn], cN 60 LP, cN 60 AL, cN 480 PH, cN 480 TE, cK 60 LD] 0 0) ∧ (¬ (bI (hld p (LP m))) = kI 0 → WM mX4_leftsIn 0 0 Post 6 28 [(0, .ref 0), (1, vI (p : Int)), (2, vJ (((lb (fun m => hld p (LP m)) m) : Nat) : Int)), (4, vI (m : Int))] [] [ob 4 [.ref 1, .ref 2, vI (ru : Int), vI (le : Int), .ref 3, .ref 4, .ref 5, vZ kn], cN 60 LP, cN 60 AL, cN 480 PH, cN 480 TE, cK 60 LD] 0 0)
        refine ⟨fun c25 => ?_, fun c25 => ?_⟩
        · 
          rw [bI_eq0] at c25
          have hlb : lb (fun m => hld p (LP m)) (m + 1) = lb (fun m => hld p (LP m)) m := by simp only [lb]; rw [if_neg (by rw [c25]; decide), Nat.or_zero]
          refine sq_ok rfl [(.iinc 4 1, 0, 0, 0), (.goto (-33), 0, 0, 0)] 35 _ _ _ _ _ (by decide +kernel) ?_
          show WM mX4_leftsIn 0 0 Post 6 5 [(0, .ref 0), (1, vI (p : Int)), (2, vJ (((lb (fun m => hld p (LP m)) m) : Nat) : Int)), (4, .int ((kI (m : Int)) + (kI 1)))] [] [ob 4 [.ref 1, .ref 2, vI (ru : Int), vI (le : Int), .ref 3, .ref 4, .ref 5, vZ kn], cN 60 LP, cN 60 AL, cN 480 PH, cN 480 TE, cK 60 LD] 0 0
          have e3 : ((kI (m : Int)) + (kI 1)) = kI (((m + 1) : Nat) : Int) := by first | (simp only [kI_add, kI_sub, kI_mul]; done) | (simp only [kI_add, kI_sub, kI_mul]; rfl)
          rw [e3]
          rw [← hlb]
          exact WM.pick [0, 1, 2, 3] rfl (ih5 (m + 1) (by omega) (by omega))
        · 
          rw [bI_eq0] at c25
          have hlb : lb (fun m => hld p (LP m)) (m + 1) = lb (fun m => hld p (LP m)) m ||| 2 ^ m := by simp only [lb]; rw [if_pos (by simpa using c25)]
          refine sq_ok rfl [(.lload_n 2, 0, 0, 0), (.lconst 1, 0, 0, 0), (.iload 4, 0, 0, 0), (.lshl, 0, 0, 0)] 28 _ _ _ _ _ (by decide +kernel) ?_
          show WM mX4_leftsIn 0 0 Post 6 33 [(0, .ref 0), (1, vI (p : Int)), (2, vJ (((lb (fun m => hld p (LP m)) m) : Nat) : Int)), (4, vI (m : Int))] [.long ((kL 1) <<< ((kI (m : Int)).toInt64 &&& 63)), vJ (((lb (fun m => hld p (LP m)) m) : Nat) : Int)] [ob 4 [.ref 1, .ref 2, vI (ru : Int), vI (le : Int), .ref 3, .ref 4, .ref 5, vZ kn], cN 60 LP, cN 60 AL, cN 480 PH, cN 480 TE, cK 60 LD] 0 0
          have e4 : ((kL 1) <<< ((kI (m : Int)).toInt64 &&& 63)) = kL (((2 ^ m) : Nat) : Int) := by exact kL_shl1 (by omega)
          rw [e4]
          refine sq_ok rfl [(.lor, 0, 0, 0)] 33 _ _ _ _ _ (by decide +kernel) ?_
          show WM mX4_leftsIn 0 0 Post 6 34 [(0, .ref 0), (1, vI (p : Int)), (2, vJ (((lb (fun m => hld p (LP m)) m) : Nat) : Int)), (4, vI (m : Int))] [.long ((kL (((lb (fun m => hld p (LP m)) m) : Nat) : Int)) ||| (kL (((2 ^ m) : Nat) : Int)))] [ob 4 [.ref 1, .ref 2, vI (ru : Int), vI (le : Int), .ref 3, .ref 4, .ref 5, vZ kn], cN 60 LP, cN 60 AL, cN 480 PH, cN 480 TE, cK 60 LD] 0 0
          have e5 : ((kL (((lb (fun m => hld p (LP m)) m) : Nat) : Int)) ||| (kL (((2 ^ m) : Nat) : Int))) = kL (((lb (fun m => hld p (LP m)) m ||| 2 ^ m) : Nat) : Int) := by exact kL_or (by omega) (by omega)
          rw [e5]
          refine sq_ok rfl [(.lstore_n 2, 0, 0, 0), (.iinc 4 1, 0, 0, 0), (.goto (-33), 0, 0, 0)] 34 _ _ _ _ _ (by decide +kernel) ?_
          show WM mX4_leftsIn 0 0 Post 6 5 [(0, .ref 0), (1, vI (p : Int)), (2, vJ (((lb (fun m => hld p (LP m)) m ||| 2 ^ m) : Nat) : Int)), (4, .int ((kI (m : Int)) + (kI 1)))] [] [ob 4 [.ref 1, .ref 2, vI (ru : Int), vI (le : Int), .ref 3, .ref 4, .ref 5, vZ kn], cN 60 LP, cN 60 AL, cN 480 PH, cN 480 TE, cK 60 LD] 0 0
          have e6 : ((kI (m : Int)) + (kI 1)) = kI (((m + 1) : Nat) : Int) := by first | (simp only [kI_add, kI_sub, kI_mul]; done) | (simp only [kI_add, kI_sub, kI_mul]; rfl)
          rw [e6]
          rw [← hlb]
          exact WM.pick [0, 1, 2, 3] rfl (ih5 (m + 1) (by omega) (by omega))
  exact WM.pick [0, 1, 2, 3] rfl (lp5 _ 0 (by omega) (Nat.lt_succ_self _))

set_option maxRecDepth 100000 in
set_option maxHeartbeats 1000000 in
theorem c_X4_leadsAtOnce (LP AL : Nat → Nat) (ru le : Nat) (PH TE LD : Nat → Nat) (kn : Bool) (hle : le ≤ 60) (hO : rOK LP AL PH TE) (l : Nat) (hl : l < 60) : CT mX4_leadsAtOnce 0 0 [.ref 0, vI (l : Int)] [ob 4 [.ref 1, .ref 2, vI (ru : Int), vI (le : Int), .ref 3, .ref 4, .ref 5, vZ kn], cN 60 LP, cN 60 AL, cN 480 PH, cN 480 TE, cK 60 LD] (fun r w => r = some (vJ (loa LP PH le l (AL l) : Nat)) ∧ w = [ob 4 [.ref 1, .ref 2, vI (ru : Int), vI (le : Int), .ref 3, .ref 4, .ref 5, vZ kn], cN 60 LP, cN 60 AL, cN 480 PH, cN 480 TE, cK 60 LD]) := by
  refine CT.intro rfl (Nat.le_of_ble_eq_true rfl) ?_
  generalize hPost : (fun r w => r = some (vJ (loa LP PH le l (AL l) : Nat)) ∧ w = [ob 4 [.ref 1, .ref 2, vI (ru : Int), vI (le : Int), .ref 3, .ref 4, .ref 5, vZ kn], cN 60 LP, cN 60 AL, cN 480 PH, cN 480 TE, cK 60 LD] : MP) = Post
  have hPo : ∀ rr ww, (fun r w => r = some (vJ (loa LP PH le l (AL l) : Nat)) ∧ w = [ob 4 [.ref 1, .ref 2, vI (ru : Int), vI (le : Int), .ref 3, .ref 4, .ref 5, vZ kn], cN 60 LP, cN 60 AL, cN 480 PH, cN 480 TE, cK 60 LD] : MP) rr ww → Post rr ww := by rw [← hPost]; exact fun _ _ h => h
  clear hPost
  have hal := hO.2.1 l
  show WM mX4_leadsAtOnce 0 0 Post 6 0 [(0, .ref 0), (1, vI (l : Int))] [] [ob 4 [.ref 1, .ref 2, vI (ru : Int), vI (le : Int), .ref 3, .ref 4, .ref 5, vZ kn], cN 60 LP, cN 60 AL, cN 480 PH, cN 480 TE, cK 60 LD] 0 0
  refine sq_ok rfl [(.lconst 0, 0, 0, 0), (.lstore_n 2, 0, 0, 0), (.iconst 0, 0, 0, 0), (.istore 4, 0, 0, 0)] 0 _ _ _ _ _ (by decide +kernel) ?_
  show WM mX4_leadsAtOnce 0 0 Post 6 5 [(0, .ref 0), (1, vI (l : Int)), (2, vJ 0), (4, vI 0)] [] [ob 4 [.ref 1, .ref 2, vI (ru : Int), vI (le : Int), .ref 3, .ref 4, .ref 5, vZ kn], cN 60 LP, cN 60 AL, cN 480 PH, cN 480 TE, cK 60 LD] 0 0
  have lp5 : ∀ (n5 : Nat) (a : Nat), (a ≤ AL l) → (AL l - a) < n5 → WM mX4_leadsAtOnce 0 0 Post 6 5 [(0, .ref 0), (1, vI (l : Int)), (2, vJ (((loa LP PH le l a) : Nat) : Int)), (4, vI (a : Int))] [] [ob 4 [.ref 1, .ref 2, vI (ru : Int), vI (le : Int), .ref 3, .ref 4, .ref 5, vZ kn], cN 60 LP, cN 60 AL, cN 480 PH, cN 480 TE, cK 60 LD] 0 0 := by
    intro n5
    induction n5 with
    | zero => intro a ha hm; exact absurd hm (Nat.not_lt_zero _)
    | succ n5 ih5 =>
      intro a ha hm5
      refine sq_ok rfl [(.iload 4, 0, 0, 0), (.aload_n 0, 0, 0, 0), (.getfield 15, 4, 1, 0), (.iload_n 1, 0, 0, 0), (.iaload, 0, 0, 0), (.if_icmp .ge 38, 0, 0, 0)] 5 _ _ _ _ _ (by decide +kernel) ?_
      show ∃ j12 : Nat, mj 60 (kI (l : Int)) j12 ∧ (kI ((AL j12 : Nat) : Int) ≤ kI (a : Int) → WM mX4_leadsAtOnce 0 0 Post 6 51 [(0, .ref 0), (1, vI (l : Int)), (2, vJ (((loa LP PH le l a) : Nat) : Int)), (4, vI (a : Int))] [] [ob 4 [.ref 1, .ref 2, vI (ru : Int), vI (le : Int), .ref 3, .ref 4, .ref 5, vZ kn], cN 60 LP, cN 60 AL, cN 480 PH, cN 480 TE, cK 60 LD] 0 0) ∧ (¬ kI ((AL j12 : Nat) : Int) ≤ kI (a : Int) → WM mX4_leadsAtOnce 0 0 Post 6 16 [(0, .ref 0), (1, vI (l : Int)), (2, vJ (((loa LP PH le l a) : Nat) : Int)), (4, vI (a : Int))] [] [ob 4 [.ref 1, .ref 2, vI (ru : Int), vI (le : Int), .ref 3, .ref 4, .ref 5, vZ kn], cN 60 LP, cN 60 AL, cN 480 PH, cN 480 TE, cK 60 LD] 0 0)
      refine ⟨l, ⟨by omega, by omega, rfl⟩, ?_⟩
      refine ⟨fun c13 => ?_, fun c13 => ?_⟩
      · 
        rw [kI_le (by omega)] at c13
        refine sq_ok rfl [(.lload_n 2, 0, 0, 0), (.lreturn, 0, 0, 0)] 51 _ _ _ _ _ (by decide +kernel) ?_
        show ((0 ≤ 0 ∧ 0 ≤ 0) ∧ Post (some (vJ (((loa LP PH le l a) : Nat) : Int))) [ob 4 [.ref 1, .ref 2, vI (ru : Int), vI (le : Int), .ref 3, .ref 4, .ref 5, vZ kn], cN 60 LP, cN 60 AL, cN 480 PH, cN 480 TE, cK 60 LD])
        refine ⟨⟨Nat.le_refl _, Nat.le_refl _⟩, hPo _ _ ?_⟩
        exact ⟨by rw [show a = AL l by omega], rfl⟩
      · 
        rw [kI_le (by omega)] at c13
        have hb1 := p60 hle (loa_lt LP PH le l a)
        have hb2 : lin LP le (PH (8 * l + a)) < 1152921504606846976 := p60 hle (lb_lt (fun m => hld (PH (8 * l + a)) (LP m)) le)
        refine sq_ok rfl [(.aload_n 0, 0, 0, 0), (.iload_n 1, 0, 0, 0), (.iload 4, 0, 0, 0)] 16 _ _ _ _ _ (by decide +kernel) ?_
        show WM mX4_leadsAtOnce 0 0 Post 6 20 [(0, .ref 0), (1, vI (l : Int)), (2, vJ (((loa LP PH le l a) : Nat) : Int)), (4, vI (a : Int))] [vI (a : Int), vI (l : Int), .ref 0] [ob 4 [.ref 1, .ref 2, vI (ru : Int), vI (le : Int), .ref 3, .ref 4, .ref 5, vZ kn], cN 60 LP, cN 60 AL, cN 480 PH, cN 480 TE, cK 60 LD] 0 0
        refine wm_callV (y := mX4_leadsAtOnce) mX4_alternativePhrase [0, 1, 2, 3, 4, 5] (pc := 20) (rest := []) (mc' := 0) (ms' := 0) (by decide +kernel) kX4_105 (c_X4_alternativePhrase LP AL ru le PH TE LD kn l a hl (by omega)) rfl rfl ⟨_, rfl, rfl⟩ ⟨Nat.le_of_ble_eq_true rfl, Nat.le_of_ble_eq_true rfl⟩ ⟨Nat.le_of_ble_eq_true rfl, Nat.le_of_ble_eq_true rfl⟩ (Nat.le_of_ble_eq_true rfl) rfl rfl (Nat.le_of_ble_eq_true rfl) rfl ?_
        rintro _ _ ⟨rfl, rfl⟩
        show WM mX4_leadsAtOnce 0 0 Post 6 23 [(0, .ref 0), (1, vI (l : Int)), (2, vJ (((loa LP PH le l a) : Nat) : Int)), (4, vI (a : Int))] [vI (((PH (8 * l + a)) : Nat) : Int)] [ob 4 [.ref 1, .ref 2, vI (ru : Int), vI (le : Int), .ref 3, .ref 4, .ref 5, vZ kn], cN 60 LP, cN 60 AL, cN 480 PH, cN 480 TE, cK 60 LD] 0 0
        refine sq_ok rfl [(.istore 5, 0, 0, 0), (.iload 5, 0, 0, 0), (.aload_n 0, 0, 0, 0), (.getfield 9, 4, 0, 0), (.iload_n 1, 0, 0, 0), (.iaload, 0, 0, 0), (.if_icmp .eq 12, 0, 0, 0)] 23 _ _ _ _ _ (by decide +kernel) ?_
        show ∃ j32 : Nat, mj 60 (kI (l : Int)) j32 ∧ (kI (((PH (8 * l + a)) : Nat) : Int) = kI ((LP j32 : Nat) : Int) → WM mX4_leadsAtOnce 0 0 Post 6 45 [(0, .ref 0), (1, vI (l : Int)), (2, vJ (((loa LP PH le l a) : Nat) : Int)), (4, vI (a : Int)), (5, vI (((PH (8 * l + a)) : Nat) : Int))] [] [ob 4 [.ref 1, .ref 2, vI (ru : Int), vI (le : Int), .ref 3, .ref 4, .ref 5, vZ kn], cN 60 LP, cN 60 AL, cN 480 PH, cN 480 TE, cK 60 LD] 0 0) ∧ (¬ kI (((PH (8 * l + a)) : Nat) : Int) = kI ((LP j32 : Nat) : Int) → WM mX4_leadsAtOnce 0 0 Post 6 36 [(0, .ref 0), (1, vI (l : Int)), (2, vJ (((loa LP PH le l a) : Nat) : Int)), (4, vI (a : Int)), (5, vI (((PH (8 * l + a)) : Nat) : Int))] [] [ob 4 [.ref 1, .ref 2, vI (ru : Int), vI (le : Int), .ref 3, .ref 4, .ref 5, vZ kn], cN 60 LP, cN 60 AL, cN 480 PH, cN 480 TE, cK 60 LD] 0 0)
        refine ⟨l, ⟨by omega, by omega, rfl⟩, ?_⟩
        refine ⟨fun c33 => ?_, fun c33 => ?_⟩
        · 
          rw [kI_eqU (hO.2.2.1 _) (hO.1 l)] at c33
          have hlo : loa LP PH le l (a + 1) = loa LP PH le l a := by simp only [loa]; rw [if_pos c33]
          refine sq_ok rfl [(.iinc 4 1, 0, 0, 0), (.goto (-43), 0, 0, 0)] 45 _ _ _ _ _ (by decide +kernel) ?_
          show WM mX4_leadsAtOnce 0 0 Post 6 5 [(0, .ref 0), (1, vI (l : Int)), (2, vJ (((loa LP PH le l a) : Nat) : Int)), (4, .int ((kI (a : Int)) + (kI 1))), (5, vI (((PH (8 * l + a)) : Nat) : Int))] [] [ob 4 [.ref 1, .ref 2, vI (ru : Int), vI (le : Int), .ref 3, .ref 4, .ref 5, vZ kn], cN 60 LP, cN 60 AL, cN 480 PH, cN 480 TE, cK 60 LD] 0 0
          have e3 : ((kI (a : Int)) + (kI 1)) = kI (((a + 1) : Nat) : Int) := by first | (simp only [kI_add, kI_sub, kI_mul]; done) | (simp only [kI_add, kI_sub, kI_mul]; rfl)
          rw [e3]
          rw [← hlo]
          exact WM.pick [0, 1, 2, 3] rfl (ih5 (a + 1) (by omega) (by omega))
        · 
          rw [kI_eqU (hO.2.2.1 _) (hO.1 l)] at c33
          have hlo : loa LP PH le l (a + 1) = loa LP PH le l a ||| lin LP le (PH (8 * l + a)) := by simp only [loa]; rw [if_neg c33]
          refine sq_ok rfl [(.lload_n 2, 0, 0, 0), (.aload_n 0, 0, 0, 0), (.iload 5, 0, 0, 0)] 36 _ _ _ _ _ (by decide +kernel) ?_
          show WM mX4_leadsAtOnce 0 0 Post 6 40 [(0, .ref 0), (1, vI (l : Int)), (2, vJ (((loa LP PH le l a) : Nat) : Int)), (4, vI (a : Int)), (5, vI (((PH (8 * l + a)) : Nat) : Int))] [vI (((PH (8 * l + a)) : Nat) : Int), .ref 0, vJ (((loa LP PH le l a) : Nat) : Int)] [ob 4 [.ref 1, .ref 2, vI (ru : Int), vI (le : Int), .ref 3, .ref 4, .ref 5, vZ kn], cN 60 LP, cN 60 AL, cN 480 PH, cN 480 TE, cK 60 LD] 0 0
          refine wm_callV (y := mX4_leadsAtOnce) mX4_leftsIn [0, 1, 2, 3, 4, 5] (pc := 40) (rest := [vJ (((loa LP PH le l a) : Nat) : Int)]) (mc' := 0) (ms' := 0) (by decide +kernel) kX4_108 (c_X4_leftsIn LP AL ru le PH TE LD kn hle hO (PH (8 * l + a)) (hO.2.2.1 _)) rfl rfl ⟨_, rfl, rfl⟩ ⟨Nat.le_of_ble_eq_true rfl, Nat.le_of_ble_eq_true rfl⟩ ⟨Nat.le_of_ble_eq_true rfl, Nat.le_of_ble_eq_true rfl⟩ (Nat.le_of_ble_eq_true rfl) rfl rfl (Nat.le_of_ble_eq_true rfl) rfl ?_
          rintro _ _ ⟨rfl, rfl⟩
          show WM mX4_leadsAtOnce 0 0 Post 6 43 [(0, .ref 0), (1, vI (l : Int)), (2, vJ (((loa LP PH le l a) : Nat) : Int)), (4, vI (a : Int)), (5, vI (((PH (8 * l + a)) : Nat) : Int))] [vJ (((lin LP le (PH (8 * l + a))) : Nat) : Int), vJ (((loa LP PH le l a) : Nat) : Int)] [ob 4 [.ref 1, .ref 2, vI (ru : Int), vI (le : Int), .ref 3, .ref 4, .ref 5, vZ kn], cN 60 LP, cN 60 AL, cN 480 PH, cN 480 TE, cK 60 LD] 0 0
          refine sq_ok rfl [(.lor, 0, 0, 0)] 43 _ _ _ _ _ (by decide +kernel) ?_
          show WM mX4_leadsAtOnce 0 0 Post 6 44 [(0, .ref 0), (1, vI (l : Int)), (2, vJ (((loa LP PH le l a) : Nat) : Int)), (4, vI (a : Int)), (5, vI (((PH (8 * l + a)) : Nat) : Int))] [.long ((kL (((loa LP PH le l a) : Nat) : Int)) ||| (kL (((lin LP le (PH (8 * l + a))) : Nat) : Int)))] [ob 4 [.ref 1, .ref 2, vI (ru : Int), vI (le : Int), .ref 3, .ref 4, .ref 5, vZ kn], cN 60 LP, cN 60 AL, cN 480 PH, cN 480 TE, cK 60 LD] 0 0
          have e4 : ((kL (((loa LP PH le l a) : Nat) : Int)) ||| (kL (((lin LP le (PH (8 * l + a))) : Nat) : Int))) = kL (((loa LP PH le l a ||| lin LP le (PH (8 * l + a))) : Nat) : Int) := by exact kL_or (by omega) (by omega)
          rw [e4]
          refine sq_ok rfl [(.lstore_n 2, 0, 0, 0), (.iinc 4 1, 0, 0, 0), (.goto (-43), 0, 0, 0)] 44 _ _ _ _ _ (by decide +kernel) ?_
          show WM mX4_leadsAtOnce 0 0 Post 6 5 [(0, .ref 0), (1, vI (l : Int)), (2, vJ (((loa LP PH le l a ||| lin LP le (PH (8 * l + a))) : Nat) : Int)), (4, .int ((kI (a : Int)) + (kI 1))), (5, vI (((PH (8 * l + a)) : Nat) : Int))] [] [ob 4 [.ref 1, .ref 2, vI (ru : Int), vI (le : Int), .ref 3, .ref 4, .ref 5, vZ kn], cN 60 LP, cN 60 AL, cN 480 PH, cN 480 TE, cK 60 LD] 0 0
          have e5 : ((kI (a : Int)) + (kI 1)) = kI (((a + 1) : Nat) : Int) := by first | (simp only [kI_add, kI_sub, kI_mul]; done) | (simp only [kI_add, kI_sub, kI_mul]; rfl)
          rw [e5]
          rw [← hlo]
          exact WM.pick [0, 1, 2, 3] rfl (ih5 (a + 1) (by omega) (by omega))
  exact WM.pick [0, 1, 2, 3] rfl (lp5 _ 0 (by omega) (Nat.lt_succ_self _))

set_option maxRecDepth 100000 in
set_option maxHeartbeats 1000000 in
theorem c_X4_findLeads (LP AL : Nat → Nat) (ru le : Nat) (PH TE LD : Nat → Nat) (kn : Bool) (hle : le ≤ 60) (hO : rOK LP AL PH TE) (hLD : ∀ j, LD j < 1152921504606846976) : CT mX4_findLeads 0 0 [.ref 0] [ob 4 [.ref 1, .ref 2, vI (ru : Int), vI (le : Int), .ref 3, .ref 4, .ref 5, vZ kn], cN 60 LP, cN 60 AL, cN 480 PH, cN 480 TE, cK 60 LD] (fun r w => r = none ∧ w = [ob 4 [.ref 1, .ref 2, vI (ru : Int), vI (le : Int), .ref 3, .ref 4, .ref 5, vZ true], cN 60 LP, cN 60 AL, cN 480 PH, cN 480 TE, cK 60 (war (fun q => if q < le then loa LP PH le q (AL q) else LD q) le le)]) := by
  refine CT.intro rfl (Nat.le_of_ble_eq_true rfl) ?_
  generalize hPost : (fun r w => r = none ∧ w = [ob 4 [.ref 1, .ref 2, vI (ru : Int), vI (le : Int), .ref 3, .ref 4, .ref 5, vZ true], cN 60 LP, cN 60 AL, cN 480 PH, cN 480 TE, cK 60 (war (fun q => if q < le then loa LP PH le q (AL q) else LD q) le le)] : MP) = Post
  have hPo : ∀ rr ww, (fun r w => r = none ∧ w = [ob 4 [.ref 1, .ref 2, vI (ru : Int), vI (le : Int), .ref 3, .ref 4, .ref 5, vZ true], cN 60 LP, cN 60 AL, cN 480 PH, cN 480 TE, cK 60 (war (fun q => if q < le then loa LP PH le q (AL q) else LD q) le le)] : MP) rr ww → Post rr ww := by rw [← hPost]; exact fun _ _ h => h
  clear hPost
  show WM mX4_findLeads 0 0 Post 6 0 [(0, .ref 0)] [] [ob 4 [.ref 1, .ref 2, vI (ru : Int), vI (le : Int), .ref 3, .ref 4, .ref 5, vZ kn], cN 60 LP, cN 60 AL, cN 480 PH, cN 480 TE, cK 60 LD] 0 0
  refine sq_ok rfl [(.iconst 0, 0, 0, 0), (.istore_n 1, 0, 0, 0)] 0 _ _ _ _ _ (by decide +kernel) ?_
  show WM mX4_findLeads 0 0 Post 6 2 [(0, .ref 0), (1, vI 0)] [] [ob 4 [.ref 1, .ref 2, vI (ru : Int), vI (le : Int), .ref 3, .ref 4, .ref 5, vZ kn], cN 60 LP, cN 60 AL, cN 480 PH, cN 480 TE, cK 60 LD] 0 0
  have lp2 : ∀ (n2 : Nat) (l : Nat) (g : Nat → Nat), (l ≤ le) → (g = fun q => if q < l then loa LP PH le q (AL q) else LD q) → (le - l) < n2 → WM mX4_findLeads 0 0 Post 6 2 [(0, .ref 0), (1, vI (l : Int))] [] [ob 4 [.ref 1, .ref 2, vI (ru : Int), vI (le : Int), .ref 3, .ref 4, .ref 5, vZ kn], cN 60 LP, cN 60 AL, cN 480 PH, cN 480 TE, cK 60 g] 0 0 := by
    intro n2
    induction n2 with
    | zero => intro l g hl hg hm; exact absurd hm (Nat.not_lt_zero _)
    | succ n2 ih2 =>
      intro l g hl hg hm2
      refine sq_ok rfl [(.iload_n 1, 0, 0, 0), (.aload_n 0, 0, 0, 0), (.getfield 36, 4, 3, 0), (.if_icmp .ge 20, 0, 0, 0)] 2 _ _ _ _ _ (by decide +kernel) ?_
      show (kI (le : Int) ≤ kI (l : Int) → WM mX4_findLeads 0 0 Post 6 27 [(0, .ref 0), (1, vI (l : Int))] [] [ob 4 [.ref 1, .ref 2, vI (ru : Int), vI (le : Int), .ref 3, .ref 4, .ref 5, vZ kn], cN 60 LP, cN 60 AL, cN 480 PH, cN 480 TE, cK 60 g] 0 0) ∧ (¬ kI (le : Int) ≤ kI (l : Int) → WM mX4_findLeads 0 0 Post 6 10 [(0, .ref 0), (1, vI (l : Int))] [] [ob 4 [.ref 1, .ref 2, vI (ru : Int), vI (le : Int), .ref 3, .ref 4, .ref 5, vZ kn], cN 60 LP, cN 60 AL, cN 480 PH, cN 480 TE, cK 60 g] 0 0)
      refine ⟨fun c7 => ?_, fun c7 => ?_⟩
      · 
        rw [kI_le (by omega)] at c7
        refine sq_ok rfl [(.iconst 0, 0, 0, 0), (.istore_n 1, 0, 0, 0)] 27 _ _ _ _ _ (by decide +kernel) ?_
        show WM mX4_findLeads 0 0 Post 6 29 [(0, .ref 0), (1, vI 0)] [] [ob 4 [.ref 1, .ref 2, vI (ru : Int), vI (le : Int), .ref 3, .ref 4, .ref 5, vZ kn], cN 60 LP, cN 60 AL, cN 480 PH, cN 480 TE, cK 60 g] 0 0
        have lp29 : ∀ (n29 : Nat) (y : Nat) (g : Nat → Nat), (y ≤ le) → (g = war (fun q => if q < le then loa LP PH le q (AL q) else LD q) le y) → (∀ j, g j < 1152921504606846976) → (le - y) < n29 → WM mX4_findLeads 0 0 Post 6 29 [(0, .ref 0), (1, vI (y : Int))] [] [ob 4 [.ref 1, .ref 2, vI (ru : Int), vI (le : Int), .ref 3, .ref 4, .ref 5, vZ kn], cN 60 LP, cN 60 AL, cN 480 PH, cN 480 TE, cK 60 g] 0 0 := by
          intro n29
          induction n29 with
          | zero => intro y g hy hg hb hm; exact absurd hm (Nat.not_lt_zero _)
          | succ n29 ih29 =>
            intro y g hy hg hb hm29
            refine sq_ok rfl [(.iload_n 1, 0, 0, 0), (.aload_n 0, 0, 0, 0), (.getfield 36, 4, 3, 0), (.if_icmp .ge 55, 0, 0, 0)] 29 _ _ _ _ _ (by decide +kernel) ?_
            show (kI (le : Int) ≤ kI (y : Int) → WM mX4_findLeads 0 0 Post 6 89 [(0, .ref 0), (1, vI (y : Int))] [] [ob 4 [.ref 1, .ref 2, vI (ru : Int), vI (le : Int), .ref 3, .ref 4, .ref 5, vZ kn], cN 60 LP, cN 60 AL, cN 480 PH, cN 480 TE, cK 60 g] 0 0) ∧ (¬ kI (le : Int) ≤ kI (y : Int) → WM mX4_findLeads 0 0 Post 6 37 [(0, .ref 0), (1, vI (y : Int))] [] [ob 4 [.ref 1, .ref 2, vI (ru : Int), vI (le : Int), .ref 3, .ref 4, .ref 5, vZ kn], cN 60 LP, cN 60 AL, cN 480 PH, cN 480 TE, cK 60 g] 0 0)
            refine ⟨fun c34 => ?_, fun c34 => ?_⟩
            · 
              rw [kI_le (by omega)] at c34
              refine sq_ok rfl [(.aload_n 0, 0, 0, 0), (.iconst 1, 0, 0, 0), (.putfield 39, 4, 7, 0), (.return_, 0, 0, 0)] 89 _ _ _ _ _ (by decide +kernel) ?_
              show (narrow .boolean (.int (kI 1)) = .int (kI 1) ∧ fits .boolean (.int (kI 1)) = true) ∧ ((0 ≤ 0 ∧ 0 ≤ 0) ∧ Post none [ob 4 [.ref 1, .ref 2, vI (ru : Int), vI (le : Int), .ref 3, .ref 4, .ref 5, vZ true], cN 60 LP, cN 60 AL, cN 480 PH, cN 480 TE, cK 60 g])
              refine ⟨bI_fits true, ?_⟩
              refine ⟨⟨Nat.le_refl _, Nat.le_refl _⟩, hPo _ _ ?_⟩
              exact ⟨rfl, by rw [hg, show y = le by omega]⟩
            · 
              rw [kI_le (by omega)] at c34
              refine sq_ok rfl [(.iconst 0, 0, 0, 0), (.istore_n 2, 0, 0, 0)] 37 _ _ _ _ _ (by decide +kernel) ?_
              show WM mX4_findLeads 0 0 Post 6 39 [(0, .ref 0), (1, vI (y : Int)), (2, vI 0)] [] [ob 4 [.ref 1, .ref 2, vI (ru : Int), vI (le : Int), .ref 3, .ref 4, .ref 5, vZ kn], cN 60 LP, cN 60 AL, cN 480 PH, cN 480 TE, cK 60 g] 0 0
              have lp39 : ∀ (n39 : Nat) (l : Nat) (h : Nat → Nat), (l ≤ le) → (h = wal g y l) → (∀ j, h j < 1152921504606846976) → (le - l) < n39 → WM mX4_findLeads 0 0 Post 6 39 [(0, .ref 0), (1, vI (y : Int)), (2, vI (l : Int))] [] [ob 4 [.ref 1, .ref 2, vI (ru : Int), vI (le : Int), .ref 3, .ref 4, .ref 5, vZ kn], cN 60 LP, cN 60 AL, cN 480 PH, cN 480 TE, cK 60 h] 0 0 := by
                intro n39
                induction n39 with
                | zero => intro l h hl hh hb2 hm; exact absurd hm (Nat.not_lt_zero _)
                | succ n39 ih39 =>
                  intro l h hl hh hb2 hm39
                  refine sq_ok rfl [(.iload_n 2, 0, 0, 0), (.aload_n 0, 0, 0, 0), (.getfield 36, 4, 3, 0), (.if_icmp .ge 39, 0, 0, 0)] 39 _ _ _ _ _ (by decide +kernel) ?_
                  show (kI (le : Int) ≤ kI (l : Int) → WM mX4_findLeads 0 0 Post 6 83 [(0, .ref 0), (1, vI (y : Int)), (2, vI (l : Int))] [] [ob 4 [.ref 1, .ref 2, vI (ru : Int), vI (le : Int), .ref 3, .ref 4, .ref 5, vZ kn], cN 60 LP, cN 60 AL, cN 480 PH, cN 480 TE, cK 60 h] 0 0) ∧ (¬ kI (le : Int) ≤ kI (l : Int) → WM mX4_findLeads 0 0 Post 6 47 [(0, .ref 0), (1, vI (y : Int)), (2, vI (l : Int))] [] [ob 4 [.ref 1, .ref 2, vI (ru : Int), vI (le : Int), .ref 3, .ref 4, .ref 5, vZ kn], cN 60 LP, cN 60 AL, cN 480 PH, cN 480 TE, cK 60 h] 0 0)
                  refine ⟨fun c44 => ?_, fun c44 => ?_⟩
                  · 
                    rw [kI_le (by omega)] at c44
                    refine sq_ok rfl [(.iinc 1 1, 0, 0, 0), (.goto (-57), 0, 0, 0)] 83 _ _ _ _ _ (by decide +kernel) ?_
                    show WM mX4_findLeads 0 0 Post 6 29 [(0, .ref 0), (1, .int ((kI (y : Int)) + (kI 1))), (2, vI (l : Int))] [] [ob 4 [.ref 1, .ref 2, vI (ru : Int), vI (le : Int), .ref 3, .ref 4, .ref 5, vZ kn], cN 60 LP, cN 60 AL, cN 480 PH, cN 480 TE, cK 60 h] 0 0
                    have e4 : ((kI (y : Int)) + (kI 1)) = kI (((y + 1) : Nat) : Int) := by first | (simp only [kI_add, kI_sub, kI_mul]; done) | (simp only [kI_add, kI_sub, kI_mul]; rfl)
                    rw [e4]
                    exact WM.pick [0, 1] rfl (ih29 (y + 1) h (by omega) (by rw [hh, show l = le by omega, hg]; rfl) hb2 (by omega))
                  · 
                    rw [kI_le (by omega)] at c44
                    have hhl := hb2 l
                    have hhy := hb2 y
                    have hdv : h l / 2 ^ y < 18446744073709551616 := Nat.lt_of_le_of_lt (Nat.div_le_self _ _) (by omega)
                    have hmd := Nat.mod_lt (h l / 2 ^ y) (show 0 < 2 by omega)
                    refine sq_ok rfl [(.aload_n 0, 0, 0, 0), (.getfield 24, 4, 6, 0), (.iload_n 2, 0, 0, 0), (.laload, 0, 0, 0), (.iload_n 1, 0, 0, 0), (.lushr, 0, 0, 0)] 47 _ _ _ _ _ (by decide +kernel) ?_
                    show ∃ j52 : Nat, mj 60 (kI (l : Int)) j52 ∧ WM mX4_findLeads 0 0 Post 6 55 [(0, .ref 0), (1, vI (y : Int)), (2, vI (l : Int))] [.long (((kL ((h j52 : Nat) : Int)).toUInt64 >>> ((kI (y : Int)).toInt64.toUInt64 &&& Int64.toUInt64 63)).toInt64)] [ob 4 [.ref 1, .ref 2, vI (ru : Int), vI (le : Int), .ref 3, .ref 4, .ref 5, vZ kn], cN 60 LP, cN 60 AL, cN 480 PH, cN 480 TE, cK 60 h] 0 0
                    refine ⟨l, ⟨by omega, by omega, rfl⟩, ?_⟩
                    have e5 : ((kL ((h l : Nat) : Int)).toUInt64 >>> ((kI (y : Int)).toInt64.toUInt64 &&& Int64.toUInt64 63)).toInt64 = kL (((h l / 2 ^ y) : Nat) : Int) := by exact kL_ush (by omega) (by omega)
                    rw [e5]
                    refine sq_ok rfl [(.lconst 1, 0, 0, 0), (.land, 0, 0, 0)] 55 _ _ _ _ _ (by decide +kernel) ?_
                    show WM mX4_findLeads 0 0 Post 6 57 [(0, .ref 0), (1, vI (y : Int)), (2, vI (l : Int))] [.long ((kL (((h l / 2 ^ y) : Nat) : Int)) &&& (kL 1))] [ob 4 [.ref 1, .ref 2, vI (ru : Int), vI (le : Int), .ref 3, .ref 4, .ref 5, vZ kn], cN 60 LP, cN 60 AL, cN 480 PH, cN 480 TE, cK 60 h] 0 0
                    have e6 : ((kL (((h l / 2 ^ y) : Nat) : Int)) &&& (kL 1)) = kL (((h l / 2 ^ y % 2) : Nat) : Int) := by exact kL_and1 (by omega)
                    rw [e6]
                    refine sq_ok rfl [(.lconst 0, 0, 0, 0), (.lcmp, 0, 0, 0), (.ifCond .eq 18, 0, 0, 0)] 57 _ _ _ _ _ (by decide +kernel) ?_
                    show ((lg_cmp (kL (((h l / 2 ^ y % 2) : Nat) : Int)) (kL 0)) = kI 0 → WM mX4_findLeads 0 0 Post 6 77 [(0, .ref 0), (1, vI (y : Int)), (2, vI (l : Int))] [] [ob 4 [.ref 1, .ref 2, vI (ru : Int), vI (le : Int), .ref 3, .ref 4, .ref 5, vZ kn], cN 60 LP, cN 60 AL, cN 480 PH, cN 480 TE, cK 60 h] 0 0) ∧ (¬ (lg_cmp (kL (((h l / 2 ^ y % 2) : Nat) : Int)) (kL 0)) = kI 0 → WM mX4_findLeads 0 0 Post 6 62 [(0, .ref 0), (1, vI (y : Int)), (2, vI (l : Int))] [] [ob 4 [.ref 1, .ref 2, vI (ru : Int), vI (le : Int), .ref 3, .ref 4, .ref 5, vZ kn], cN 60 LP, cN 60 AL, cN 480 PH, cN 480 TE, cK 60 h] 0 0)
                    refine ⟨fun c59 => ?_, fun c59 => ?_⟩
                    · 
                      rw [lc_eq, kL_eq (by omega)] at c59
                      have hwl : wal g y (l + 1) = h := by simp only [wal]; rw [← hh, if_pos (by omega)]
                      refine sq_ok rfl [(.iinc 2 1, 0, 0, 0), (.goto (-41), 0, 0, 0)] 77 _ _ _ _ _ (by decide +kernel) ?_
                      show WM mX4_findLeads 0 0 Post 6 39 [(0, .ref 0), (1, vI (y : Int)), (2, .int ((kI (l : Int)) + (kI 1)))] [] [ob 4 [.ref 1, .ref 2, vI (ru : Int), vI (le : Int), .ref 3, .ref 4, .ref 5, vZ kn], cN 60 LP, cN 60 AL, cN 480 PH, cN 480 TE, cK 60 h] 0 0
                      have e8 : ((kI (l : Int)) + (kI 1)) = kI (((l + 1) : Nat) : Int) := by first | (simp only [kI_add, kI_sub, kI_mul]; done) | (simp only [kI_add, kI_sub, kI_mul]; rfl)
                      rw [e8]
                      exact WM.pick [0, 1, 2] rfl (ih39 (l + 1) h (by omega) hwl.symm (by first | exact hb2 | exact up_all (P := fun x => x < 1152921504606846976) hb2 (Nat.or_lt_two_pow (n := 60) (hb2 l) (hb2 y))) (by omega))
                    · 
                      rw [lc_eq, kL_eq (by omega)] at c59
                      have hwl : wal g y (l + 1) = va_up h l (h l ||| h y) := by simp only [wal]; rw [← hh, if_neg (by omega)]
                      refine sq_ok rfl [(.aload_n 0, 0, 0, 0), (.getfield 24, 4, 6, 0), (.iload_n 2, 0, 0, 0), (.dup2, 0, 0, 0), (.laload, 0, 0, 0), (.aload_n 0, 0, 0, 0), (.getfield 24, 4, 6, 0), (.iload_n 1, 0, 0, 0), (.laload, 0, 0, 0), (.lor, 0, 0, 0)] 62 _ _ _ _ _ (by decide +kernel) ?_
                      show ∃ j68 : Nat, mj 60 (kI (l : Int)) j68 ∧ ∃ j74 : Nat, mj 60 (kI (y : Int)) j74 ∧ WM mX4_findLeads 0 0 Post 6 76 [(0, .ref 0), (1, vI (y : Int)), (2, vI (l : Int))] [.long ((kL ((h j68 : Nat) : Int)) ||| (kL ((h j74 : Nat) : Int))), vI (l : Int), .ref 5] [ob 4 [.ref 1, .ref 2, vI (ru : Int), vI (le : Int), .ref 3, .ref 4, .ref 5, vZ kn], cN 60 LP, cN 60 AL, cN 480 PH, cN 480 TE, cK 60 h] 0 0
                      refine ⟨l, ⟨by omega, by omega, rfl⟩, ?_⟩
                      refine ⟨y, ⟨by omega, by omega, rfl⟩, ?_⟩
                      have e9 : ((kL ((h l : Nat) : Int)) ||| (kL ((h y : Nat) : Int))) = kL (((h l ||| h y) : Nat) : Int) := by exact kL_or (by omega) (by omega)
                      rw [e9]
                      refine sq_ok rfl [(.lastore, 0, 0, 0)] 76 _ _ _ _ _ (by decide +kernel) ?_
                      show ∃ (j76 : Nat) (g76 : Nat → Int64), (mj 60 (kI (l : Int)) j76 ∧ g76 = vp_updL (fun q => kL ((h q : Nat) : Int)) j76 (kL (((h l ||| h y) : Nat) : Int))) ∧ WM mX4_findLeads 0 0 Post 6 77 [(0, .ref 0), (1, vI (y : Int)), (2, vI (l : Int))] [] [ob 4 [.ref 1, .ref 2, vI (ru : Int), vI (le : Int), .ref 3, .ref 4, .ref 5, vZ kn], cN 60 LP, cN 60 AL, cN 480 PH, cN 480 TE, .inl (1, 60, .inr (.inl g76))] 0 0
                      refine ⟨l, fun q => kL (((va_up h l (h l ||| h y)) q : Nat) : Int), ⟨⟨by omega, by omega, rfl⟩, st_K (rfl)⟩, ?_⟩
                      refine sq_ok rfl [(.iinc 2 1, 0, 0, 0), (.goto (-41), 0, 0, 0)] 77 _ _ _ _ _ (by decide +kernel) ?_
                      show WM mX4_findLeads 0 0 Post 6 39 [(0, .ref 0), (1, vI (y : Int)), (2, .int ((kI (l : Int)) + (kI 1)))] [] [ob 4 [.ref 1, .ref 2, vI (ru : Int), vI (le : Int), .ref 3, .ref 4, .ref 5, vZ kn], cN 60 LP, cN 60 AL, cN 480 PH, cN 480 TE, cK 60 (va_up h l (h l ||| h y))] 0 0
                      have e10 : ((kI (l : Int)) + (kI 1)) = kI (((l + 1) : Nat) : Int) := by first | (simp only [kI_add, kI_sub, kI_mul]; done) | (simp only [kI_add, kI_sub, kI_mul]; rfl)
                      rw [e10]
                      exact WM.pick [0, 1, 2] rfl (ih39 (l + 1) (va_up h l (h l ||| h y)) (by omega) hwl.symm (by first | exact hb2 | exact up_all (P := fun x => x < 1152921504606846976) hb2 (Nat.or_lt_two_pow (n := 60) (hb2 l) (hb2 y))) (by omega))
              exact WM.pick [0, 1, 2] rfl (lp39 _ 0 g (by omega) rfl hb (Nat.lt_succ_self _))
        exact WM.pick [0, 1] rfl (lp29 _ 0 g (by omega) (by rw [hg, show l = le by omega]; rfl) (by intro j; rw [hg]; show (if j < l then _ else LD j) < _; split; exact p60 hle (loa_lt LP PH le j (AL j)); exact hLD j) (Nat.lt_succ_self _))
      · 
        rw [kI_le (by omega)] at c7
        refine sq_ok rfl [(.aload_n 0, 0, 0, 0), (.getfield 24, 4, 6, 0), (.iload_n 1, 0, 0, 0), (.aload_n 0, 0, 0, 0), (.iload_n 1, 0, 0, 0)] 10 _ _ _ _ _ (by decide +kernel) ?_
        show WM mX4_findLeads 0 0 Post 6 17 [(0, .ref 0), (1, vI (l : Int))] [vI (l : Int), .ref 0, vI (l : Int), .ref 5] [ob 4 [.ref 1, .ref 2, vI (ru : Int), vI (le : Int), .ref 3, .ref 4, .ref 5, vZ kn], cN 60 LP, cN 60 AL, cN 480 PH, cN 480 TE, cK 60 g] 0 0
        refine wm_callV (y := mX4_findLeads) mX4_leadsAtOnce [0, 1, 2, 3, 4, 5] (pc := 17) (rest := [vI (l : Int), .ref 5]) (mc' := 0) (ms' := 0) (by decide +kernel) kX4_101 (c_X4_leadsAtOnce LP AL ru le PH TE g kn hle hO l (by omega)) rfl rfl ⟨_, rfl, rfl⟩ ⟨Nat.le_of_ble_eq_true rfl, Nat.le_of_ble_eq_true rfl⟩ ⟨Nat.le_of_ble_eq_true rfl, Nat.le_of_ble_eq_true rfl⟩ (Nat.le_of_ble_eq_true rfl) rfl rfl (Nat.le_of_ble_eq_true rfl) rfl ?_
        rintro _ _ ⟨rfl, rfl⟩
        show WM mX4_findLeads 0 0 Post 6 20 [(0, .ref 0), (1, vI (l : Int))] [vJ (((loa LP PH le l (AL l)) : Nat) : Int), vI (l : Int), .ref 5] [ob 4 [.ref 1, .ref 2, vI (ru : Int), vI (le : Int), .ref 3, .ref 4, .ref 5, vZ kn], cN 60 LP, cN 60 AL, cN 480 PH, cN 480 TE, cK 60 g] 0 0
        refine sq_ok rfl [(.lastore, 0, 0, 0)] 20 _ _ _ _ _ (by decide +kernel) ?_
        show ∃ (j20 : Nat) (g20 : Nat → Int64), (mj 60 (kI (l : Int)) j20 ∧ g20 = vp_updL (fun q => kL ((g q : Nat) : Int)) j20 (kL (((loa LP PH le l (AL l)) : Nat) : Int))) ∧ WM mX4_findLeads 0 0 Post 6 21 [(0, .ref 0), (1, vI (l : Int))] [] [ob 4 [.ref 1, .ref 2, vI (ru : Int), vI (le : Int), .ref 3, .ref 4, .ref 5, vZ kn], cN 60 LP, cN 60 AL, cN 480 PH, cN 480 TE, .inl (1, 60, .inr (.inl g20))] 0 0
        refine ⟨l, fun q => kL (((va_up g l (loa LP PH le l (AL l))) q : Nat) : Int), ⟨⟨by omega, by omega, rfl⟩, st_K (rfl)⟩, ?_⟩
        refine sq_ok rfl [(.iinc 1 1, 0, 0, 0), (.goto (-22), 0, 0, 0)] 21 _ _ _ _ _ (by decide +kernel) ?_
        show WM mX4_findLeads 0 0 Post 6 2 [(0, .ref 0), (1, .int ((kI (l : Int)) + (kI 1)))] [] [ob 4 [.ref 1, .ref 2, vI (ru : Int), vI (le : Int), .ref 3, .ref 4, .ref 5, vZ kn], cN 60 LP, cN 60 AL, cN 480 PH, cN 480 TE, cK 60 (va_up g l (loa LP PH le l (AL l)))] 0 0
        have e11 : ((kI (l : Int)) + (kI 1)) = kI (((l + 1) : Nat) : Int) := by first | (simp only [kI_add, kI_sub, kI_mul]; done) | (simp only [kI_add, kI_sub, kI_mul]; rfl)
        rw [e11]
        exact WM.pick [0, 1] rfl (ih2 (l + 1) (va_up g l (loa LP PH le l (AL l))) (by omega) (by subst hg; funext q; simp only [va_up]; by_cases h1 : q = l <;> by_cases h2 : q < l <;> simp [h1, h2] <;> omega) (by omega))
  exact WM.pick [0, 1] rfl (lp2 _ 0 LD (by omega) (by funext q; simp) (Nat.lt_succ_self _))

set_option maxRecDepth 100000 in
set_option maxHeartbeats 1000000 in
theorem c_X4_goesRound (LP AL : Nat → Nat) (ru le : Nat) (PH TE LD : Nat → Nat) (kn : Bool) (hle : le ≤ 60) (hO : rOK LP AL PH TE) (hLD : ∀ j, LD j < 1152921504606846976) (hW : ∀ j, war (fun q => if q < le then loa LP PH le q (AL q) else LD q) le le j < 1152921504606846976) (l : Nat) (hl : l < le) : CT mX4_goesRound 0 0 [.ref 0, vI (l : Int)] [ob 4 [.ref 1, .ref 2, vI (ru : Int), vI (le : Int), .ref 3, .ref 4, .ref 5, vZ kn], cN 60 LP, cN 60 AL, cN 480 PH, cN 480 TE, cK 60 LD] (fun r w => ∃ LD2 : Nat → Nat, LD2 = (if kn then LD else war (fun q => if q < le then loa LP PH le q (AL q) else LD q) le le) ∧ r = some (vZ (decide (¬ LD2 l / 2 ^ l % 2 = 0))) ∧ w = [ob 4 [.ref 1, .ref 2, vI (ru : Int), vI (le : Int), .ref 3, .ref 4, .ref 5, vZ true], cN 60 LP, cN 60 AL, cN 480 PH, cN 480 TE, cK 60 LD2]) := by
  refine CT.intro rfl (Nat.le_of_ble_eq_true rfl) ?_
  generalize hPost : (fun r w => ∃ LD2 : Nat → Nat, LD2 = (if kn then LD else war (fun q => if q < le then loa LP PH le q (AL q) else LD q) le le) ∧ r = some (vZ (decide (¬ LD2 l / 2 ^ l % 2 = 0))) ∧ w = [ob 4 [.ref 1, .ref 2, vI (ru : Int), vI (le : Int), .ref 3, .ref 4, .ref 5, vZ true], cN 60 LP, cN 60 AL, cN 480 PH, cN 480 TE, cK 60 LD2] : MP) = Post
  have hPo : ∀ rr ww, (fun r w => ∃ LD2 : Nat → Nat, LD2 = (if kn then LD else war (fun q => if q < le then loa LP PH le q (AL q) else LD q) le le) ∧ r = some (vZ (decide (¬ LD2 l / 2 ^ l % 2 = 0))) ∧ w = [ob 4 [.ref 1, .ref 2, vI (ru : Int), vI (le : Int), .ref 3, .ref 4, .ref 5, vZ true], cN 60 LP, cN 60 AL, cN 480 PH, cN 480 TE, cK 60 LD2] : MP) rr ww → Post rr ww := by rw [← hPost]; exact fun _ _ h => h
  clear hPost
  show WM mX4_goesRound 0 0 Post 6 0 [(0, .ref 0), (1, vI (l : Int))] [] [ob 4 [.ref 1, .ref 2, vI (ru : Int), vI (le : Int), .ref 3, .ref 4, .ref 5, vZ kn], cN 60 LP, cN 60 AL, cN 480 PH, cN 480 TE, cK 60 LD] 0 0
  refine sq_ok rfl [(.aload_n 0, 0, 0, 0), (.getfield 39, 4, 7, 0), (.ifCond .ne 7, 0, 0, 0)] 0 _ _ _ _ _ (by decide +kernel) ?_
  show (¬ (bI kn) = kI 0 → WM mX4_goesRound 0 0 Post 6 11 [(0, .ref 0), (1, vI (l : Int))] [] [ob 4 [.ref 1, .ref 2, vI (ru : Int), vI (le : Int), .ref 3, .ref 4, .ref 5, vZ kn], cN 60 LP, cN 60 AL, cN 480 PH, cN 480 TE, cK 60 LD] 0 0) ∧ ((bI kn) = kI 0 → WM mX4_goesRound 0 0 Post 6 7 [(0, .ref 0), (1, vI (l : Int))] [] [ob 4 [.ref 1, .ref 2, vI (ru : Int), vI (le : Int), .ref 3, .ref 4, .ref 5, vZ kn], cN 60 LP, cN 60 AL, cN 480 PH, cN 480 TE, cK 60 LD] 0 0)
  refine ⟨fun c4 => ?_, fun c4 => ?_⟩
  · 
    rw [bI_eq0] at c4
    have lp11 : ∀ (n11 : Nat) (g : Nat → Nat) (k2 : Bool), (k2 = true) → (g = (if kn then LD else war (fun q => if q < le then loa LP PH le q (AL q) else LD q) le le)) → (∀ j, g j < 1152921504606846976) → 0 < n11 → WM mX4_goesRound 0 0 Post 6 11 [(0, .ref 0), (1, vI (l : Int))] [] [ob 4 [.ref 1, .ref 2, vI (ru : Int), vI (le : Int), .ref 3, .ref 4, .ref 5, vZ k2], cN 60 LP, cN 60 AL, cN 480 PH, cN 480 TE, cK 60 g] 0 0 := by
      intro n11
      induction n11 with
      | zero => intro g k2 hk2 hg hgb hm; exact absurd hm (Nat.not_lt_zero _)
      | succ n11 ih11 =>
        intro g k2 hk2 hg hgb hm11
        have hgl := hgb l
        have hdv : g l / 2 ^ l < 18446744073709551616 := Nat.lt_of_le_of_lt (Nat.div_le_self _ _) (by omega)
        have hmd := Nat.mod_lt (g l / 2 ^ l) (show 0 < 2 by omega)
        refine sq_ok rfl [(.aload_n 0, 0, 0, 0), (.getfield 24, 4, 6, 0), (.iload_n 1, 0, 0, 0), (.laload, 0, 0, 0), (.iload_n 1, 0, 0, 0), (.lushr, 0, 0, 0)] 11 _ _ _ _ _ (by decide +kernel) ?_
        show ∃ j16 : Nat, mj 60 (kI (l : Int)) j16 ∧ WM mX4_goesRound 0 0 Post 6 19 [(0, .ref 0), (1, vI (l : Int))] [.long (((kL ((g j16 : Nat) : Int)).toUInt64 >>> ((kI (l : Int)).toInt64.toUInt64 &&& Int64.toUInt64 63)).toInt64)] [ob 4 [.ref 1, .ref 2, vI (ru : Int), vI (le : Int), .ref 3, .ref 4, .ref 5, vZ k2], cN 60 LP, cN 60 AL, cN 480 PH, cN 480 TE, cK 60 g] 0 0
        refine ⟨l, ⟨by omega, by omega, rfl⟩, ?_⟩
        have e2 : ((kL ((g l : Nat) : Int)).toUInt64 >>> ((kI (l : Int)).toInt64.toUInt64 &&& Int64.toUInt64 63)).toInt64 = kL (((g l / 2 ^ l) : Nat) : Int) := by exact kL_ush (by omega) (by omega)
        rw [e2]
        refine sq_ok rfl [(.lconst 1, 0, 0, 0), (.land, 0, 0, 0)] 19 _ _ _ _ _ (by decide +kernel) ?_
        show WM mX4_goesRound 0 0 Post 6 21 [(0, .ref 0), (1, vI (l : Int))] [.long ((kL (((g l / 2 ^ l) : Nat) : Int)) &&& (kL 1))] [ob 4 [.ref 1, .ref 2, vI (ru : Int), vI (le : Int), .ref 3, .ref 4, .ref 5, vZ k2], cN 60 LP, cN 60 AL, cN 480 PH, cN 480 TE, cK 60 g] 0 0
        have e3 : ((kL (((g l / 2 ^ l) : Nat) : Int)) &&& (kL 1)) = kL (((g l / 2 ^ l % 2) : Nat) : Int) := by exact kL_and1 (by omega)
        rw [e3]
        refine sq_ok rfl [(.lconst 0, 0, 0, 0), (.lcmp, 0, 0, 0), (.ifCond .eq 7, 0, 0, 0)] 21 _ _ _ _ _ (by decide +kernel) ?_
        show ((lg_cmp (kL (((g l / 2 ^ l % 2) : Nat) : Int)) (kL 0)) = kI 0 → WM mX4_goesRound 0 0 Post 6 30 [(0, .ref 0), (1, vI (l : Int))] [] [ob 4 [.ref 1, .ref 2, vI (ru : Int), vI (le : Int), .ref 3, .ref 4, .ref 5, vZ k2], cN 60 LP, cN 60 AL, cN 480 PH, cN 480 TE, cK 60 g] 0 0) ∧ (¬ (lg_cmp (kL (((g l / 2 ^ l % 2) : Nat) : Int)) (kL 0)) = kI 0 → WM mX4_goesRound 0 0 Post 6 26 [(0, .ref 0), (1, vI (l : Int))] [] [ob 4 [.ref 1, .ref 2, vI (ru : Int), vI (le : Int), .ref 3, .ref 4, .ref 5, vZ k2], cN 60 LP, cN 60 AL, cN 480 PH, cN 480 TE, cK 60 g] 0 0)
        refine ⟨fun c23 => ?_, fun c23 => ?_⟩
        · 
          rw [lc_eq, kL_eq (by omega)] at c23
          refine sq_ok rfl [(.iconst 0, 0, 0, 0), (.ireturn, 0, 0, 0)] 30 _ _ _ _ _ (by decide +kernel) ?_
          show narrow .boolean (.int (kI 0)) = .int (kI 0) ∧ ((0 ≤ 0 ∧ 0 ≤ 0) ∧ Post (some (vI 0)) [ob 4 [.ref 1, .ref 2, vI (ru : Int), vI (le : Int), .ref 3, .ref 4, .ref 5, vZ k2], cN 60 LP, cN 60 AL, cN 480 PH, cN 480 TE, cK 60 g])
          refine ⟨(bI_fits false).1, ?_⟩
          refine ⟨⟨Nat.le_refl _, Nat.le_refl _⟩, hPo _ _ ?_⟩
          first
          | exact ⟨g, hg, by rw [decide_eq_true (show ¬ g l / 2 ^ l % 2 = 0 by omega)]; rfl, by rw [hk2]⟩
          | exact ⟨g, hg, by rw [decide_eq_false (show ¬ ¬ g l / 2 ^ l % 2 = 0 by omega)]; rfl, by rw [hk2]⟩
        · 
          rw [lc_eq, kL_eq (by omega)] at c23
          refine sq_ok rfl [(.iconst 1, 0, 0, 0), (.goto 4, 0, 0, 0)] 26 _ _ _ _ _ (by decide +kernel) ?_
          show WM mX4_goesRound 0 0 Post 6 31 [(0, .ref 0), (1, vI (l : Int))] [vI 1] [ob 4 [.ref 1, .ref 2, vI (ru : Int), vI (le : Int), .ref 3, .ref 4, .ref 5, vZ k2], cN 60 LP, cN 60 AL, cN 480 PH, cN 480 TE, cK 60 g] 0 0
          refine sq_ok rfl [(.ireturn, 0, 0, 0)] 31 _ _ _ _ _ (by decide +kernel) ?_
          show narrow .boolean (.int (kI 1)) = .int (kI 1) ∧ ((0 ≤ 0 ∧ 0 ≤ 0) ∧ Post (some (vI 1)) [ob 4 [.ref 1, .ref 2, vI (ru : Int), vI (le : Int), .ref 3, .ref 4, .ref 5, vZ k2], cN 60 LP, cN 60 AL, cN 480 PH, cN 480 TE, cK 60 g])
          refine ⟨(bI_fits true).1, ?_⟩
          refine ⟨⟨Nat.le_refl _, Nat.le_refl _⟩, hPo _ _ ?_⟩
          first
          | exact ⟨g, hg, by rw [decide_eq_true (show ¬ g l / 2 ^ l % 2 = 0 by omega)]; rfl, by rw [hk2]⟩
          | exact ⟨g, hg, by rw [decide_eq_false (show ¬ ¬ g l / 2 ^ l % 2 = 0 by omega)]; rfl, by rw [hk2]⟩
    exact WM.pick [0, 1] rfl (lp11 _ LD kn (by simpa using c4) (by rw [if_pos (by simpa using c4)]) hLD (Nat.lt_succ_self _))
  · 
    rw [bI_eq0] at c4
    refine sq_ok rfl [(.aload_n 0, 0, 0, 0)] 7 _ _ _ _ _ (by decide +kernel) ?_
    show WM mX4_goesRound 0 0 Post 6 8 [(0, .ref 0), (1, vI (l : Int))] [.ref 0] [ob 4 [.ref 1, .ref 2, vI (ru : Int), vI (le : Int), .ref 3, .ref 4, .ref 5, vZ kn], cN 60 LP, cN 60 AL, cN 480 PH, cN 480 TE, cK 60 LD] 0 0
    refine wm_callV (y := mX4_goesRound) mX4_findLeads [0, 1, 2, 3, 4, 5] (pc := 8) (rest := []) (mc' := 0) (ms' := 0) (by decide +kernel) kX4_98 (c_X4_findLeads LP AL ru le PH TE LD kn hle hO hLD) rfl rfl ⟨_, rfl, rfl⟩ ⟨Nat.le_of_ble_eq_true rfl, Nat.le_of_ble_eq_true rfl⟩ ⟨Nat.le_of_ble_eq_true rfl, Nat.le_of_ble_eq_true rfl⟩ (Nat.le_of_ble_eq_true rfl) rfl rfl (Nat.le_of_ble_eq_true rfl) rfl ?_
    rintro _ _ ⟨rfl, rfl⟩
    show WM mX4_goesRound 0 0 Post 6 11 [(0, .ref 0), (1, vI (l : Int))] [] [ob 4 [.ref 1, .ref 2, vI (ru : Int), vI (le : Int), .ref 3, .ref 4, .ref 5, vZ true], cN 60 LP, cN 60 AL, cN 480 PH, cN 480 TE, cK 60 (war (fun q => if q < le then loa LP PH le q (AL q) else LD q) le le)] 0 0
    have lp11 : ∀ (n11 : Nat) (g : Nat → Nat) (k2 : Bool), (k2 = true) → (g = (if kn then LD else war (fun q => if q < le then loa LP PH le q (AL q) else LD q) le le)) → (∀ j, g j < 1152921504606846976) → 0 < n11 → WM mX4_goesRound 0 0 Post 6 11 [(0, .ref 0), (1, vI (l : Int))] [] [ob 4 [.ref 1, .ref 2, vI (ru : Int), vI (le : Int), .ref 3, .ref 4, .ref 5, vZ k2], cN 60 LP, cN 60 AL, cN 480 PH, cN 480 TE, cK 60 g] 0 0 := by
      intro n11
      induction n11 with
      | zero => intro g k2 hk2 hg hgb hm; exact absurd hm (Nat.not_lt_zero _)
      | succ n11 ih11 =>
        intro g k2 hk2 hg hgb hm11
        have hgl := hgb l
        have hdv : g l / 2 ^ l < 18446744073709551616 := Nat.lt_of_le_of_lt (Nat.div_le_self _ _) (by omega)
        have hmd := Nat.mod_lt (g l / 2 ^ l) (show 0 < 2 by omega)
        refine sq_ok rfl [(.aload_n 0, 0, 0, 0), (.getfield 24, 4, 6, 0), (.iload_n 1, 0, 0, 0), (.laload, 0, 0, 0), (.iload_n 1, 0, 0, 0), (.lushr, 0, 0, 0)] 11 _ _ _ _ _ (by decide +kernel) ?_
        show ∃ j16 : Nat, mj 60 (kI (l : Int)) j16 ∧ WM mX4_goesRound 0 0 Post 6 19 [(0, .ref 0), (1, vI (l : Int))] [.long (((kL ((g j16 : Nat) : Int)).toUInt64 >>> ((kI (l : Int)).toInt64.toUInt64 &&& Int64.toUInt64 63)).toInt64)] [ob 4 [.ref 1, .ref 2, vI (ru : Int), vI (le : Int), .ref 3, .ref 4, .ref 5, vZ k2], cN 60 LP, cN 60 AL, cN 480 PH, cN 480 TE, cK 60 g] 0 0
        refine ⟨l, ⟨by omega, by omega, rfl⟩, ?_⟩
        have e5 : ((kL ((g l : Nat) : Int)).toUInt64 >>> ((kI (l : Int)).toInt64.toUInt64 &&& Int64.toUInt64 63)).toInt64 = kL (((g l / 2 ^ l) : Nat) : Int) := by exact kL_ush (by omega) (by omega)
        rw [e5]
        refine sq_ok rfl [(.lconst 1, 0, 0, 0), (.land, 0, 0, 0)] 19 _ _ _ _ _ (by decide +kernel) ?_
        show WM mX4_goesRound 0 0 Post 6 21 [(0, .ref 0), (1, vI (l : Int))] [.long ((kL (((g l / 2 ^ l) : Nat) : Int)) &&& (kL 1))] [ob 4 [.ref 1, .ref 2, vI (ru : Int), vI (le : Int), .ref 3, .ref 4, .ref 5, vZ k2], cN 60 LP, cN 60 AL, cN 480 PH, cN 480 TE, cK 60 g] 0 0
        have e6 : ((kL (((g l / 2 ^ l) : Nat) : Int)) &&& (kL 1)) = kL (((g l / 2 ^ l % 2) : Nat) : Int) := by exact kL_and1 (by omega)
        rw [e6]
        refine sq_ok rfl [(.lconst 0, 0, 0, 0), (.lcmp, 0, 0, 0), (.ifCond .eq 7, 0, 0, 0)] 21 _ _ _ _ _ (by decide +kernel) ?_
        show ((lg_cmp (kL (((g l / 2 ^ l % 2) : Nat) : Int)) (kL 0)) = kI 0 → WM mX4_goesRound 0 0 Post 6 30 [(0, .ref 0), (1, vI (l : Int))] [] [ob 4 [.ref 1, .ref 2, vI (ru : Int), vI (le : Int), .ref 3, .ref 4, .ref 5, vZ k2], cN 60 LP, cN 60 AL, cN 480 PH, cN 480 TE, cK 60 g] 0 0) ∧ (¬ (lg_cmp (kL (((g l / 2 ^ l % 2) : Nat) : Int)) (kL 0)) = kI 0 → WM mX4_goesRound 0 0 Post 6 26 [(0, .ref 0), (1, vI (l : Int))] [] [ob 4 [.ref 1, .ref 2, vI (ru : Int), vI (le : Int), .ref 3, .ref 4, .ref 5, vZ k2], cN 60 LP, cN 60 AL, cN 480 PH, cN 480 TE, cK 60 g] 0 0)
        refine ⟨fun c23 => ?_, fun c23 => ?_⟩
        · 
          rw [lc_eq, kL_eq (by omega)] at c23
          refine sq_ok rfl [(.iconst 0, 0, 0, 0), (.ireturn, 0, 0, 0)] 30 _ _ _ _ _ (by decide +kernel) ?_
          show narrow .boolean (.int (kI 0)) = .int (kI 0) ∧ ((0 ≤ 0 ∧ 0 ≤ 0) ∧ Post (some (vI 0)) [ob 4 [.ref 1, .ref 2, vI (ru : Int), vI (le : Int), .ref 3, .ref 4, .ref 5, vZ k2], cN 60 LP, cN 60 AL, cN 480 PH, cN 480 TE, cK 60 g])
          refine ⟨(bI_fits false).1, ?_⟩
          refine ⟨⟨Nat.le_refl _, Nat.le_refl _⟩, hPo _ _ ?_⟩
          first
          | exact ⟨g, hg, by rw [decide_eq_true (show ¬ g l / 2 ^ l % 2 = 0 by omega)]; rfl, by rw [hk2]⟩
          | exact ⟨g, hg, by rw [decide_eq_false (show ¬ ¬ g l / 2 ^ l % 2 = 0 by omega)]; rfl, by rw [hk2]⟩
        · 
          rw [lc_eq, kL_eq (by omega)] at c23
          refine sq_ok rfl [(.iconst 1, 0, 0, 0), (.goto 4, 0, 0, 0)] 26 _ _ _ _ _ (by decide +kernel) ?_
          show WM mX4_goesRound 0 0 Post 6 31 [(0, .ref 0), (1, vI (l : Int))] [vI 1] [ob 4 [.ref 1, .ref 2, vI (ru : Int), vI (le : Int), .ref 3, .ref 4, .ref 5, vZ k2], cN 60 LP, cN 60 AL, cN 480 PH, cN 480 TE, cK 60 g] 0 0
          refine sq_ok rfl [(.ireturn, 0, 0, 0)] 31 _ _ _ _ _ (by decide +kernel) ?_
          show narrow .boolean (.int (kI 1)) = .int (kI 1) ∧ ((0 ≤ 0 ∧ 0 ≤ 0) ∧ Post (some (vI 1)) [ob 4 [.ref 1, .ref 2, vI (ru : Int), vI (le : Int), .ref 3, .ref 4, .ref 5, vZ k2], cN 60 LP, cN 60 AL, cN 480 PH, cN 480 TE, cK 60 g])
          refine ⟨(bI_fits true).1, ?_⟩
          refine ⟨⟨Nat.le_refl _, Nat.le_refl _⟩, hPo _ _ ?_⟩
          first
          | exact ⟨g, hg, by rw [decide_eq_true (show ¬ g l / 2 ^ l % 2 = 0 by omega)]; rfl, by rw [hk2]⟩
          | exact ⟨g, hg, by rw [decide_eq_false (show ¬ ¬ g l / 2 ^ l % 2 = 0 by omega)]; rfl, by rw [hk2]⟩
    exact WM.pick [0, 1] rfl (lp11 _ (war (fun q => if q < le then loa LP PH le q (AL q) else LD q) le le) true rfl (by rw [if_neg (by rw [c4]; decide)]) hW (Nat.lt_succ_self _))
