/-! Rules: addLefts, addErasers, addRule -/
theorem fnd_rabs {LP AL PH TE : Nat → Nat} {le p : Nat} : fnd (fun k => ((rabs LP AL PH TE le)[k]?).map Prod.fst == some p) (rabs LP AL PH TE le).length = fnd (fun k => LP k == p) le := by
  rw [lst_len]
  refine fnd_congr fun j hj => ?_
  rw [lst_get _ hj]
  by_cases h : LP j = p <;> simp [h]
theorem mTake_hit {LP AL PH TE : Nat → Nat} {le p k : Nat} (h : fnd (fun k => LP k == p) le = some k) : mTake (rabs LP AL PH TE le) p = some (rabs LP AL PH TE le, k) := by
  unfold mTake
  rw [fnd_rabs, h]
theorem mTake_new {LP AL PH TE : Nat → Nat} {le p : Nat} (h : fnd (fun k => LP k == p) le = none) (hl : le < 60) : mTake (rabs LP AL PH TE le) p = some (rabs (va_up LP le p) (va_up AL le 0) PH TE (le + 1), le) := by
  unfold mTake
  rw [fnd_rabs, h]
  simp only [lst_len]
  rw [if_pos hl]
  unfold rabs
  rw [lst_succ]
  congr 3
  · refine lst_ext fun j hj => ?_
    rw [up_ne _ _ (by omega), up_ne _ _ (by omega)]
  · rw [up_eq, up_eq]
    rfl
theorem mTake_full {LP AL PH TE : Nat → Nat} {le p : Nat} (h : fnd (fun k => LP k == p) le = none) (hl : ¬ le < 60) : mTake (rabs LP AL PH TE le) p = none := by
  unfold mTake
  rw [fnd_rabs, h]
  simp only [lst_len]
  rw [if_neg hl]
theorem drop_lst_ge {α : Type} (f : Nat → α) {n k : Nat} (h : n ≤ k) : (lst f n).drop k = [] := List.drop_eq_nil_of_le (by rw [lst_len]; exact h)
theorem mLefts_cons {X X2 : Rl} {p l : Nat} {ps : List Nat} {A : List (Nat × Nat)} (h : mTake X p = some (X2, l)) : mLefts X (p :: ps) A = (mAlts X2 l A).bind (fun X => mLefts X ps A) := by
  simp only [mLefts, h, Option.bind_some]
theorem mLefts_full {X : Rl} {p : Nat} {ps : List Nat} {A : List (Nat × Nat)} (h : mTake X p = none) : mLefts X (p :: ps) A = none := by
  simp only [mLefts, h, Option.bind_none]
theorem mAlts_cons {X X2 : Rl} {l : Nat} {x : Nat × Nat} {xs : List (Nat × Nat)} (h : mAlt X l x.1 x.2 = some X2) : mAlts X l (x :: xs) = mAlts X2 l xs := by
  simp only [mAlts, h, Option.bind_some]
theorem mAlts_full {X : Rl} {l : Nat} {x : Nat × Nat} {xs : List (Nat × Nat)} (h : mAlt X l x.1 x.2 = none) : mAlts X l (x :: xs) = none := by
  simp only [mAlts, h, Option.bind_none]
theorem rOK_new {LP AL PH TE : Nat → Nat} {le p : Nat} (h : rOK LP AL PH TE) (hp : p < 4294967296) : rOK (va_up LP le p) (va_up AL le 0) PH TE :=
  ⟨up_all (P := fun x => x < 4294967296) h.1 hp, up_all (P := fun x => x ≤ 8) h.2.1 (by omega), h.2.2⟩
abbrev sdA (phr tens : Nat → Nat) (n : Nat) : List (Nat × Nat) := lst (fun j => (phr j, tens j)) n

set_option maxRecDepth 100000 in
set_option maxHeartbeats 500000 in
theorem c_X4_addLefts (LP AL : Nat → Nat) (ru le : Nat) (PH TE LD : Nat → Nat) (kn : Bool) (hle : le ≤ 60) (hO : rOK LP AL PH TE) (lens tens phr : Nat → Nat) (s ah : Nat) (ar : Bool) (q : Nat) (hphr : ∀ j, j < s → phr j < 4294967296) (htens : ∀ j, j < s → tens j ≤ 10) (f e f2 e2 : Nat) (hs : s ≤ 16) (he : e ≤ s) (he2 : e2 ≤ s) (hf : f ≤ 16) (hf2 : f2 ≤ 16) : CT mX4_addLefts 0 0 [.ref 0, .ref 6, vI (f : Int), vI (e : Int), vI (f2 : Int), vI (e2 : Int)] [ob 4 [.ref 1, .ref 2, vI (ru : Int), vI (le : Int), .ref 3, .ref 4, .ref 5, vZ kn], cN 60 LP, cN 60 AL, cN 480 PH, cN 480 TE, cK 60 LD, ob 3 [.ref 7, .ref 8, .ref 9, vI (s : Int), vI (ah : Int), vZ ar, vI (q : Int)], cN 16 lens, cN 16 tens, cN 16 phr] (fun r w => ∃ (LP2 AL2 PH2 TE2 : Nat → Nat) (le2 : Nat) (b : Bool), r = some (vZ b) ∧ w = [ob 4 [.ref 1, .ref 2, vI (ru : Int), vI (le2 : Int), .ref 3, .ref 4, .ref 5, vZ kn], cN 60 LP2, cN 60 AL2, cN 480 PH2, cN 480 TE2, cK 60 LD, ob 3 [.ref 7, .ref 8, .ref 9, vI (s : Int), vI (ah : Int), vZ ar, vI (q : Int)], cN 16 lens, cN 16 tens, cN 16 phr] ∧ if b then mLefts (rabs LP AL PH TE le) ((lst phr e).drop f) ((sdA phr tens e2).drop f2) = some (rabs LP2 AL2 PH2 TE2 le2) ∧ rOK LP2 AL2 PH2 TE2 ∧ le2 ≤ 60 else (mLefts (rabs LP AL PH TE le) ((lst phr e).drop f) ((sdA phr tens e2).drop f2) = none ∧ rOK LP2 AL2 PH2 TE2)) := by
  refine CT.intro rfl (Nat.le_of_ble_eq_true rfl) ?_
  generalize hPost : (fun r w => ∃ (LP2 AL2 PH2 TE2 : Nat → Nat) (le2 : Nat) (b : Bool), r = some (vZ b) ∧ w = [ob 4 [.ref 1, .ref 2, vI (ru : Int), vI (le2 : Int), .ref 3, .ref 4, .ref 5, vZ kn], cN 60 LP2, cN 60 AL2, cN 480 PH2, cN 480 TE2, cK 60 LD, ob 3 [.ref 7, .ref 8, .ref 9, vI (s : Int), vI (ah : Int), vZ ar, vI (q : Int)], cN 16 lens, cN 16 tens, cN 16 phr] ∧ if b then mLefts (rabs LP AL PH TE le) ((lst phr e).drop f) ((sdA phr tens e2).drop f2) = some (rabs LP2 AL2 PH2 TE2 le2) ∧ rOK LP2 AL2 PH2 TE2 ∧ le2 ≤ 60 else (mLefts (rabs LP AL PH TE le) ((lst phr e).drop f) ((sdA phr tens e2).drop f2) = none ∧ rOK LP2 AL2 PH2 TE2) : MP) = Post
  have hPo : ∀ rr ww, (fun r w => ∃ (LP2 AL2 PH2 TE2 : Nat → Nat) (le2 : Nat) (b : Bool), r = some (vZ b) ∧ w = [ob 4 [.ref 1, .ref 2, vI (ru : Int), vI (le2 : Int), .ref 3, .ref 4, .ref 5, vZ kn], cN 60 LP2, cN 60 AL2, cN 480 PH2, cN 480 TE2, cK 60 LD, ob 3 [.ref 7, .ref 8, .ref 9, vI (s : Int), vI (ah : Int), vZ ar, vI (q : Int)], cN 16 lens, cN 16 tens, cN 16 phr] ∧ if b then mLefts (rabs LP AL PH TE le) ((lst phr e).drop f) ((sdA phr tens e2).drop f2) = some (rabs LP2 AL2 PH2 TE2 le2) ∧ rOK LP2 AL2 PH2 TE2 ∧ le2 ≤ 60 else (mLefts (rabs LP AL PH TE le) ((lst phr e).drop f) ((sdA phr tens e2).drop f2) = none ∧ rOK LP2 AL2 PH2 TE2) : MP) rr ww → Post rr ww := by rw [← hPost]; exact fun _ _ h => h
  clear hPost
  show WM mX4_addLefts 0 0 Post 10 0 [(0, .ref 0), (1, .ref 6), (2, vI (f : Int)), (3, vI (e : Int)), (4, vI (f2 : Int)), (5, vI (e2 : Int))] [] [ob 4 [.ref 1, .ref 2, vI (ru : Int), vI (le : Int), .ref 3, .ref 4, .ref 5, vZ kn], cN 60 LP, cN 60 AL, cN 480 PH, cN 480 TE, cK 60 LD, ob 3 [.ref 7, .ref 8, .ref 9, vI (s : Int), vI (ah : Int), vZ ar, vI (q : Int)], cN 16 lens, cN 16 tens, cN 16 phr] 0 0
  refine sq_ok rfl [(.iload_n 2, 0, 0, 0), (.istore 6, 0, 0, 0)] 0 _ _ _ _ _ (by decide +kernel) ?_
  show WM mX4_addLefts 0 0 Post 10 3 [(0, .ref 0), (1, .ref 6), (2, vI (f : Int)), (3, vI (e : Int)), (4, vI (f2 : Int)), (5, vI (e2 : Int)), (6, vI (f : Int))] [] [ob 4 [.ref 1, .ref 2, vI (ru : Int), vI (le : Int), .ref 3, .ref 4, .ref 5, vZ kn], cN 60 LP, cN 60 AL, cN 480 PH, cN 480 TE, cK 60 LD, ob 3 [.ref 7, .ref 8, .ref 9, vI (s : Int), vI (ah : Int), vZ ar, vI (q : Int)], cN 16 lens, cN 16 tens, cN 16 phr] 0 0
  have lp3 : ∀ (n3 : Nat) (k : Nat) (LP1 : Nat → Nat) (AL1 : Nat → Nat) (le1 : Nat) (PH1 : Nat → Nat) (TE1 : Nat → Nat), (k ≤ 16) → (rOK LP1 AL1 PH1 TE1) → (le1 ≤ 60) → (mLefts (rabs LP AL PH TE le) ((lst phr e).drop f) ((sdA phr tens e2).drop f2) = mLefts (rabs LP1 AL1 PH1 TE1 le1) ((lst phr e).drop k) ((sdA phr tens e2).drop f2)) → (17 - k) < n3 → WM mX4_addLefts 0 0 Post 10 3 [(0, .ref 0), (1, .ref 6), (3, vI (e : Int)), (4, vI (f2 : Int)), (5, vI (e2 : Int)), (6, vI (k : Int))] [] [ob 4 [.ref 1, .ref 2, vI (ru : Int), vI (le1 : Int), .ref 3, .ref 4, .ref 5, vZ kn], cN 60 LP1, cN 60 AL1, cN 480 PH1, cN 480 TE1, cK 60 LD, ob 3 [.ref 7, .ref 8, .ref 9, vI (s : Int), vI (ah : Int), vZ ar, vI (q : Int)], cN 16 lens, cN 16 tens, cN 16 phr] 0 0 := by
    intro n3
    induction n3 with
    | zero => intro k LP1 AL1 le1 PH1 TE1 hk hO1 hl1 hq hm; exact absurd hm (Nat.not_lt_zero _)
    | succ n3 ih3 =>
      intro k LP1 AL1 le1 PH1 TE1 hk hO1 hl1 hq hm3
      refine sq_ok rfl [(.iload 6, 0, 0, 0), (.iload_n 3, 0, 0, 0), (.if_icmp .ge 71, 0, 0, 0)] 3 _ _ _ _ _ (by decide +kernel) ?_
      show (kI (e : Int) ≤ kI (k : Int) → WM mX4_addLefts 0 0 Post 10 77 [(0, .ref 0), (1, .ref 6), (3, vI (e : Int)), (4, vI (f2 : Int)), (5, vI (e2 : Int)), (6, vI (k : Int))] [] [ob 4 [.ref 1, .ref 2, vI (ru : Int), vI (le1 : Int), .ref 3, .ref 4, .ref 5, vZ kn], cN 60 LP1, cN 60 AL1, cN 480 PH1, cN 480 TE1, cK 60 LD, ob 3 [.ref 7, .ref 8, .ref 9, vI (s : Int), vI (ah : Int), vZ ar, vI (q : Int)], cN 16 lens, cN 16 tens, cN 16 phr] 0 0) ∧ (¬ kI (e : Int) ≤ kI (k : Int) → WM mX4_addLefts 0 0 Post 10 9 [(0, .ref 0), (1, .ref 6), (3, vI (e : Int)), (4, vI (f2 : Int)), (5, vI (e2 : Int)), (6, vI (k : Int))] [] [ob 4 [.ref 1, .ref 2, vI (ru : Int), vI (le1 : Int), .ref 3, .ref 4, .ref 5, vZ kn], cN 60 LP1, cN 60 AL1, cN 480 PH1, cN 480 TE1, cK 60 LD, ob 3 [.ref 7, .ref 8, .ref 9, vI (s : Int), vI (ah : Int), vZ ar, vI (q : Int)], cN 16 lens, cN 16 tens, cN 16 phr] 0 0)
      refine ⟨fun c6 => ?_, fun c6 => ?_⟩
      · 
        rw [kI_le (by omega)] at c6
        refine sq_ok rfl [(.iconst 1, 0, 0, 0), (.ireturn, 0, 0, 0)] 77 _ _ _ _ _ (by decide +kernel) ?_
        show narrow .boolean (.int (kI 1)) = .int (kI 1) ∧ ((0 ≤ 0 ∧ 0 ≤ 0) ∧ Post (some (vI 1)) [ob 4 [.ref 1, .ref 2, vI (ru : Int), vI (le1 : Int), .ref 3, .ref 4, .ref 5, vZ kn], cN 60 LP1, cN 60 AL1, cN 480 PH1, cN 480 TE1, cK 60 LD, ob 3 [.ref 7, .ref 8, .ref 9, vI (s : Int), vI (ah : Int), vZ ar, vI (q : Int)], cN 16 lens, cN 16 tens, cN 16 phr])
        refine ⟨(bI_fits true).1, ?_⟩
        refine ⟨⟨Nat.le_refl _, Nat.le_refl _⟩, hPo _ _ ?_⟩
        exact ⟨LP1, AL1, PH1, TE1, le1, true, rfl, rfl, by rw [if_pos rfl, hq, drop_lst_ge _ (show e ≤ k by omega)]; exact ⟨rfl, hO1, hl1⟩⟩
      · 
        rw [kI_le (by omega)] at c6
        rw [drop_lst phr (show k < e by omega)] at hq
        refine sq_ok rfl [(.aload_n 0, 0, 0, 0), (.aload_n 1, 0, 0, 0), (.getfield 68, 3, 2, 0), (.iload 6, 0, 0, 0), (.iaload, 0, 0, 0)] 9 _ _ _ _ _ (by decide +kernel) ?_
        show ∃ j16 : Nat, mj 16 (kI (k : Int)) j16 ∧ WM mX4_addLefts 0 0 Post 10 17 [(0, .ref 0), (1, .ref 6), (3, vI (e : Int)), (4, vI (f2 : Int)), (5, vI (e2 : Int)), (6, vI (k : Int))] [vI ((phr j16 : Nat) : Int), .ref 0] [ob 4 [.ref 1, .ref 2, vI (ru : Int), vI (le1 : Int), .ref 3, .ref 4, .ref 5, vZ kn], cN 60 LP1, cN 60 AL1, cN 480 PH1, cN 480 TE1, cK 60 LD, ob 3 [.ref 7, .ref 8, .ref 9, vI (s : Int), vI (ah : Int), vZ ar, vI (q : Int)], cN 16 lens, cN 16 tens, cN 16 phr] 0 0
        refine ⟨k, ⟨by omega, by omega, rfl⟩, ?_⟩
        refine wm_callV (y := mX4_addLefts) mX4_takeLeft [0, 1, 2, 3, 4, 5] (pc := 17) (rest := []) (mc' := 0) (ms' := 0) (by decide +kernel) kX4_69 (c_X4_takeLeft LP1 AL1 ru le1 PH1 TE1 LD kn hl1 (fun j _ => hO1.1 j) (phr k) (hphr k (by omega))) rfl rfl ⟨_, rfl, rfl⟩ ⟨Nat.le_of_ble_eq_true rfl, Nat.le_of_ble_eq_true rfl⟩ ⟨Nat.le_of_ble_eq_true rfl, Nat.le_of_ble_eq_true rfl⟩ (Nat.le_of_ble_eq_true rfl) rfl rfl (Nat.le_of_ble_eq_true rfl) rfl ?_
        rintro _ _ (⟨kk, hk1, rfl, rfl⟩ | ⟨hk1, ⟨hk2, rfl, rfl⟩ | ⟨hk2, rfl, rfl⟩⟩)
        · 
          have hkl := (fnd_spec hk1).1
          show WM mX4_addLefts 0 0 Post 10 20 [(0, .ref 0), (1, .ref 6), (3, vI (e : Int)), (4, vI (f2 : Int)), (5, vI (e2 : Int)), (6, vI (k : Int))] [vI (kk : Int)] [ob 4 [.ref 1, .ref 2, vI (ru : Int), vI (le1 : Int), .ref 3, .ref 4, .ref 5, vZ kn], cN 60 LP1, cN 60 AL1, cN 480 PH1, cN 480 TE1, cK 60 LD, ob 3 [.ref 7, .ref 8, .ref 9, vI (s : Int), vI (ah : Int), vZ ar, vI (q : Int)], cN 16 lens, cN 16 tens, cN 16 phr] 0 0
          refine sq_ok rfl [(.istore 7, 0, 0, 0), (.iload 7, 0, 0, 0), (.ifCond .ge 5, 0, 0, 0)] 20 _ _ _ _ _ (by decide +kernel) ?_
          show (kI 0 ≤ kI (kk : Int) → WM mX4_addLefts 0 0 Post 10 29 [(0, .ref 0), (1, .ref 6), (3, vI (e : Int)), (4, vI (f2 : Int)), (5, vI (e2 : Int)), (6, vI (k : Int)), (7, vI (kk : Int))] [] [ob 4 [.ref 1, .ref 2, vI (ru : Int), vI (le1 : Int), .ref 3, .ref 4, .ref 5, vZ kn], cN 60 LP1, cN 60 AL1, cN 480 PH1, cN 480 TE1, cK 60 LD, ob 3 [.ref 7, .ref 8, .ref 9, vI (s : Int), vI (ah : Int), vZ ar, vI (q : Int)], cN 16 lens, cN 16 tens, cN 16 phr] 0 0) ∧ (¬ kI 0 ≤ kI (kk : Int) → WM mX4_addLefts 0 0 Post 10 27 [(0, .ref 0), (1, .ref 6), (3, vI (e : Int)), (4, vI (f2 : Int)), (5, vI (e2 : Int)), (6, vI (k : Int)), (7, vI (kk : Int))] [] [ob 4 [.ref 1, .ref 2, vI (ru : Int), vI (le1 : Int), .ref 3, .ref 4, .ref 5, vZ kn], cN 60 LP1, cN 60 AL1, cN 480 PH1, cN 480 TE1, cK 60 LD, ob 3 [.ref 7, .ref 8, .ref 9, vI (s : Int), vI (ah : Int), vZ ar, vI (q : Int)], cN 16 lens, cN 16 tens, cN 16 phr] 0 0)
          refine ⟨fun c24 => ?_, fun c24 => ?_⟩
          · 
            rw [kI_le (by omega)] at c24
            refine sq_ok rfl [(.iload 4, 0, 0, 0), (.istore 8, 0, 0, 0)] 29 _ _ _ _ _ (by decide +kernel) ?_
            show WM mX4_addLefts 0 0 Post 10 33 [(0, .ref 0), (1, .ref 6), (3, vI (e : Int)), (4, vI (f2 : Int)), (5, vI (e2 : Int)), (6, vI (k : Int)), (7, vI (kk : Int)), (8, vI (f2 : Int))] [] [ob 4 [.ref 1, .ref 2, vI (ru : Int), vI (le1 : Int), .ref 3, .ref 4, .ref 5, vZ kn], cN 60 LP1, cN 60 AL1, cN 480 PH1, cN 480 TE1, cK 60 LD, ob 3 [.ref 7, .ref 8, .ref 9, vI (s : Int), vI (ah : Int), vZ ar, vI (q : Int)], cN 16 lens, cN 16 tens, cN 16 phr] 0 0
            have lp33 : ∀ (n33 : Nat) (a : Nat) (l2 : Nat) (LP2 : Nat → Nat) (AL2 : Nat → Nat) (le2 : Nat) (PH2 : Nat → Nat) (TE2 : Nat → Nat), (a ≤ 16) → (rOK LP2 AL2 PH2 TE2) → (l2 < le2 ∧ le2 ≤ 60) → (mLefts (rabs LP AL PH TE le) ((lst phr e).drop f) ((sdA phr tens e2).drop f2) = (mAlts (rabs LP2 AL2 PH2 TE2 le2) l2 ((sdA phr tens e2).drop a)).bind (fun X => mLefts X ((lst phr e).drop (k + 1)) ((sdA phr tens e2).drop f2))) → (17 - a) < n33 → WM mX4_addLefts 0 0 Post 10 33 [(0, .ref 0), (1, .ref 6), (3, vI (e : Int)), (4, vI (f2 : Int)), (5, vI (e2 : Int)), (6, vI (k : Int)), (7, vI (l2 : Int)), (8, vI (a : Int))] [] [ob 4 [.ref 1, .ref 2, vI (ru : Int), vI (le2 : Int), .ref 3, .ref 4, .ref 5, vZ kn], cN 60 LP2, cN 60 AL2, cN 480 PH2, cN 480 TE2, cK 60 LD, ob 3 [.ref 7, .ref 8, .ref 9, vI (s : Int), vI (ah : Int), vZ ar, vI (q : Int)], cN 16 lens, cN 16 tens, cN 16 phr] 0 0 := by
              intro n33
              induction n33 with
              | zero => intro a l2 LP2 AL2 le2 PH2 TE2 ha hO2 hl2 hq2 hm; exact absurd hm (Nat.not_lt_zero _)
              | succ n33 ih33 =>
                intro a l2 LP2 AL2 le2 PH2 TE2 ha hO2 hl2 hq2 hm33
                refine sq_ok rfl [(.iload 8, 0, 0, 0), (.iload 5, 0, 0, 0), (.if_icmp .ge 34, 0, 0, 0)] 33 _ _ _ _ _ (by decide +kernel) ?_
                show (kI (e2 : Int) ≤ kI (a : Int) → WM mX4_addLefts 0 0 Post 10 71 [(0, .ref 0), (1, .ref 6), (3, vI (e : Int)), (4, vI (f2 : Int)), (5, vI (e2 : Int)), (6, vI (k : Int)), (7, vI (l2 : Int)), (8, vI (a : Int))] [] [ob 4 [.ref 1, .ref 2, vI (ru : Int), vI (le2 : Int), .ref 3, .ref 4, .ref 5, vZ kn], cN 60 LP2, cN 60 AL2, cN 480 PH2, cN 480 TE2, cK 60 LD, ob 3 [.ref 7, .ref 8, .ref 9, vI (s : Int), vI (ah : Int), vZ ar, vI (q : Int)], cN 16 lens, cN 16 tens, cN 16 phr] 0 0) ∧ (¬ kI (e2 : Int) ≤ kI (a : Int) → WM mX4_addLefts 0 0 Post 10 40 [(0, .ref 0), (1, .ref 6), (3, vI (e : Int)), (4, vI (f2 : Int)), (5, vI (e2 : Int)), (6, vI (k : Int)), (7, vI (l2 : Int)), (8, vI (a : Int))] [] [ob 4 [.ref 1, .ref 2, vI (ru : Int), vI (le2 : Int), .ref 3, .ref 4, .ref 5, vZ kn], cN 60 LP2, cN 60 AL2, cN 480 PH2, cN 480 TE2, cK 60 LD, ob 3 [.ref 7, .ref 8, .ref 9, vI (s : Int), vI (ah : Int), vZ ar, vI (q : Int)], cN 16 lens, cN 16 tens, cN 16 phr] 0 0)
                refine ⟨fun c37 => ?_, fun c37 => ?_⟩
                · 
                  rw [kI_le (by omega)] at c37
                  refine sq_ok rfl [(.iinc 6 1, 0, 0, 0), (.goto (-71), 0, 0, 0)] 71 _ _ _ _ _ (by decide +kernel) ?_
                  show WM mX4_addLefts 0 0 Post 10 3 [(0, .ref 0), (1, .ref 6), (3, vI (e : Int)), (4, vI (f2 : Int)), (5, vI (e2 : Int)), (6, .int ((kI (k : Int)) + (kI 1))), (7, vI (l2 : Int)), (8, vI (a : Int))] [] [ob 4 [.ref 1, .ref 2, vI (ru : Int), vI (le2 : Int), .ref 3, .ref 4, .ref 5, vZ kn], cN 60 LP2, cN 60 AL2, cN 480 PH2, cN 480 TE2, cK 60 LD, ob 3 [.ref 7, .ref 8, .ref 9, vI (s : Int), vI (ah : Int), vZ ar, vI (q : Int)], cN 16 lens, cN 16 tens, cN 16 phr] 0 0
                  have e4 : ((kI (k : Int)) + (kI 1)) = kI (((k + 1) : Nat) : Int) := by first | (simp only [kI_add, kI_sub, kI_mul]; done) | (simp only [kI_add, kI_sub, kI_mul]; rfl)
                  rw [e4]
                  exact WM.pick [0, 1, 2, 3, 4, 5] rfl (ih3 (k + 1) LP2 AL2 le2 PH2 TE2 (by omega) hO2 (by omega) (by rw [hq2, drop_lst_ge _ (show e2 ≤ a by omega)]; rfl) (by omega))
                · 
                  rw [kI_le (by omega)] at c37
                  rw [drop_lst _ (show a < e2 by omega)] at hq2
                  refine sq_ok rfl [(.aload_n 0, 0, 0, 0), (.iload 7, 0, 0, 0), (.aload_n 1, 0, 0, 0), (.getfield 68, 3, 2, 0), (.iload 8, 0, 0, 0), (.iaload, 0, 0, 0), (.aload_n 1, 0, 0, 0), (.getfield 72, 3, 1, 0), (.iload 8, 0, 0, 0), (.iaload, 0, 0, 0)] 40 _ _ _ _ _ (by decide +kernel) ?_
                  show ∃ j49 : Nat, mj 16 (kI (a : Int)) j49 ∧ ∃ j56 : Nat, mj 16 (kI (a : Int)) j56 ∧ WM mX4_addLefts 0 0 Post 10 57 [(0, .ref 0), (1, .ref 6), (3, vI (e : Int)), (4, vI (f2 : Int)), (5, vI (e2 : Int)), (6, vI (k : Int)), (7, vI (l2 : Int)), (8, vI (a : Int))] [vI ((tens j56 : Nat) : Int), vI ((phr j49 : Nat) : Int), vI (l2 : Int), .ref 0] [ob 4 [.ref 1, .ref 2, vI (ru : Int), vI (le2 : Int), .ref 3, .ref 4, .ref 5, vZ kn], cN 60 LP2, cN 60 AL2, cN 480 PH2, cN 480 TE2, cK 60 LD, ob 3 [.ref 7, .ref 8, .ref 9, vI (s : Int), vI (ah : Int), vZ ar, vI (q : Int)], cN 16 lens, cN 16 tens, cN 16 phr] 0 0
                  refine ⟨a, ⟨by omega, by omega, rfl⟩, ?_⟩
                  refine ⟨a, ⟨by omega, by omega, rfl⟩, ?_⟩
                  refine wm_callV (y := mX4_addLefts) mX4_addAlternative [0, 1, 2, 3, 4, 5] (pc := 57) (rest := []) (mc' := 0) (ms' := 0) (by decide +kernel) kX4_73 (c_X4_addAlternative LP2 AL2 ru le2 PH2 TE2 LD kn hl2.2 hO2 l2 (phr a) (tens a) hl2.1 (hphr a (by omega)) (htens a (by omega))) rfl rfl ⟨_, rfl, rfl⟩ ⟨Nat.le_of_ble_eq_true rfl, Nat.le_of_ble_eq_true rfl⟩ ⟨Nat.le_of_ble_eq_true rfl, Nat.le_of_ble_eq_true rfl⟩ (Nat.le_of_ble_eq_true rfl) rfl rfl (Nat.le_of_ble_eq_true rfl) rfl ?_
                  rintro _ _ ⟨AL3, PH3, TE3, b, rfl, rfl, hb⟩
                  show WM mX4_addLefts 0 0 Post 10 60 [(0, .ref 0), (1, .ref 6), (3, vI (e : Int)), (4, vI (f2 : Int)), (5, vI (e2 : Int)), (6, vI (k : Int)), (7, vI (l2 : Int)), (8, vI (a : Int))] [vZ b] [ob 4 [.ref 1, .ref 2, vI (ru : Int), vI (le2 : Int), .ref 3, .ref 4, .ref 5, vZ kn], cN 60 LP2, cN 60 AL3, cN 480 PH3, cN 480 TE3, cK 60 LD, ob 3 [.ref 7, .ref 8, .ref 9, vI (s : Int), vI (ah : Int), vZ ar, vI (q : Int)], cN 16 lens, cN 16 tens, cN 16 phr] 0 0
                  refine sq_ok rfl [(.ifCond .ne 5, 0, 0, 0)] 60 _ _ _ _ _ (by decide +kernel) ?_
                  show (¬ (bI b) = kI 0 → WM mX4_addLefts 0 0 Post 10 65 [(0, .ref 0), (1, .ref 6), (3, vI (e : Int)), (4, vI (f2 : Int)), (5, vI (e2 : Int)), (6, vI (k : Int)), (7, vI (l2 : Int)), (8, vI (a : Int))] [] [ob 4 [.ref 1, .ref 2, vI (ru : Int), vI (le2 : Int), .ref 3, .ref 4, .ref 5, vZ kn], cN 60 LP2, cN 60 AL3, cN 480 PH3, cN 480 TE3, cK 60 LD, ob 3 [.ref 7, .ref 8, .ref 9, vI (s : Int), vI (ah : Int), vZ ar, vI (q : Int)], cN 16 lens, cN 16 tens, cN 16 phr] 0 0) ∧ ((bI b) = kI 0 → WM mX4_addLefts 0 0 Post 10 63 [(0, .ref 0), (1, .ref 6), (3, vI (e : Int)), (4, vI (f2 : Int)), (5, vI (e2 : Int)), (6, vI (k : Int)), (7, vI (l2 : Int)), (8, vI (a : Int))] [] [ob 4 [.ref 1, .ref 2, vI (ru : Int), vI (le2 : Int), .ref 3, .ref 4, .ref 5, vZ kn], cN 60 LP2, cN 60 AL3, cN 480 PH3, cN 480 TE3, cK 60 LD, ob 3 [.ref 7, .ref 8, .ref 9, vI (s : Int), vI (ah : Int), vZ ar, vI (q : Int)], cN 16 lens, cN 16 tens, cN 16 phr] 0 0)
                  refine ⟨fun c60 => ?_, fun c60 => ?_⟩
                  · 
                    rw [bI_eq0] at c60
                    have hb1 : b = true := by cases b <;> simp_all
                    rw [if_pos hb1] at hb
                    refine sq_ok rfl [(.iinc 8 1, 0, 0, 0), (.goto (-35), 0, 0, 0)] 65 _ _ _ _ _ (by decide +kernel) ?_
                    show WM mX4_addLefts 0 0 Post 10 33 [(0, .ref 0), (1, .ref 6), (3, vI (e : Int)), (4, vI (f2 : Int)), (5, vI (e2 : Int)), (6, vI (k : Int)), (7, vI (l2 : Int)), (8, .int ((kI (a : Int)) + (kI 1)))] [] [ob 4 [.ref 1, .ref 2, vI (ru : Int), vI (le2 : Int), .ref 3, .ref 4, .ref 5, vZ kn], cN 60 LP2, cN 60 AL3, cN 480 PH3, cN 480 TE3, cK 60 LD, ob 3 [.ref 7, .ref 8, .ref 9, vI (s : Int), vI (ah : Int), vZ ar, vI (q : Int)], cN 16 lens, cN 16 tens, cN 16 phr] 0 0
                    have e6 : ((kI (a : Int)) + (kI 1)) = kI (((a + 1) : Nat) : Int) := by first | (simp only [kI_add, kI_sub, kI_mul]; done) | (simp only [kI_add, kI_sub, kI_mul]; rfl)
                    rw [e6]
                    exact WM.pick [0, 1, 2, 3, 4, 5, 6, 7] rfl (ih33 (a + 1) l2 LP2 AL3 le2 PH3 TE3 (by omega) hb.2 (by omega) (by rw [hq2, mAlts_cons hb.1]) (by omega))
                  · 
                    rw [bI_eq0] at c60
                    rw [c60] at hb
                    rw [if_neg (by decide)] at hb
                    rw [mAlts_full hb.1] at hq2
                    refine sq_ok rfl [(.iconst 0, 0, 0, 0), (.ireturn, 0, 0, 0)] 63 _ _ _ _ _ (by decide +kernel) ?_
                    show narrow .boolean (.int (kI 0)) = .int (kI 0) ∧ ((0 ≤ 0 ∧ 0 ≤ 0) ∧ Post (some (vI 0)) [ob 4 [.ref 1, .ref 2, vI (ru : Int), vI (le2 : Int), .ref 3, .ref 4, .ref 5, vZ kn], cN 60 LP2, cN 60 AL3, cN 480 PH3, cN 480 TE3, cK 60 LD, ob 3 [.ref 7, .ref 8, .ref 9, vI (s : Int), vI (ah : Int), vZ ar, vI (q : Int)], cN 16 lens, cN 16 tens, cN 16 phr])
                    refine ⟨(bI_fits false).1, ?_⟩
                    refine ⟨⟨Nat.le_refl _, Nat.le_refl _⟩, hPo _ _ ?_⟩
                    exact ⟨LP2, AL3, PH3, TE3, le2, false, rfl, rfl, by rw [if_neg (by decide)]; exact ⟨hq2, hb.2⟩⟩
            exact WM.pick [0, 1, 2, 3, 4, 5, 6, 7] rfl (lp33 _ f2 kk LP1 AL1 le1 PH1 TE1 (by omega) (by first | exact hO1 | exact rOK_new hO1 (hphr k (by omega))) (by omega) (by first | (rw [hq]; exact mLefts_cons (mTake_hit hk1)) | (rw [hq]; exact mLefts_cons (mTake_new hk1 hk2))) (Nat.lt_succ_self _))
          · 
            rw [kI_le (by omega)] at c24
            refine sq_ok rfl [(.iconst 0, 0, 0, 0), (.ireturn, 0, 0, 0)] 27 _ _ _ _ _ (by decide +kernel) ?_
            show narrow .boolean (.int (kI 0)) = .int (kI 0) ∧ ((0 ≤ 0 ∧ 0 ≤ 0) ∧ Post (some (vI 0)) [ob 4 [.ref 1, .ref 2, vI (ru : Int), vI (le1 : Int), .ref 3, .ref 4, .ref 5, vZ kn], cN 60 LP1, cN 60 AL1, cN 480 PH1, cN 480 TE1, cK 60 LD, ob 3 [.ref 7, .ref 8, .ref 9, vI (s : Int), vI (ah : Int), vZ ar, vI (q : Int)], cN 16 lens, cN 16 tens, cN 16 phr])
            refine ⟨(bI_fits false).1, ?_⟩
            refine ⟨⟨Nat.le_refl _, Nat.le_refl _⟩, hPo _ _ ?_⟩
            first
            | (exfalso; omega)
            | exact ⟨LP1, AL1, PH1, TE1, le1, false, rfl, rfl, by rw [if_neg (by decide)]; exact ⟨by rw [hq, mLefts_full (mTake_full hk1 hk2)] <;> rfl, hO1⟩⟩
        · 
          show WM mX4_addLefts 0 0 Post 10 20 [(0, .ref 0), (1, .ref 6), (3, vI (e : Int)), (4, vI (f2 : Int)), (5, vI (e2 : Int)), (6, vI (k : Int))] [vI (-2)] [ob 4 [.ref 1, .ref 2, vI (ru : Int), vI (le1 : Int), .ref 3, .ref 4, .ref 5, vZ kn], cN 60 LP1, cN 60 AL1, cN 480 PH1, cN 480 TE1, cK 60 LD, ob 3 [.ref 7, .ref 8, .ref 9, vI (s : Int), vI (ah : Int), vZ ar, vI (q : Int)], cN 16 lens, cN 16 tens, cN 16 phr] 0 0
          refine sq_ok rfl [(.istore 7, 0, 0, 0), (.iload 7, 0, 0, 0), (.ifCond .ge 5, 0, 0, 0)] 20 _ _ _ _ _ (by decide +kernel) ?_
          show (kI 0 ≤ kI (-2) → WM mX4_addLefts 0 0 Post 10 29 [(0, .ref 0), (1, .ref 6), (3, vI (e : Int)), (4, vI (f2 : Int)), (5, vI (e2 : Int)), (6, vI (k : Int)), (7, vI (-2))] [] [ob 4 [.ref 1, .ref 2, vI (ru : Int), vI (le1 : Int), .ref 3, .ref 4, .ref 5, vZ kn], cN 60 LP1, cN 60 AL1, cN 480 PH1, cN 480 TE1, cK 60 LD, ob 3 [.ref 7, .ref 8, .ref 9, vI (s : Int), vI (ah : Int), vZ ar, vI (q : Int)], cN 16 lens, cN 16 tens, cN 16 phr] 0 0) ∧ (¬ kI 0 ≤ kI (-2) → WM mX4_addLefts 0 0 Post 10 27 [(0, .ref 0), (1, .ref 6), (3, vI (e : Int)), (4, vI (f2 : Int)), (5, vI (e2 : Int)), (6, vI (k : Int)), (7, vI (-2))] [] [ob 4 [.ref 1, .ref 2, vI (ru : Int), vI (le1 : Int), .ref 3, .ref 4, .ref 5, vZ kn], cN 60 LP1, cN 60 AL1, cN 480 PH1, cN 480 TE1, cK 60 LD, ob 3 [.ref 7, .ref 8, .ref 9, vI (s : Int), vI (ah : Int), vZ ar, vI (q : Int)], cN 16 lens, cN 16 tens, cN 16 phr] 0 0)
          refine ⟨fun c24 => ?_, fun c24 => ?_⟩
          · 
            exact absurd c24 (by decide)
          · 
            rw [kI_le (by omega)] at c24
            refine sq_ok rfl [(.iconst 0, 0, 0, 0), (.ireturn, 0, 0, 0)] 27 _ _ _ _ _ (by decide +kernel) ?_
            show narrow .boolean (.int (kI 0)) = .int (kI 0) ∧ ((0 ≤ 0 ∧ 0 ≤ 0) ∧ Post (some (vI 0)) [ob 4 [.ref 1, .ref 2, vI (ru : Int), vI (le1 : Int), .ref 3, .ref 4, .ref 5, vZ kn], cN 60 LP1, cN 60 AL1, cN 480 PH1, cN 480 TE1, cK 60 LD, ob 3 [.ref 7, .ref 8, .ref 9, vI (s : Int), vI (ah : Int), vZ ar, vI (q : Int)], cN 16 lens, cN 16 tens, cN 16 phr])
            refine ⟨(bI_fits false).1, ?_⟩
            refine ⟨⟨Nat.le_refl _, Nat.le_refl _⟩, hPo _ _ ?_⟩
            first
            | (exfalso; omega)
            | exact ⟨LP1, AL1, PH1, TE1, le1, false, rfl, rfl, by rw [if_neg (by decide)]; exact ⟨by rw [hq, mLefts_full (mTake_full hk1 hk2)] <;> rfl, hO1⟩⟩
        · 
          show WM mX4_addLefts 0 0 Post 10 20 [(0, .ref 0), (1, .ref 6), (3, vI (e : Int)), (4, vI (f2 : Int)), (5, vI (e2 : Int)), (6, vI (k : Int))] [vI (le1 : Int)] [ob 4 [.ref 1, .ref 2, vI (ru : Int), vI (((le1 + 1) : Nat) : Int), .ref 3, .ref 4, .ref 5, vZ kn], cN 60 (va_up LP1 le1 (phr k)), cN 60 (va_up AL1 le1 0), cN 480 PH1, cN 480 TE1, cK 60 LD, ob 3 [.ref 7, .ref 8, .ref 9, vI (s : Int), vI (ah : Int), vZ ar, vI (q : Int)], cN 16 lens, cN 16 tens, cN 16 phr] 0 0
          refine sq_ok rfl [(.istore 7, 0, 0, 0), (.iload 7, 0, 0, 0), (.ifCond .ge 5, 0, 0, 0)] 20 _ _ _ _ _ (by decide +kernel) ?_
          show (kI 0 ≤ kI (le1 : Int) → WM mX4_addLefts 0 0 Post 10 29 [(0, .ref 0), (1, .ref 6), (3, vI (e : Int)), (4, vI (f2 : Int)), (5, vI (e2 : Int)), (6, vI (k : Int)), (7, vI (le1 : Int))] [] [ob 4 [.ref 1, .ref 2, vI (ru : Int), vI (((le1 + 1) : Nat) : Int), .ref 3, .ref 4, .ref 5, vZ kn], cN 60 (va_up LP1 le1 (phr k)), cN 60 (va_up AL1 le1 0), cN 480 PH1, cN 480 TE1, cK 60 LD, ob 3 [.ref 7, .ref 8, .ref 9, vI (s : Int), vI (ah : Int), vZ ar, vI (q : Int)], cN 16 lens, cN 16 tens, cN 16 phr] 0 0) ∧ (¬ kI 0 ≤ kI (le1 : Int) → WM mX4_addLefts 0 0 Post 10 27 [(0, .ref 0), (1, .ref 6), (3, vI (e : Int)), (4, vI (f2 : Int)), (5, vI (e2 : Int)), (6, vI (k : Int)), (7, vI (le1 : Int))] [] [ob 4 [.ref 1, .ref 2, vI (ru : Int), vI (((le1 + 1) : Nat) : Int), .ref 3, .ref 4, .ref 5, vZ kn], cN 60 (va_up LP1 le1 (phr k)), cN 60 (va_up AL1 le1 0), cN 480 PH1, cN 480 TE1, cK 60 LD, ob 3 [.ref 7, .ref 8, .ref 9, vI (s : Int), vI (ah : Int), vZ ar, vI (q : Int)], cN 16 lens, cN 16 tens, cN 16 phr] 0 0)
          refine ⟨fun c24 => ?_, fun c24 => ?_⟩
          · 
            rw [kI_le (by omega)] at c24
            refine sq_ok rfl [(.iload 4, 0, 0, 0), (.istore 8, 0, 0, 0)] 29 _ _ _ _ _ (by decide +kernel) ?_
            show WM mX4_addLefts 0 0 Post 10 33 [(0, .ref 0), (1, .ref 6), (3, vI (e : Int)), (4, vI (f2 : Int)), (5, vI (e2 : Int)), (6, vI (k : Int)), (7, vI (le1 : Int)), (8, vI (f2 : Int))] [] [ob 4 [.ref 1, .ref 2, vI (ru : Int), vI (((le1 + 1) : Nat) : Int), .ref 3, .ref 4, .ref 5, vZ kn], cN 60 (va_up LP1 le1 (phr k)), cN 60 (va_up AL1 le1 0), cN 480 PH1, cN 480 TE1, cK 60 LD, ob 3 [.ref 7, .ref 8, .ref 9, vI (s : Int), vI (ah : Int), vZ ar, vI (q : Int)], cN 16 lens, cN 16 tens, cN 16 phr] 0 0
            have lp33 : ∀ (n33 : Nat) (a : Nat) (l2 : Nat) (LP2 : Nat → Nat) (AL2 : Nat → Nat) (le2 : Nat) (PH2 : Nat → Nat) (TE2 : Nat → Nat), (a ≤ 16) → (rOK LP2 AL2 PH2 TE2) → (l2 < le2 ∧ le2 ≤ 60) → (mLefts (rabs LP AL PH TE le) ((lst phr e).drop f) ((sdA phr tens e2).drop f2) = (mAlts (rabs LP2 AL2 PH2 TE2 le2) l2 ((sdA phr tens e2).drop a)).bind (fun X => mLefts X ((lst phr e).drop (k + 1)) ((sdA phr tens e2).drop f2))) → (17 - a) < n33 → WM mX4_addLefts 0 0 Post 10 33 [(0, .ref 0), (1, .ref 6), (3, vI (e : Int)), (4, vI (f2 : Int)), (5, vI (e2 : Int)), (6, vI (k : Int)), (7, vI (l2 : Int)), (8, vI (a : Int))] [] [ob 4 [.ref 1, .ref 2, vI (ru : Int), vI (le2 : Int), .ref 3, .ref 4, .ref 5, vZ kn], cN 60 LP2, cN 60 AL2, cN 480 PH2, cN 480 TE2, cK 60 LD, ob 3 [.ref 7, .ref 8, .ref 9, vI (s : Int), vI (ah : Int), vZ ar, vI (q : Int)], cN 16 lens, cN 16 tens, cN 16 phr] 0 0 := by
              intro n33
              induction n33 with
              | zero => intro a l2 LP2 AL2 le2 PH2 TE2 ha hO2 hl2 hq2 hm; exact absurd hm (Nat.not_lt_zero _)
              | succ n33 ih33 =>
                intro a l2 LP2 AL2 le2 PH2 TE2 ha hO2 hl2 hq2 hm33
                refine sq_ok rfl [(.iload 8, 0, 0, 0), (.iload 5, 0, 0, 0), (.if_icmp .ge 34, 0, 0, 0)] 33 _ _ _ _ _ (by decide +kernel) ?_
                show (kI (e2 : Int) ≤ kI (a : Int) → WM mX4_addLefts 0 0 Post 10 71 [(0, .ref 0), (1, .ref 6), (3, vI (e : Int)), (4, vI (f2 : Int)), (5, vI (e2 : Int)), (6, vI (k : Int)), (7, vI (l2 : Int)), (8, vI (a : Int))] [] [ob 4 [.ref 1, .ref 2, vI (ru : Int), vI (le2 : Int), .ref 3, .ref 4, .ref 5, vZ kn], cN 60 LP2, cN 60 AL2, cN 480 PH2, cN 480 TE2, cK 60 LD, ob 3 [.ref 7, .ref 8, .ref 9, vI (s : Int), vI (ah : Int), vZ ar, vI (q : Int)], cN 16 lens, cN 16 tens, cN 16 phr] 0 0) ∧ (¬ kI (e2 : Int) ≤ kI (a : Int) → WM mX4_addLefts 0 0 Post 10 40 [(0, .ref 0), (1, .ref 6), (3, vI (e : Int)), (4, vI (f2 : Int)), (5, vI (e2 : Int)), (6, vI (k : Int)), (7, vI (l2 : Int)), (8, vI (a : Int))] [] [ob 4 [.ref 1, .ref 2, vI (ru : Int), vI (le2 : Int), .ref 3, .ref 4, .ref 5, vZ kn], cN 60 LP2, cN 60 AL2, cN 480 PH2, cN 480 TE2, cK 60 LD, ob 3 [.ref 7, .ref 8, .ref 9, vI (s : Int), vI (ah : Int), vZ ar, vI (q : Int)], cN 16 lens, cN 16 tens, cN 16 phr] 0 0)
                refine ⟨fun c37 => ?_, fun c37 => ?_⟩
                · 
                  rw [kI_le (by omega)] at c37
                  refine sq_ok rfl [(.iinc 6 1, 0, 0, 0), (.goto (-71), 0, 0, 0)] 71 _ _ _ _ _ (by decide +kernel) ?_
                  show WM mX4_addLefts 0 0 Post 10 3 [(0, .ref 0), (1, .ref 6), (3, vI (e : Int)), (4, vI (f2 : Int)), (5, vI (e2 : Int)), (6, .int ((kI (k : Int)) + (kI 1))), (7, vI (l2 : Int)), (8, vI (a : Int))] [] [ob 4 [.ref 1, .ref 2, vI (ru : Int), vI (le2 : Int), .ref 3, .ref 4, .ref 5, vZ kn], cN 60 LP2, cN 60 AL2, cN 480 PH2, cN 480 TE2, cK 60 LD, ob 3 [.ref 7, .ref 8, .ref 9, vI (s : Int), vI (ah : Int), vZ ar, vI (q : Int)], cN 16 lens, cN 16 tens, cN 16 phr] 0 0
                  have e10 : ((kI (k : Int)) + (kI 1)) = kI (((k + 1) : Nat) : Int) := by first | (simp only [kI_add, kI_sub, kI_mul]; done) | (simp only [kI_add, kI_sub, kI_mul]; rfl)
                  rw [e10]
                  exact WM.pick [0, 1, 2, 3, 4, 5] rfl (ih3 (k + 1) LP2 AL2 le2 PH2 TE2 (by omega) hO2 (by omega) (by rw [hq2, drop_lst_ge _ (show e2 ≤ a by omega)]; rfl) (by omega))
                · 
                  rw [kI_le (by omega)] at c37
                  rw [drop_lst _ (show a < e2 by omega)] at hq2
                  refine sq_ok rfl [(.aload_n 0, 0, 0, 0), (.iload 7, 0, 0, 0), (.aload_n 1, 0, 0, 0), (.getfield 68, 3, 2, 0), (.iload 8, 0, 0, 0), (.iaload, 0, 0, 0), (.aload_n 1, 0, 0, 0), (.getfield 72, 3, 1, 0), (.iload 8, 0, 0, 0), (.iaload, 0, 0, 0)] 40 _ _ _ _ _ (by decide +kernel) ?_
                  show ∃ j49 : Nat, mj 16 (kI (a : Int)) j49 ∧ ∃ j56 : Nat, mj 16 (kI (a : Int)) j56 ∧ WM mX4_addLefts 0 0 Post 10 57 [(0, .ref 0), (1, .ref 6), (3, vI (e : Int)), (4, vI (f2 : Int)), (5, vI (e2 : Int)), (6, vI (k : Int)), (7, vI (l2 : Int)), (8, vI (a : Int))] [vI ((tens j56 : Nat) : Int), vI ((phr j49 : Nat) : Int), vI (l2 : Int), .ref 0] [ob 4 [.ref 1, .ref 2, vI (ru : Int), vI (le2 : Int), .ref 3, .ref 4, .ref 5, vZ kn], cN 60 LP2, cN 60 AL2, cN 480 PH2, cN 480 TE2, cK 60 LD, ob 3 [.ref 7, .ref 8, .ref 9, vI (s : Int), vI (ah : Int), vZ ar, vI (q : Int)], cN 16 lens, cN 16 tens, cN 16 phr] 0 0
                  refine ⟨a, ⟨by omega, by omega, rfl⟩, ?_⟩
                  refine ⟨a, ⟨by omega, by omega, rfl⟩, ?_⟩
                  refine wm_callV (y := mX4_addLefts) mX4_addAlternative [0, 1, 2, 3, 4, 5] (pc := 57) (rest := []) (mc' := 0) (ms' := 0) (by decide +kernel) kX4_73 (c_X4_addAlternative LP2 AL2 ru le2 PH2 TE2 LD kn hl2.2 hO2 l2 (phr a) (tens a) hl2.1 (hphr a (by omega)) (htens a (by omega))) rfl rfl ⟨_, rfl, rfl⟩ ⟨Nat.le_of_ble_eq_true rfl, Nat.le_of_ble_eq_true rfl⟩ ⟨Nat.le_of_ble_eq_true rfl, Nat.le_of_ble_eq_true rfl⟩ (Nat.le_of_ble_eq_true rfl) rfl rfl (Nat.le_of_ble_eq_true rfl) rfl ?_
                  rintro _ _ ⟨AL3, PH3, TE3, b, rfl, rfl, hb⟩
                  show WM mX4_addLefts 0 0 Post 10 60 [(0, .ref 0), (1, .ref 6), (3, vI (e : Int)), (4, vI (f2 : Int)), (5, vI (e2 : Int)), (6, vI (k : Int)), (7, vI (l2 : Int)), (8, vI (a : Int))] [vZ b] [ob 4 [.ref 1, .ref 2, vI (ru : Int), vI (le2 : Int), .ref 3, .ref 4, .ref 5, vZ kn], cN 60 LP2, cN 60 AL3, cN 480 PH3, cN 480 TE3, cK 60 LD, ob 3 [.ref 7, .ref 8, .ref 9, vI (s : Int), vI (ah : Int), vZ ar, vI (q : Int)], cN 16 lens, cN 16 tens, cN 16 phr] 0 0
                  refine sq_ok rfl [(.ifCond .ne 5, 0, 0, 0)] 60 _ _ _ _ _ (by decide +kernel) ?_
                  show (¬ (bI b) = kI 0 → WM mX4_addLefts 0 0 Post 10 65 [(0, .ref 0), (1, .ref 6), (3, vI (e : Int)), (4, vI (f2 : Int)), (5, vI (e2 : Int)), (6, vI (k : Int)), (7, vI (l2 : Int)), (8, vI (a : Int))] [] [ob 4 [.ref 1, .ref 2, vI (ru : Int), vI (le2 : Int), .ref 3, .ref 4, .ref 5, vZ kn], cN 60 LP2, cN 60 AL3, cN 480 PH3, cN 480 TE3, cK 60 LD, ob 3 [.ref 7, .ref 8, .ref 9, vI (s : Int), vI (ah : Int), vZ ar, vI (q : Int)], cN 16 lens, cN 16 tens, cN 16 phr] 0 0) ∧ ((bI b) = kI 0 → WM mX4_addLefts 0 0 Post 10 63 [(0, .ref 0), (1, .ref 6), (3, vI (e : Int)), (4, vI (f2 : Int)), (5, vI (e2 : Int)), (6, vI (k : Int)), (7, vI (l2 : Int)), (8, vI (a : Int))] [] [ob 4 [.ref 1, .ref 2, vI (ru : Int), vI (le2 : Int), .ref 3, .ref 4, .ref 5, vZ kn], cN 60 LP2, cN 60 AL3, cN 480 PH3, cN 480 TE3, cK 60 LD, ob 3 [.ref 7, .ref 8, .ref 9, vI (s : Int), vI (ah : Int), vZ ar, vI (q : Int)], cN 16 lens, cN 16 tens, cN 16 phr] 0 0)
                  refine ⟨fun c60 => ?_, fun c60 => ?_⟩
                  · 
                    rw [bI_eq0] at c60
                    have hb1 : b = true := by cases b <;> simp_all
                    rw [if_pos hb1] at hb
                    refine sq_ok rfl [(.iinc 8 1, 0, 0, 0), (.goto (-35), 0, 0, 0)] 65 _ _ _ _ _ (by decide +kernel) ?_
                    show WM mX4_addLefts 0 0 Post 10 33 [(0, .ref 0), (1, .ref 6), (3, vI (e : Int)), (4, vI (f2 : Int)), (5, vI (e2 : Int)), (6, vI (k : Int)), (7, vI (l2 : Int)), (8, .int ((kI (a : Int)) + (kI 1)))] [] [ob 4 [.ref 1, .ref 2, vI (ru : Int), vI (le2 : Int), .ref 3, .ref 4, .ref 5, vZ kn], cN 60 LP2, cN 60 AL3, cN 480 PH3, cN 480 TE3, cK 60 LD, ob 3 [.ref 7, .ref 8, .ref 9, vI (s : Int), vI (ah : Int), vZ ar, vI (q : Int)], cN 16 lens, cN 16 tens, cN 16 phr] 0 0
                    have e12 : ((kI (a : Int)) + (kI 1)) = kI (((a + 1) : Nat) : Int) := by first | (simp only [kI_add, kI_sub, kI_mul]; done) | (simp only [kI_add, kI_sub, kI_mul]; rfl)
                    rw [e12]
                    exact WM.pick [0, 1, 2, 3, 4, 5, 6, 7] rfl (ih33 (a + 1) l2 LP2 AL3 le2 PH3 TE3 (by omega) hb.2 (by omega) (by rw [hq2, mAlts_cons hb.1]) (by omega))
                  · 
                    rw [bI_eq0] at c60
                    rw [c60] at hb
                    rw [if_neg (by decide)] at hb
                    rw [mAlts_full hb.1] at hq2
                    refine sq_ok rfl [(.iconst 0, 0, 0, 0), (.ireturn, 0, 0, 0)] 63 _ _ _ _ _ (by decide +kernel) ?_
                    show narrow .boolean (.int (kI 0)) = .int (kI 0) ∧ ((0 ≤ 0 ∧ 0 ≤ 0) ∧ Post (some (vI 0)) [ob 4 [.ref 1, .ref 2, vI (ru : Int), vI (le2 : Int), .ref 3, .ref 4, .ref 5, vZ kn], cN 60 LP2, cN 60 AL3, cN 480 PH3, cN 480 TE3, cK 60 LD, ob 3 [.ref 7, .ref 8, .ref 9, vI (s : Int), vI (ah : Int), vZ ar, vI (q : Int)], cN 16 lens, cN 16 tens, cN 16 phr])
                    refine ⟨(bI_fits false).1, ?_⟩
                    refine ⟨⟨Nat.le_refl _, Nat.le_refl _⟩, hPo _ _ ?_⟩
                    exact ⟨LP2, AL3, PH3, TE3, le2, false, rfl, rfl, by rw [if_neg (by decide)]; exact ⟨hq2, hb.2⟩⟩
            exact WM.pick [0, 1, 2, 3, 4, 5, 6, 7] rfl (lp33 _ f2 le1 (va_up LP1 le1 (phr k)) (va_up AL1 le1 0) (le1 + 1) PH1 TE1 (by omega) (by first | exact hO1 | exact rOK_new hO1 (hphr k (by omega))) (by omega) (by first | (rw [hq]; exact mLefts_cons (mTake_hit hk1)) | (rw [hq]; exact mLefts_cons (mTake_new hk1 hk2))) (Nat.lt_succ_self _))
          · 
            rw [kI_le (by omega)] at c24
            refine sq_ok rfl [(.iconst 0, 0, 0, 0), (.ireturn, 0, 0, 0)] 27 _ _ _ _ _ (by decide +kernel) ?_
            show narrow .boolean (.int (kI 0)) = .int (kI 0) ∧ ((0 ≤ 0 ∧ 0 ≤ 0) ∧ Post (some (vI 0)) [ob 4 [.ref 1, .ref 2, vI (ru : Int), vI (((le1 + 1) : Nat) : Int), .ref 3, .ref 4, .ref 5, vZ kn], cN 60 (va_up LP1 le1 (phr k)), cN 60 (va_up AL1 le1 0), cN 480 PH1, cN 480 TE1, cK 60 LD, ob 3 [.ref 7, .ref 8, .ref 9, vI (s : Int), vI (ah : Int), vZ ar, vI (q : Int)], cN 16 lens, cN 16 tens, cN 16 phr])
            refine ⟨(bI_fits false).1, ?_⟩
            refine ⟨⟨Nat.le_refl _, Nat.le_refl _⟩, hPo _ _ ?_⟩
            first
            | (exfalso; omega)
            | exact ⟨LP1, AL1, PH1, TE1, le1, false, rfl, rfl, by rw [if_neg (by decide)]; exact ⟨by rw [hq, mLefts_full (mTake_full hk1 hk2)] <;> rfl, hO1⟩⟩
  exact WM.pick [0, 1, 3, 4, 5, 6] rfl (lp3 _ f LP AL le PH TE (by omega) hO (by omega) rfl (Nat.lt_succ_self _))

set_option maxRecDepth 100000 in
set_option maxHeartbeats 500000 in
theorem c_X4_addErasers (LP AL : Nat → Nat) (ru le : Nat) (PH TE LD : Nat → Nat) (kn : Bool) (hle : le ≤ 60) (hO : rOK LP AL PH TE) (lens tens phr : Nat → Nat) (s ah : Nat) (ar : Bool) (q : Nat) (hphr : ∀ j, j < s → phr j < 4294967296) (htens : ∀ j, j < s → tens j ≤ 10) (hs : s ≤ 16) : CT mX4_addErasers 0 0 [.ref 0, .ref 6] [ob 4 [.ref 1, .ref 2, vI (ru : Int), vI (le : Int), .ref 3, .ref 4, .ref 5, vZ kn], cN 60 LP, cN 60 AL, cN 480 PH, cN 480 TE, cK 60 LD, ob 3 [.ref 7, .ref 8, .ref 9, vI (s : Int), vI (ah : Int), vZ ar, vI (q : Int)], cN 16 lens, cN 16 tens, cN 16 phr] (fun r w => ∃ (LP2 AL2 PH2 TE2 : Nat → Nat) (le2 : Nat) (b : Bool), r = some (vZ b) ∧ w = [ob 4 [.ref 1, .ref 2, vI (ru : Int), vI (le2 : Int), .ref 3, .ref 4, .ref 5, vZ kn], cN 60 LP2, cN 60 AL2, cN 480 PH2, cN 480 TE2, cK 60 LD, ob 3 [.ref 7, .ref 8, .ref 9, vI (s : Int), vI (ah : Int), vZ ar, vI (q : Int)], cN 16 lens, cN 16 tens, cN 16 phr] ∧ if b then mLefts (rabs LP AL PH TE le) (lst phr s) [(0, 10)] = some (rabs LP2 AL2 PH2 TE2 le2) ∧ rOK LP2 AL2 PH2 TE2 ∧ le2 ≤ 60 else (mLefts (rabs LP AL PH TE le) (lst phr s) [(0, 10)] = none ∧ rOK LP2 AL2 PH2 TE2)) := by
  refine CT.intro rfl (Nat.le_of_ble_eq_true rfl) ?_
  generalize hPost : (fun r w => ∃ (LP2 AL2 PH2 TE2 : Nat → Nat) (le2 : Nat) (b : Bool), r = some (vZ b) ∧ w = [ob 4 [.ref 1, .ref 2, vI (ru : Int), vI (le2 : Int), .ref 3, .ref 4, .ref 5, vZ kn], cN 60 LP2, cN 60 AL2, cN 480 PH2, cN 480 TE2, cK 60 LD, ob 3 [.ref 7, .ref 8, .ref 9, vI (s : Int), vI (ah : Int), vZ ar, vI (q : Int)], cN 16 lens, cN 16 tens, cN 16 phr] ∧ if b then mLefts (rabs LP AL PH TE le) (lst phr s) [(0, 10)] = some (rabs LP2 AL2 PH2 TE2 le2) ∧ rOK LP2 AL2 PH2 TE2 ∧ le2 ≤ 60 else (mLefts (rabs LP AL PH TE le) (lst phr s) [(0, 10)] = none ∧ rOK LP2 AL2 PH2 TE2) : MP) = Post
  have hPo : ∀ rr ww, (fun r w => ∃ (LP2 AL2 PH2 TE2 : Nat → Nat) (le2 : Nat) (b : Bool), r = some (vZ b) ∧ w = [ob 4 [.ref 1, .ref 2, vI (ru : Int), vI (le2 : Int), .ref 3, .ref 4, .ref 5, vZ kn], cN 60 LP2, cN 60 AL2, cN 480 PH2, cN 480 TE2, cK 60 LD, ob 3 [.ref 7, .ref 8, .ref 9, vI (s : Int), vI (ah : Int), vZ ar, vI (q : Int)], cN 16 lens, cN 16 tens, cN 16 phr] ∧ if b then mLefts (rabs LP AL PH TE le) (lst phr s) [(0, 10)] = some (rabs LP2 AL2 PH2 TE2 le2) ∧ rOK LP2 AL2 PH2 TE2 ∧ le2 ≤ 60 else (mLefts (rabs LP AL PH TE le) (lst phr s) [(0, 10)] = none ∧ rOK LP2 AL2 PH2 TE2) : MP) rr ww → Post rr ww := by rw [← hPost]; exact fun _ _ h => h
  clear hPost
  show WM mX4_addErasers 0 0 Post 10 0 [(0, .ref 0), (1, .ref 6)] [] [ob 4 [.ref 1, .ref 2, vI (ru : Int), vI (le : Int), .ref 3, .ref 4, .ref 5, vZ kn], cN 60 LP, cN 60 AL, cN 480 PH, cN 480 TE, cK 60 LD, ob 3 [.ref 7, .ref 8, .ref 9, vI (s : Int), vI (ah : Int), vZ ar, vI (q : Int)], cN 16 lens, cN 16 tens, cN 16 phr] 0 0
  refine sq_ok rfl [(.iconst 0, 0, 0, 0), (.istore_n 2, 0, 0, 0)] 0 _ _ _ _ _ (by decide +kernel) ?_
  show WM mX4_addErasers 0 0 Post 10 2 [(0, .ref 0), (1, .ref 6), (2, vI 0)] [] [ob 4 [.ref 1, .ref 2, vI (ru : Int), vI (le : Int), .ref 3, .ref 4, .ref 5, vZ kn], cN 60 LP, cN 60 AL, cN 480 PH, cN 480 TE, cK 60 LD, ob 3 [.ref 7, .ref 8, .ref 9, vI (s : Int), vI (ah : Int), vZ ar, vI (q : Int)], cN 16 lens, cN 16 tens, cN 16 phr] 0 0
  have lp2 : ∀ (n2 : Nat) (k : Nat) (LP1 : Nat → Nat) (AL1 : Nat → Nat) (le1 : Nat) (PH1 : Nat → Nat) (TE1 : Nat → Nat), (k ≤ 16) → (rOK LP1 AL1 PH1 TE1) → (le1 ≤ 60) → (mLefts (rabs LP AL PH TE le) (lst phr s) [(0, 10)] = mLefts (rabs LP1 AL1 PH1 TE1 le1) ((lst phr s).drop k) [(0, 10)]) → (17 - k) < n2 → WM mX4_addErasers 0 0 Post 10 2 [(0, .ref 0), (1, .ref 6), (2, vI (k : Int))] [] [ob 4 [.ref 1, .ref 2, vI (ru : Int), vI (le1 : Int), .ref 3, .ref 4, .ref 5, vZ kn], cN 60 LP1, cN 60 AL1, cN 480 PH1, cN 480 TE1, cK 60 LD, ob 3 [.ref 7, .ref 8, .ref 9, vI (s : Int), vI (ah : Int), vZ ar, vI (q : Int)], cN 16 lens, cN 16 tens, cN 16 phr] 0 0 := by
    intro n2
    induction n2 with
    | zero => intro k LP1 AL1 le1 PH1 TE1 hk hO1 hl1 hq hm; exact absurd hm (Nat.not_lt_zero _)
    | succ n2 ih2 =>
      intro k LP1 AL1 le1 PH1 TE1 hk hO1 hl1 hq hm2
      refine sq_ok rfl [(.iload_n 2, 0, 0, 0), (.aload_n 1, 0, 0, 0), (.getfield 54, 3, 3, 0), (.if_icmp .ge 37, 0, 0, 0)] 2 _ _ _ _ _ (by decide +kernel) ?_
      show (kI (s : Int) ≤ kI (k : Int) → WM mX4_addErasers 0 0 Post 10 44 [(0, .ref 0), (1, .ref 6), (2, vI (k : Int))] [] [ob 4 [.ref 1, .ref 2, vI (ru : Int), vI (le1 : Int), .ref 3, .ref 4, .ref 5, vZ kn], cN 60 LP1, cN 60 AL1, cN 480 PH1, cN 480 TE1, cK 60 LD, ob 3 [.ref 7, .ref 8, .ref 9, vI (s : Int), vI (ah : Int), vZ ar, vI (q : Int)], cN 16 lens, cN 16 tens, cN 16 phr] 0 0) ∧ (¬ kI (s : Int) ≤ kI (k : Int) → WM mX4_addErasers 0 0 Post 10 10 [(0, .ref 0), (1, .ref 6), (2, vI (k : Int))] [] [ob 4 [.ref 1, .ref 2, vI (ru : Int), vI (le1 : Int), .ref 3, .ref 4, .ref 5, vZ kn], cN 60 LP1, cN 60 AL1, cN 480 PH1, cN 480 TE1, cK 60 LD, ob 3 [.ref 7, .ref 8, .ref 9, vI (s : Int), vI (ah : Int), vZ ar, vI (q : Int)], cN 16 lens, cN 16 tens, cN 16 phr] 0 0)
      refine ⟨fun c7 => ?_, fun c7 => ?_⟩
      · 
        rw [kI_le (by omega)] at c7
        refine sq_ok rfl [(.iconst 1, 0, 0, 0), (.ireturn, 0, 0, 0)] 44 _ _ _ _ _ (by decide +kernel) ?_
        show narrow .boolean (.int (kI 1)) = .int (kI 1) ∧ ((0 ≤ 0 ∧ 0 ≤ 0) ∧ Post (some (vI 1)) [ob 4 [.ref 1, .ref 2, vI (ru : Int), vI (le1 : Int), .ref 3, .ref 4, .ref 5, vZ kn], cN 60 LP1, cN 60 AL1, cN 480 PH1, cN 480 TE1, cK 60 LD, ob 3 [.ref 7, .ref 8, .ref 9, vI (s : Int), vI (ah : Int), vZ ar, vI (q : Int)], cN 16 lens, cN 16 tens, cN 16 phr])
        refine ⟨(bI_fits true).1, ?_⟩
        refine ⟨⟨Nat.le_refl _, Nat.le_refl _⟩, hPo _ _ ?_⟩
        exact ⟨LP1, AL1, PH1, TE1, le1, true, rfl, rfl, by rw [if_pos rfl, hq, drop_lst_ge _ (show s ≤ k by omega)]; exact ⟨rfl, hO1, hl1⟩⟩
      · 
        rw [kI_le (by omega)] at c7
        rw [drop_lst phr (show k < s by omega)] at hq
        refine sq_ok rfl [(.aload_n 0, 0, 0, 0), (.aload_n 1, 0, 0, 0), (.getfield 68, 3, 2, 0), (.iload_n 2, 0, 0, 0), (.iaload, 0, 0, 0)] 10 _ _ _ _ _ (by decide +kernel) ?_
        show ∃ j16 : Nat, mj 16 (kI (k : Int)) j16 ∧ WM mX4_addErasers 0 0 Post 10 17 [(0, .ref 0), (1, .ref 6), (2, vI (k : Int))] [vI ((phr j16 : Nat) : Int), .ref 0] [ob 4 [.ref 1, .ref 2, vI (ru : Int), vI (le1 : Int), .ref 3, .ref 4, .ref 5, vZ kn], cN 60 LP1, cN 60 AL1, cN 480 PH1, cN 480 TE1, cK 60 LD, ob 3 [.ref 7, .ref 8, .ref 9, vI (s : Int), vI (ah : Int), vZ ar, vI (q : Int)], cN 16 lens, cN 16 tens, cN 16 phr] 0 0
        refine ⟨k, ⟨by omega, by omega, rfl⟩, ?_⟩
        refine wm_callV (y := mX4_addErasers) mX4_takeLeft [0, 1, 2, 3, 4, 5] (pc := 17) (rest := []) (mc' := 0) (ms' := 0) (by decide +kernel) kX4_69 (c_X4_takeLeft LP1 AL1 ru le1 PH1 TE1 LD kn hl1 (fun j _ => hO1.1 j) (phr k) (hphr k (by omega))) rfl rfl ⟨_, rfl, rfl⟩ ⟨Nat.le_of_ble_eq_true rfl, Nat.le_of_ble_eq_true rfl⟩ ⟨Nat.le_of_ble_eq_true rfl, Nat.le_of_ble_eq_true rfl⟩ (Nat.le_of_ble_eq_true rfl) rfl rfl (Nat.le_of_ble_eq_true rfl) rfl ?_
        rintro _ _ (⟨kk, hk1, rfl, rfl⟩ | ⟨hk1, ⟨hk2, rfl, rfl⟩ | ⟨hk2, rfl, rfl⟩⟩)
        · 
          have hkl := (fnd_spec hk1).1
          show WM mX4_addErasers 0 0 Post 10 20 [(0, .ref 0), (1, .ref 6), (2, vI (k : Int))] [vI (kk : Int)] [ob 4 [.ref 1, .ref 2, vI (ru : Int), vI (le1 : Int), .ref 3, .ref 4, .ref 5, vZ kn], cN 60 LP1, cN 60 AL1, cN 480 PH1, cN 480 TE1, cK 60 LD, ob 3 [.ref 7, .ref 8, .ref 9, vI (s : Int), vI (ah : Int), vZ ar, vI (q : Int)], cN 16 lens, cN 16 tens, cN 16 phr] 0 0
          refine sq_ok rfl [(.istore_n 3, 0, 0, 0), (.iload_n 3, 0, 0, 0), (.ifCond .lt 14, 0, 0, 0)] 20 _ _ _ _ _ (by decide +kernel) ?_
          show (kI (kk : Int) < kI 0 → WM mX4_addErasers 0 0 Post 10 36 [(0, .ref 0), (1, .ref 6), (2, vI (k : Int)), (3, vI (kk : Int))] [] [ob 4 [.ref 1, .ref 2, vI (ru : Int), vI (le1 : Int), .ref 3, .ref 4, .ref 5, vZ kn], cN 60 LP1, cN 60 AL1, cN 480 PH1, cN 480 TE1, cK 60 LD, ob 3 [.ref 7, .ref 8, .ref 9, vI (s : Int), vI (ah : Int), vZ ar, vI (q : Int)], cN 16 lens, cN 16 tens, cN 16 phr] 0 0) ∧ (¬ kI (kk : Int) < kI 0 → WM mX4_addErasers 0 0 Post 10 25 [(0, .ref 0), (1, .ref 6), (2, vI (k : Int)), (3, vI (kk : Int))] [] [ob 4 [.ref 1, .ref 2, vI (ru : Int), vI (le1 : Int), .ref 3, .ref 4, .ref 5, vZ kn], cN 60 LP1, cN 60 AL1, cN 480 PH1, cN 480 TE1, cK 60 LD, ob 3 [.ref 7, .ref 8, .ref 9, vI (s : Int), vI (ah : Int), vZ ar, vI (q : Int)], cN 16 lens, cN 16 tens, cN 16 phr] 0 0)
          refine ⟨fun c22 => ?_, fun c22 => ?_⟩
          · 
            rw [kI_lt (by omega)] at c22
            refine sq_ok rfl [(.iconst 0, 0, 0, 0), (.ireturn, 0, 0, 0)] 36 _ _ _ _ _ (by decide +kernel) ?_
            show narrow .boolean (.int (kI 0)) = .int (kI 0) ∧ ((0 ≤ 0 ∧ 0 ≤ 0) ∧ Post (some (vI 0)) [ob 4 [.ref 1, .ref 2, vI (ru : Int), vI (le1 : Int), .ref 3, .ref 4, .ref 5, vZ kn], cN 60 LP1, cN 60 AL1, cN 480 PH1, cN 480 TE1, cK 60 LD, ob 3 [.ref 7, .ref 8, .ref 9, vI (s : Int), vI (ah : Int), vZ ar, vI (q : Int)], cN 16 lens, cN 16 tens, cN 16 phr])
            refine ⟨(bI_fits false).1, ?_⟩
            refine ⟨⟨Nat.le_refl _, Nat.le_refl _⟩, hPo _ _ ?_⟩
            first
            | exact ⟨LP1, AL1, PH1, TE1, le1, false, rfl, rfl, by rw [if_neg (by decide)]; exact ⟨by rw [hq, mLefts_full (mTake_full hk1 hk2)] <;> rfl, hO1⟩⟩
            | exact ⟨_, _, _, _, _, false, rfl, rfl, by rw [if_neg (by decide)]; exact ⟨by rw [hq, mLefts_cons (mTake_hit hk1), mAlts_full hb.1] <;> rfl, hb.2⟩⟩
            | exact ⟨_, _, _, _, _, false, rfl, rfl, by rw [if_neg (by decide)]; exact ⟨by rw [hq, mLefts_cons (mTake_new hk1 hk2), mAlts_full hb.1] <;> rfl, hb.2⟩⟩
            | (exfalso; omega)
          · 
            rw [kI_lt (by omega)] at c22
            refine sq_ok rfl [(.aload_n 0, 0, 0, 0), (.iload_n 3, 0, 0, 0), (.iconst 0, 0, 0, 0), (.bipush 10, 0, 0, 0)] 25 _ _ _ _ _ (by decide +kernel) ?_
            show WM mX4_addErasers 0 0 Post 10 30 [(0, .ref 0), (1, .ref 6), (2, vI (k : Int)), (3, vI (kk : Int))] [vI 10, vI 0, vI (kk : Int), .ref 0] [ob 4 [.ref 1, .ref 2, vI (ru : Int), vI (le1 : Int), .ref 3, .ref 4, .ref 5, vZ kn], cN 60 LP1, cN 60 AL1, cN 480 PH1, cN 480 TE1, cK 60 LD, ob 3 [.ref 7, .ref 8, .ref 9, vI (s : Int), vI (ah : Int), vZ ar, vI (q : Int)], cN 16 lens, cN 16 tens, cN 16 phr] 0 0
            refine wm_callV (y := mX4_addErasers) mX4_addAlternative [0, 1, 2, 3, 4, 5] (pc := 30) (rest := []) (mc' := 0) (ms' := 0) (by decide +kernel) kX4_73 (c_X4_addAlternative LP1 AL1 ru le1 PH1 TE1 LD kn (by omega) hO1 kk 0 10 (by omega) (by omega) (by omega)) rfl rfl ⟨_, rfl, rfl⟩ ⟨Nat.le_of_ble_eq_true rfl, Nat.le_of_ble_eq_true rfl⟩ ⟨Nat.le_of_ble_eq_true rfl, Nat.le_of_ble_eq_true rfl⟩ (Nat.le_of_ble_eq_true rfl) rfl rfl (Nat.le_of_ble_eq_true rfl) rfl ?_
            rintro _ _ ⟨AL3, PH3, TE3, b, rfl, rfl, hb⟩
            show WM mX4_addErasers 0 0 Post 10 33 [(0, .ref 0), (1, .ref 6), (2, vI (k : Int)), (3, vI (kk : Int))] [vZ b] [ob 4 [.ref 1, .ref 2, vI (ru : Int), vI (le1 : Int), .ref 3, .ref 4, .ref 5, vZ kn], cN 60 LP1, cN 60 AL3, cN 480 PH3, cN 480 TE3, cK 60 LD, ob 3 [.ref 7, .ref 8, .ref 9, vI (s : Int), vI (ah : Int), vZ ar, vI (q : Int)], cN 16 lens, cN 16 tens, cN 16 phr] 0 0
            refine sq_ok rfl [(.ifCond .ne 5, 0, 0, 0)] 33 _ _ _ _ _ (by decide +kernel) ?_
            show (¬ (bI b) = kI 0 → WM mX4_addErasers 0 0 Post 10 38 [(0, .ref 0), (1, .ref 6), (2, vI (k : Int)), (3, vI (kk : Int))] [] [ob 4 [.ref 1, .ref 2, vI (ru : Int), vI (le1 : Int), .ref 3, .ref 4, .ref 5, vZ kn], cN 60 LP1, cN 60 AL3, cN 480 PH3, cN 480 TE3, cK 60 LD, ob 3 [.ref 7, .ref 8, .ref 9, vI (s : Int), vI (ah : Int), vZ ar, vI (q : Int)], cN 16 lens, cN 16 tens, cN 16 phr] 0 0) ∧ ((bI b) = kI 0 → WM mX4_addErasers 0 0 Post 10 36 [(0, .ref 0), (1, .ref 6), (2, vI (k : Int)), (3, vI (kk : Int))] [] [ob 4 [.ref 1, .ref 2, vI (ru : Int), vI (le1 : Int), .ref 3, .ref 4, .ref 5, vZ kn], cN 60 LP1, cN 60 AL3, cN 480 PH3, cN 480 TE3, cK 60 LD, ob 3 [.ref 7, .ref 8, .ref 9, vI (s : Int), vI (ah : Int), vZ ar, vI (q : Int)], cN 16 lens, cN 16 tens, cN 16 phr] 0 0)
            refine ⟨fun c33 => ?_, fun c33 => ?_⟩
            · 
              rw [bI_eq0] at c33
              have hb1 : b = true := by cases b <;> simp_all
              rw [if_pos hb1] at hb
              refine sq_ok rfl [(.iinc 2 1, 0, 0, 0), (.goto (-39), 0, 0, 0)] 38 _ _ _ _ _ (by decide +kernel) ?_
              show WM mX4_addErasers 0 0 Post 10 2 [(0, .ref 0), (1, .ref 6), (2, .int ((kI (k : Int)) + (kI 1))), (3, vI (kk : Int))] [] [ob 4 [.ref 1, .ref 2, vI (ru : Int), vI (le1 : Int), .ref 3, .ref 4, .ref 5, vZ kn], cN 60 LP1, cN 60 AL3, cN 480 PH3, cN 480 TE3, cK 60 LD, ob 3 [.ref 7, .ref 8, .ref 9, vI (s : Int), vI (ah : Int), vZ ar, vI (q : Int)], cN 16 lens, cN 16 tens, cN 16 phr] 0 0
              have e4 : ((kI (k : Int)) + (kI 1)) = kI (((k + 1) : Nat) : Int) := by first | (simp only [kI_add, kI_sub, kI_mul]; done) | (simp only [kI_add, kI_sub, kI_mul]; rfl)
              rw [e4]
              exact WM.pick [0, 1, 2] rfl (ih2 (k + 1) LP1 AL3 le1 PH3 TE3 (by omega) hb.2 (by omega) (by first | (rw [hq, mLefts_cons (mTake_hit hk1), mAlts_cons hb.1]; rfl) | (rw [hq, mLefts_cons (mTake_new hk1 hk2), mAlts_cons hb.1]; rfl)) (by omega))
            · 
              rw [bI_eq0] at c33
              rw [c33] at hb
              rw [if_neg (by decide)] at hb
              refine sq_ok rfl [(.iconst 0, 0, 0, 0), (.ireturn, 0, 0, 0)] 36 _ _ _ _ _ (by decide +kernel) ?_
              show narrow .boolean (.int (kI 0)) = .int (kI 0) ∧ ((0 ≤ 0 ∧ 0 ≤ 0) ∧ Post (some (vI 0)) [ob 4 [.ref 1, .ref 2, vI (ru : Int), vI (le1 : Int), .ref 3, .ref 4, .ref 5, vZ kn], cN 60 LP1, cN 60 AL3, cN 480 PH3, cN 480 TE3, cK 60 LD, ob 3 [.ref 7, .ref 8, .ref 9, vI (s : Int), vI (ah : Int), vZ ar, vI (q : Int)], cN 16 lens, cN 16 tens, cN 16 phr])
              refine ⟨(bI_fits false).1, ?_⟩
              refine ⟨⟨Nat.le_refl _, Nat.le_refl _⟩, hPo _ _ ?_⟩
              first
              | exact ⟨LP1, AL1, PH1, TE1, le1, false, rfl, rfl, by rw [if_neg (by decide)]; exact ⟨by rw [hq, mLefts_full (mTake_full hk1 hk2)] <;> rfl, hO1⟩⟩
              | exact ⟨_, _, _, _, _, false, rfl, rfl, by rw [if_neg (by decide)]; exact ⟨by rw [hq, mLefts_cons (mTake_hit hk1), mAlts_full hb.1] <;> rfl, hb.2⟩⟩
              | exact ⟨_, _, _, _, _, false, rfl, rfl, by rw [if_neg (by decide)]; exact ⟨by rw [hq, mLefts_cons (mTake_new hk1 hk2), mAlts_full hb.1] <;> rfl, hb.2⟩⟩
              | (exfalso; omega)
        · 
          show WM mX4_addErasers 0 0 Post 10 20 [(0, .ref 0), (1, .ref 6), (2, vI (k : Int))] [vI (-2)] [ob 4 [.ref 1, .ref 2, vI (ru : Int), vI (le1 : Int), .ref 3, .ref 4, .ref 5, vZ kn], cN 60 LP1, cN 60 AL1, cN 480 PH1, cN 480 TE1, cK 60 LD, ob 3 [.ref 7, .ref 8, .ref 9, vI (s : Int), vI (ah : Int), vZ ar, vI (q : Int)], cN 16 lens, cN 16 tens, cN 16 phr] 0 0
          refine sq_ok rfl [(.istore_n 3, 0, 0, 0), (.iload_n 3, 0, 0, 0), (.ifCond .lt 14, 0, 0, 0)] 20 _ _ _ _ _ (by decide +kernel) ?_
          show (kI (-2) < kI 0 → WM mX4_addErasers 0 0 Post 10 36 [(0, .ref 0), (1, .ref 6), (2, vI (k : Int)), (3, vI (-2))] [] [ob 4 [.ref 1, .ref 2, vI (ru : Int), vI (le1 : Int), .ref 3, .ref 4, .ref 5, vZ kn], cN 60 LP1, cN 60 AL1, cN 480 PH1, cN 480 TE1, cK 60 LD, ob 3 [.ref 7, .ref 8, .ref 9, vI (s : Int), vI (ah : Int), vZ ar, vI (q : Int)], cN 16 lens, cN 16 tens, cN 16 phr] 0 0) ∧ (¬ kI (-2) < kI 0 → WM mX4_addErasers 0 0 Post 10 25 [(0, .ref 0), (1, .ref 6), (2, vI (k : Int)), (3, vI (-2))] [] [ob 4 [.ref 1, .ref 2, vI (ru : Int), vI (le1 : Int), .ref 3, .ref 4, .ref 5, vZ kn], cN 60 LP1, cN 60 AL1, cN 480 PH1, cN 480 TE1, cK 60 LD, ob 3 [.ref 7, .ref 8, .ref 9, vI (s : Int), vI (ah : Int), vZ ar, vI (q : Int)], cN 16 lens, cN 16 tens, cN 16 phr] 0 0)
          refine ⟨fun c22 => ?_, fun c22 => ?_⟩
          · 
            rw [kI_lt (by omega)] at c22
            refine sq_ok rfl [(.iconst 0, 0, 0, 0), (.ireturn, 0, 0, 0)] 36 _ _ _ _ _ (by decide +kernel) ?_
            show narrow .boolean (.int (kI 0)) = .int (kI 0) ∧ ((0 ≤ 0 ∧ 0 ≤ 0) ∧ Post (some (vI 0)) [ob 4 [.ref 1, .ref 2, vI (ru : Int), vI (le1 : Int), .ref 3, .ref 4, .ref 5, vZ kn], cN 60 LP1, cN 60 AL1, cN 480 PH1, cN 480 TE1, cK 60 LD, ob 3 [.ref 7, .ref 8, .ref 9, vI (s : Int), vI (ah : Int), vZ ar, vI (q : Int)], cN 16 lens, cN 16 tens, cN 16 phr])
            refine ⟨(bI_fits false).1, ?_⟩
            refine ⟨⟨Nat.le_refl _, Nat.le_refl _⟩, hPo _ _ ?_⟩
            first
            | exact ⟨LP1, AL1, PH1, TE1, le1, false, rfl, rfl, by rw [if_neg (by decide)]; exact ⟨by rw [hq, mLefts_full (mTake_full hk1 hk2)] <;> rfl, hO1⟩⟩
            | exact ⟨_, _, _, _, _, false, rfl, rfl, by rw [if_neg (by decide)]; exact ⟨by rw [hq, mLefts_cons (mTake_hit hk1), mAlts_full hb.1] <;> rfl, hb.2⟩⟩
            | exact ⟨_, _, _, _, _, false, rfl, rfl, by rw [if_neg (by decide)]; exact ⟨by rw [hq, mLefts_cons (mTake_new hk1 hk2), mAlts_full hb.1] <;> rfl, hb.2⟩⟩
            | (exfalso; omega)
          · 
            exact absurd c22 (by decide)
        · 
          show WM mX4_addErasers 0 0 Post 10 20 [(0, .ref 0), (1, .ref 6), (2, vI (k : Int))] [vI (le1 : Int)] [ob 4 [.ref 1, .ref 2, vI (ru : Int), vI (((le1 + 1) : Nat) : Int), .ref 3, .ref 4, .ref 5, vZ kn], cN 60 (va_up LP1 le1 (phr k)), cN 60 (va_up AL1 le1 0), cN 480 PH1, cN 480 TE1, cK 60 LD, ob 3 [.ref 7, .ref 8, .ref 9, vI (s : Int), vI (ah : Int), vZ ar, vI (q : Int)], cN 16 lens, cN 16 tens, cN 16 phr] 0 0
          refine sq_ok rfl [(.istore_n 3, 0, 0, 0), (.iload_n 3, 0, 0, 0), (.ifCond .lt 14, 0, 0, 0)] 20 _ _ _ _ _ (by decide +kernel) ?_
          show (kI (le1 : Int) < kI 0 → WM mX4_addErasers 0 0 Post 10 36 [(0, .ref 0), (1, .ref 6), (2, vI (k : Int)), (3, vI (le1 : Int))] [] [ob 4 [.ref 1, .ref 2, vI (ru : Int), vI (((le1 + 1) : Nat) : Int), .ref 3, .ref 4, .ref 5, vZ kn], cN 60 (va_up LP1 le1 (phr k)), cN 60 (va_up AL1 le1 0), cN 480 PH1, cN 480 TE1, cK 60 LD, ob 3 [.ref 7, .ref 8, .ref 9, vI (s : Int), vI (ah : Int), vZ ar, vI (q : Int)], cN 16 lens, cN 16 tens, cN 16 phr] 0 0) ∧ (¬ kI (le1 : Int) < kI 0 → WM mX4_addErasers 0 0 Post 10 25 [(0, .ref 0), (1, .ref 6), (2, vI (k : Int)), (3, vI (le1 : Int))] [] [ob 4 [.ref 1, .ref 2, vI (ru : Int), vI (((le1 + 1) : Nat) : Int), .ref 3, .ref 4, .ref 5, vZ kn], cN 60 (va_up LP1 le1 (phr k)), cN 60 (va_up AL1 le1 0), cN 480 PH1, cN 480 TE1, cK 60 LD, ob 3 [.ref 7, .ref 8, .ref 9, vI (s : Int), vI (ah : Int), vZ ar, vI (q : Int)], cN 16 lens, cN 16 tens, cN 16 phr] 0 0)
          refine ⟨fun c22 => ?_, fun c22 => ?_⟩
          · 
            rw [kI_lt (by omega)] at c22
            refine sq_ok rfl [(.iconst 0, 0, 0, 0), (.ireturn, 0, 0, 0)] 36 _ _ _ _ _ (by decide +kernel) ?_
            show narrow .boolean (.int (kI 0)) = .int (kI 0) ∧ ((0 ≤ 0 ∧ 0 ≤ 0) ∧ Post (some (vI 0)) [ob 4 [.ref 1, .ref 2, vI (ru : Int), vI (((le1 + 1) : Nat) : Int), .ref 3, .ref 4, .ref 5, vZ kn], cN 60 (va_up LP1 le1 (phr k)), cN 60 (va_up AL1 le1 0), cN 480 PH1, cN 480 TE1, cK 60 LD, ob 3 [.ref 7, .ref 8, .ref 9, vI (s : Int), vI (ah : Int), vZ ar, vI (q : Int)], cN 16 lens, cN 16 tens, cN 16 phr])
            refine ⟨(bI_fits false).1, ?_⟩
            refine ⟨⟨Nat.le_refl _, Nat.le_refl _⟩, hPo _ _ ?_⟩
            first
            | exact ⟨LP1, AL1, PH1, TE1, le1, false, rfl, rfl, by rw [if_neg (by decide)]; exact ⟨by rw [hq, mLefts_full (mTake_full hk1 hk2)] <;> rfl, hO1⟩⟩
            | exact ⟨_, _, _, _, _, false, rfl, rfl, by rw [if_neg (by decide)]; exact ⟨by rw [hq, mLefts_cons (mTake_hit hk1), mAlts_full hb.1] <;> rfl, hb.2⟩⟩
            | exact ⟨_, _, _, _, _, false, rfl, rfl, by rw [if_neg (by decide)]; exact ⟨by rw [hq, mLefts_cons (mTake_new hk1 hk2), mAlts_full hb.1] <;> rfl, hb.2⟩⟩
            | (exfalso; omega)
          · 
            rw [kI_lt (by omega)] at c22
            refine sq_ok rfl [(.aload_n 0, 0, 0, 0), (.iload_n 3, 0, 0, 0), (.iconst 0, 0, 0, 0), (.bipush 10, 0, 0, 0)] 25 _ _ _ _ _ (by decide +kernel) ?_
            show WM mX4_addErasers 0 0 Post 10 30 [(0, .ref 0), (1, .ref 6), (2, vI (k : Int)), (3, vI (le1 : Int))] [vI 10, vI 0, vI (le1 : Int), .ref 0] [ob 4 [.ref 1, .ref 2, vI (ru : Int), vI (((le1 + 1) : Nat) : Int), .ref 3, .ref 4, .ref 5, vZ kn], cN 60 (va_up LP1 le1 (phr k)), cN 60 (va_up AL1 le1 0), cN 480 PH1, cN 480 TE1, cK 60 LD, ob 3 [.ref 7, .ref 8, .ref 9, vI (s : Int), vI (ah : Int), vZ ar, vI (q : Int)], cN 16 lens, cN 16 tens, cN 16 phr] 0 0
            refine wm_callV (y := mX4_addErasers) mX4_addAlternative [0, 1, 2, 3, 4, 5] (pc := 30) (rest := []) (mc' := 0) (ms' := 0) (by decide +kernel) kX4_73 (c_X4_addAlternative (va_up LP1 le1 (phr k)) (va_up AL1 le1 0) ru (le1 + 1) PH1 TE1 LD kn (by omega) (rOK_new hO1 (hphr k (by omega))) le1 0 10 (by omega) (by omega) (by omega)) rfl rfl ⟨_, rfl, rfl⟩ ⟨Nat.le_of_ble_eq_true rfl, Nat.le_of_ble_eq_true rfl⟩ ⟨Nat.le_of_ble_eq_true rfl, Nat.le_of_ble_eq_true rfl⟩ (Nat.le_of_ble_eq_true rfl) rfl rfl (Nat.le_of_ble_eq_true rfl) rfl ?_
            rintro _ _ ⟨AL3, PH3, TE3, b, rfl, rfl, hb⟩
            show WM mX4_addErasers 0 0 Post 10 33 [(0, .ref 0), (1, .ref 6), (2, vI (k : Int)), (3, vI (le1 : Int))] [vZ b] [ob 4 [.ref 1, .ref 2, vI (ru : Int), vI (((le1 + 1) : Nat) : Int), .ref 3, .ref 4, .ref 5, vZ kn], cN 60 (va_up LP1 le1 (phr k)), cN 60 AL3, cN 480 PH3, cN 480 TE3, cK 60 LD, ob 3 [.ref 7, .ref 8, .ref 9, vI (s : Int), vI (ah : Int), vZ ar, vI (q : Int)], cN 16 lens, cN 16 tens, cN 16 phr] 0 0
            refine sq_ok rfl [(.ifCond .ne 5, 0, 0, 0)] 33 _ _ _ _ _ (by decide +kernel) ?_
            show (¬ (bI b) = kI 0 → WM mX4_addErasers 0 0 Post 10 38 [(0, .ref 0), (1, .ref 6), (2, vI (k : Int)), (3, vI (le1 : Int))] [] [ob 4 [.ref 1, .ref 2, vI (ru : Int), vI (((le1 + 1) : Nat) : Int), .ref 3, .ref 4, .ref 5, vZ kn], cN 60 (va_up LP1 le1 (phr k)), cN 60 AL3, cN 480 PH3, cN 480 TE3, cK 60 LD, ob 3 [.ref 7, .ref 8, .ref 9, vI (s : Int), vI (ah : Int), vZ ar, vI (q : Int)], cN 16 lens, cN 16 tens, cN 16 phr] 0 0) ∧ ((bI b) = kI 0 → WM mX4_addErasers 0 0 Post 10 36 [(0, .ref 0), (1, .ref 6), (2, vI (k : Int)), (3, vI (le1 : Int))] [] [ob 4 [.ref 1, .ref 2, vI (ru : Int), vI (((le1 + 1) : Nat) : Int), .ref 3, .ref 4, .ref 5, vZ kn], cN 60 (va_up LP1 le1 (phr k)), cN 60 AL3, cN 480 PH3, cN 480 TE3, cK 60 LD, ob 3 [.ref 7, .ref 8, .ref 9, vI (s : Int), vI (ah : Int), vZ ar, vI (q : Int)], cN 16 lens, cN 16 tens, cN 16 phr] 0 0)
            refine ⟨fun c33 => ?_, fun c33 => ?_⟩
            · 
              rw [bI_eq0] at c33
              have hb1 : b = true := by cases b <;> simp_all
              rw [if_pos hb1] at hb
              refine sq_ok rfl [(.iinc 2 1, 0, 0, 0), (.goto (-39), 0, 0, 0)] 38 _ _ _ _ _ (by decide +kernel) ?_
              show WM mX4_addErasers 0 0 Post 10 2 [(0, .ref 0), (1, .ref 6), (2, .int ((kI (k : Int)) + (kI 1))), (3, vI (le1 : Int))] [] [ob 4 [.ref 1, .ref 2, vI (ru : Int), vI (((le1 + 1) : Nat) : Int), .ref 3, .ref 4, .ref 5, vZ kn], cN 60 (va_up LP1 le1 (phr k)), cN 60 AL3, cN 480 PH3, cN 480 TE3, cK 60 LD, ob 3 [.ref 7, .ref 8, .ref 9, vI (s : Int), vI (ah : Int), vZ ar, vI (q : Int)], cN 16 lens, cN 16 tens, cN 16 phr] 0 0
              have e8 : ((kI (k : Int)) + (kI 1)) = kI (((k + 1) : Nat) : Int) := by first | (simp only [kI_add, kI_sub, kI_mul]; done) | (simp only [kI_add, kI_sub, kI_mul]; rfl)
              rw [e8]
              exact WM.pick [0, 1, 2] rfl (ih2 (k + 1) (va_up LP1 le1 (phr k)) AL3 (le1 + 1) PH3 TE3 (by omega) hb.2 (by omega) (by first | (rw [hq, mLefts_cons (mTake_hit hk1), mAlts_cons hb.1]; rfl) | (rw [hq, mLefts_cons (mTake_new hk1 hk2), mAlts_cons hb.1]; rfl)) (by omega))
            · 
              rw [bI_eq0] at c33
              rw [c33] at hb
              rw [if_neg (by decide)] at hb
              refine sq_ok rfl [(.iconst 0, 0, 0, 0), (.ireturn, 0, 0, 0)] 36 _ _ _ _ _ (by decide +kernel) ?_
              show narrow .boolean (.int (kI 0)) = .int (kI 0) ∧ ((0 ≤ 0 ∧ 0 ≤ 0) ∧ Post (some (vI 0)) [ob 4 [.ref 1, .ref 2, vI (ru : Int), vI (((le1 + 1) : Nat) : Int), .ref 3, .ref 4, .ref 5, vZ kn], cN 60 (va_up LP1 le1 (phr k)), cN 60 AL3, cN 480 PH3, cN 480 TE3, cK 60 LD, ob 3 [.ref 7, .ref 8, .ref 9, vI (s : Int), vI (ah : Int), vZ ar, vI (q : Int)], cN 16 lens, cN 16 tens, cN 16 phr])
              refine ⟨(bI_fits false).1, ?_⟩
              refine ⟨⟨Nat.le_refl _, Nat.le_refl _⟩, hPo _ _ ?_⟩
              first
              | exact ⟨LP1, AL1, PH1, TE1, le1, false, rfl, rfl, by rw [if_neg (by decide)]; exact ⟨by rw [hq, mLefts_full (mTake_full hk1 hk2)] <;> rfl, hO1⟩⟩
              | exact ⟨_, _, _, _, _, false, rfl, rfl, by rw [if_neg (by decide)]; exact ⟨by rw [hq, mLefts_cons (mTake_hit hk1), mAlts_full hb.1] <;> rfl, hb.2⟩⟩
              | exact ⟨_, _, _, _, _, false, rfl, rfl, by rw [if_neg (by decide)]; exact ⟨by rw [hq, mLefts_cons (mTake_new hk1 hk2), mAlts_full hb.1] <;> rfl, hb.2⟩⟩
              | (exfalso; omega)
  exact WM.pick [0, 1, 2] rfl (lp2 _ 0 LP AL le PH TE (by omega) hO (by omega) rfl (Nat.lt_succ_self _))
