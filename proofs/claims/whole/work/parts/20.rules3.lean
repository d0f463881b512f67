/-! Rules: what a rule tells -/
abbrev Rl : Type := List (Nat × List (Nat × Nat))
abbrev rabs (LP AL PH TE : Nat → Nat) (le : Nat) : Rl := lst (fun l => (LP l, al PH TE l (AL l))) le
def rOK (LP AL PH TE : Nat → Nat) : Prop := (∀ j, LP j < 4294967296) ∧ (∀ j, AL j ≤ 8) ∧ (∀ j, PH j < 4294967296) ∧ (∀ j, TE j ≤ 10)
def mTake (X : Rl) (p : Nat) : Option (Rl × Nat) := match fnd (fun k => (X[k]?).map Prod.fst == some p) X.length with
  | some k => some (X, k)
  | none => if X.length < 60 then some (X ++ [(p, [])], X.length) else none
def mAlt (X : Rl) (l ph v : Nat) : Option Rl := match X[l]? with
  | some x => (altAdd x.2 ph v).map (fun A => X.set l (x.1, A))
  | none => none
def mAlts : Rl → Nat → List (Nat × Nat) → Option Rl
  | X, _, [] => some X
  | X, l, x :: xs => (mAlt X l x.1 x.2).bind (fun X => mAlts X l xs)
def mLefts : Rl → List Nat → List (Nat × Nat) → Option Rl
  | X, [], _ => some X
  | X, p :: ps, A => (mTake X p).bind (fun q => (mAlts q.1 q.2 A).bind (fun X => mLefts X ps A))
theorem rabs_set {LP AL PH TE AL2 PH2 TE2 : Nat → Nat} {le l : Nat} (hl : l < le) (h1 : ∀ j, j ≠ l → AL2 j = AL j) (h2 : ∀ j, (j < 8 * l ∨ 8 * l + 8 ≤ j) → PH2 j = PH j ∧ TE2 j = TE j) (hA : ∀ j, AL j ≤ 8) : rabs LP AL2 PH2 TE2 le = (rabs LP AL PH TE le).set l (LP l, al PH2 TE2 l (AL2 l)) := by
  apply List.ext_getElem?
  intro j
  rw [List.getElem?_set, lst_len]
  by_cases e : l = j
  · subst e
    rw [if_pos rfl, if_pos hl, lst_get _ hl]
  · rw [if_neg e]
    by_cases hj : j < le
    · rw [lst_get _ hj, lst_get _ hj, h1 j (fun q => e q.symm)]
      congr 2
      refine lst_ext fun a ha => ?_
      have := hA j
      have h3 := h2 (8 * j + a) (by omega)
      rw [h3.1, h3.2]
    · rw [List.getElem?_eq_none (by rw [lst_len]; omega), List.getElem?_eq_none (by rw [lst_len]; omega)]
theorem rabs_at {LP AL PH TE : Nat → Nat} {le l : Nat} (hl : l < le) : (rabs LP AL PH TE le)[l]? = some (LP l, al PH TE l (AL l)) := lst_get _ hl
theorem mAlt_some {LP AL PH TE AL2 PH2 TE2 : Nat → Nat} {le l ph v : Nat} (hl : l < le) (h1 : ∀ j, j ≠ l → AL2 j = AL j) (h2 : ∀ j, (j < 8 * l ∨ 8 * l + 8 ≤ j) → PH2 j = PH j ∧ TE2 j = TE j) (hA : ∀ j, AL j ≤ 8) (h : altAdd (al PH TE l (AL l)) ph v = some (al PH2 TE2 l (AL2 l))) : mAlt (rabs LP AL PH TE le) l ph v = some (rabs LP AL2 PH2 TE2 le) := by
  unfold mAlt
  rw [rabs_at hl]
  simp only [h, Option.map_some]
  rw [rabs_set hl h1 h2 hA]
theorem mAlt_none {LP AL PH TE : Nat → Nat} {le l ph v : Nat} (hl : l < le) (h : altAdd (al PH TE l (AL l)) ph v = none) : mAlt (rabs LP AL PH TE le) l ph v = none := by
  unfold mAlt
  rw [rabs_at hl]
  simp only [h, Option.map_none]
theorem alt_hit {PH TE TE2 : Nat → Nat} {l n i ph v : Nat} (h1 : l * 8 ≤ i) (h2 : i < l * 8 + n) (hp : PH i = ph) (hq : ∀ j, l * 8 ≤ j → j < i → ¬ PH j = ph) (ht : TE2 = va_up TE i (max (TE i) v)) : altAdd (al PH TE l n) ph v = some (al PH TE2 l n) := by
  unfold altAdd
  rw [fnd_al, fnd_some (k := i - 8 * l) (by omega) (by simp [show 8 * l + (i - 8 * l) = i by omega, hp]) (fun j hj => by simp [hq (8 * l + j) (by omega) (by omega)])]
  simp only [Option.some.injEq]
  symm
  subst ht
  refine lst_modify (k := i - 8 * l) (by omega) ?_ (fun j hj hne => ?_)
  · simp only [show 8 * l + (i - 8 * l) = i by omega, up_eq]
  · rw [up_ne _ _ (by omega)]
theorem alt_new {PH TE : Nat → Nat} {l n ph v : Nat} (hn : n < 8) (hq : ∀ j, l * 8 ≤ j → j < l * 8 + n → ¬ PH j = ph) : altAdd (al PH TE l n) ph v = some (al (va_up PH (l * 8 + n) ph) (va_up TE (l * 8 + n) v) l (n + 1)) := by
  unfold altAdd
  rw [fnd_al, fnd_none (fun j hj => by simp [hq (8 * l + j) (by omega) (by omega)])]
  simp only [lst_len]
  rw [if_pos hn]
  congr 1
  unfold al
  rw [lst_succ]
  congr 1
  · refine lst_ext fun j hj => ?_
    rw [up_ne _ _ (by omega), up_ne _ _ (by omega)]
  · rw [show 8 * l + n = l * 8 + n by omega, up_eq, up_eq]
theorem alt_full {PH TE : Nat → Nat} {l n ph v : Nat} (hn : ¬ n < 8) (hq : ∀ j, l * 8 ≤ j → j < l * 8 + n → ¬ PH j = ph) : altAdd (al PH TE l n) ph v = none := by
  unfold altAdd
  rw [fnd_al, fnd_none (fun j hj => by simp [hq (8 * l + j) (by omega) (by omega)])]
  simp only [lst_len]
  rw [if_neg hn]
theorem up_all {P : Nat → Prop} {f : Nat → Nat} {k v : Nat} (h : ∀ j, P (f j)) (hv : P v) : ∀ j, P (va_up f k v j) := by
  intro j
  unfold va_up
  split
  · exact hv
  · exact h j

set_option maxRecDepth 100000 in
set_option maxHeartbeats 500000 in
theorem c_X4_addAlternative (LP AL : Nat → Nat) (ru le : Nat) (PH TE LD : Nat → Nat) (kn : Bool) (hle : le ≤ 60) (hO : rOK LP AL PH TE) (l ph v : Nat) (hl : l < le) (hph : ph < 4294967296) (hv : v ≤ 10) : CT mX4_addAlternative 0 0 [.ref 0, vI (l : Int), vI (ph : Int), vI (v : Int)] [ob 4 [.ref 1, .ref 2, vI (ru : Int), vI (le : Int), .ref 3, .ref 4, .ref 5, vZ kn], cN 60 LP, cN 60 AL, cN 480 PH, cN 480 TE, cK 60 LD] (fun r w => ∃ (AL2 PH2 TE2 : Nat → Nat) (b : Bool), r = some (vZ b) ∧ w = [ob 4 [.ref 1, .ref 2, vI (ru : Int), vI (le : Int), .ref 3, .ref 4, .ref 5, vZ kn], cN 60 LP, cN 60 AL2, cN 480 PH2, cN 480 TE2, cK 60 LD] ∧ if b then mAlt (rabs LP AL PH TE le) l ph v = some (rabs LP AL2 PH2 TE2 le) ∧ rOK LP AL2 PH2 TE2 else (mAlt (rabs LP AL PH TE le) l ph v = none ∧ rOK LP AL2 PH2 TE2)) := by
  refine CT.intro rfl (Nat.le_of_ble_eq_true rfl) ?_
  generalize hPost : (fun r w => ∃ (AL2 PH2 TE2 : Nat → Nat) (b : Bool), r = some (vZ b) ∧ w = [ob 4 [.ref 1, .ref 2, vI (ru : Int), vI (le : Int), .ref 3, .ref 4, .ref 5, vZ kn], cN 60 LP, cN 60 AL2, cN 480 PH2, cN 480 TE2, cK 60 LD] ∧ if b then mAlt (rabs LP AL PH TE le) l ph v = some (rabs LP AL2 PH2 TE2 le) ∧ rOK LP AL2 PH2 TE2 else (mAlt (rabs LP AL PH TE le) l ph v = none ∧ rOK LP AL2 PH2 TE2) : MP) = Post
  have hPo : ∀ rr ww, (fun r w => ∃ (AL2 PH2 TE2 : Nat → Nat) (b : Bool), r = some (vZ b) ∧ w = [ob 4 [.ref 1, .ref 2, vI (ru : Int), vI (le : Int), .ref 3, .ref 4, .ref 5, vZ kn], cN 60 LP, cN 60 AL2, cN 480 PH2, cN 480 TE2, cK 60 LD] ∧ if b then mAlt (rabs LP AL PH TE le) l ph v = some (rabs LP AL2 PH2 TE2 le) ∧ rOK LP AL2 PH2 TE2 else (mAlt (rabs LP AL PH TE le) l ph v = none ∧ rOK LP AL2 PH2 TE2) : MP) rr ww → Post rr ww := by rw [← hPost]; exact fun _ _ h => h
  clear hPost
  obtain ⟨o1, o2, o3, o4⟩ := id hO
  have ol := o2 l
  show WM mX4_addAlternative 0 0 Post 6 0 [(0, .ref 0), (1, vI (l : Int)), (2, vI (ph : Int)), (3, vI (v : Int))] [] [ob 4 [.ref 1, .ref 2, vI (ru : Int), vI (le : Int), .ref 3, .ref 4, .ref 5, vZ kn], cN 60 LP, cN 60 AL, cN 480 PH, cN 480 TE, cK 60 LD] 0 0
  refine sq_ok rfl [(.iload_n 1, 0, 0, 0), (.bipush 8, 0, 0, 0), (.imul, 0, 0, 0), (.istore 4, 0, 0, 0), (.iload 4, 0, 0, 0), (.istore 5, 0, 0, 0)] 0 _ _ _ _ _ (by decide +kernel) ?_
  show WM mX4_addAlternative 0 0 Post 6 10 [(0, .ref 0), (1, vI (l : Int)), (2, vI (ph : Int)), (3, vI (v : Int)), (4, .int ((kI (l : Int)) * (kI 8))), (5, .int ((kI (l : Int)) * (kI 8)))] [] [ob 4 [.ref 1, .ref 2, vI (ru : Int), vI (le : Int), .ref 3, .ref 4, .ref 5, vZ kn], cN 60 LP, cN 60 AL, cN 480 PH, cN 480 TE, cK 60 LD] 0 0
  have e1 : ((kI (l : Int)) * (kI 8)) = kI (((l * 8) : Nat) : Int) := by first | (simp only [kI_add, kI_sub, kI_mul]; done) | (simp only [kI_add, kI_sub, kI_mul]; rfl)
  rw [e1]
  have lp10 : ∀ (n10 : Nat) (i : Nat), (l * 8 ≤ i ∧ i ≤ l * 8 + AL l) → (∀ j, l * 8 ≤ j → j < i → ¬ PH j = ph) → (8 * l + 8 - i) < n10 → WM mX4_addAlternative 0 0 Post 6 10 [(0, .ref 0), (1, vI (l : Int)), (2, vI (ph : Int)), (3, vI (v : Int)), (4, vI (((l * 8) : Nat) : Int)), (5, vI (i : Int))] [] [ob 4 [.ref 1, .ref 2, vI (ru : Int), vI (le : Int), .ref 3, .ref 4, .ref 5, vZ kn], cN 60 LP, cN 60 AL, cN 480 PH, cN 480 TE, cK 60 LD] 0 0 := by
    intro n10
    induction n10 with
    | zero => intro i hi hq hm; exact absurd hm (Nat.not_lt_zero _)
    | succ n10 ih10 =>
      intro i hi hq hm10
      refine sq_ok rfl [(.iload 5, 0, 0, 0), (.iload 4, 0, 0, 0), (.aload_n 0, 0, 0, 0), (.getfield 15, 4, 1, 0), (.iload_n 1, 0, 0, 0), (.iaload, 0, 0, 0), (.iadd, 0, 0, 0), (.if_icmp .ge 40, 0, 0, 0)] 10 _ _ _ _ _ (by decide +kernel) ?_
      show ∃ j19 : Nat, mj 60 (kI (l : Int)) j19 ∧ (((kI (((l * 8) : Nat) : Int)) + (kI ((AL j19 : Nat) : Int))) ≤ kI (i : Int) → WM mX4_addAlternative 0 0 Post 6 61 [(0, .ref 0), (1, vI (l : Int)), (2, vI (ph : Int)), (3, vI (v : Int)), (4, vI (((l * 8) : Nat) : Int)), (5, vI (i : Int))] [] [ob 4 [.ref 1, .ref 2, vI (ru : Int), vI (le : Int), .ref 3, .ref 4, .ref 5, vZ kn], cN 60 LP, cN 60 AL, cN 480 PH, cN 480 TE, cK 60 LD] 0 0) ∧ (¬ ((kI (((l * 8) : Nat) : Int)) + (kI ((AL j19 : Nat) : Int))) ≤ kI (i : Int) → WM mX4_addAlternative 0 0 Post 6 24 [(0, .ref 0), (1, vI (l : Int)), (2, vI (ph : Int)), (3, vI (v : Int)), (4, vI (((l * 8) : Nat) : Int)), (5, vI (i : Int))] [] [ob 4 [.ref 1, .ref 2, vI (ru : Int), vI (le : Int), .ref 3, .ref 4, .ref 5, vZ kn], cN 60 LP, cN 60 AL, cN 480 PH, cN 480 TE, cK 60 LD] 0 0)
      refine ⟨l, ⟨by omega, by omega, rfl⟩, ?_⟩
      have e2 : ((kI (((l * 8) : Nat) : Int)) + (kI ((AL l : Nat) : Int))) = kI ((((l * 8) + (AL l)) : Nat) : Int) := by first | (simp only [kI_add, kI_sub, kI_mul]; done) | (simp only [kI_add, kI_sub, kI_mul]; rfl)
      rw [e2]
      refine ⟨fun c21 => ?_, fun c21 => ?_⟩
      · 
        rw [kI_le (by omega)] at c21
        refine sq_ok rfl [(.aload_n 0, 0, 0, 0), (.getfield 15, 4, 1, 0), (.iload_n 1, 0, 0, 0), (.iaload, 0, 0, 0), (.bipush 8, 0, 0, 0), (.if_icmp .lt 5, 0, 0, 0)] 61 _ _ _ _ _ (by decide +kernel) ?_
        show ∃ j66 : Nat, mj 60 (kI (l : Int)) j66 ∧ (kI ((AL j66 : Nat) : Int) < kI 8 → WM mX4_addAlternative 0 0 Post 6 74 [(0, .ref 0), (1, vI (l : Int)), (2, vI (ph : Int)), (3, vI (v : Int)), (4, vI (((l * 8) : Nat) : Int)), (5, vI (i : Int))] [] [ob 4 [.ref 1, .ref 2, vI (ru : Int), vI (le : Int), .ref 3, .ref 4, .ref 5, vZ kn], cN 60 LP, cN 60 AL, cN 480 PH, cN 480 TE, cK 60 LD] 0 0) ∧ (¬ kI ((AL j66 : Nat) : Int) < kI 8 → WM mX4_addAlternative 0 0 Post 6 72 [(0, .ref 0), (1, vI (l : Int)), (2, vI (ph : Int)), (3, vI (v : Int)), (4, vI (((l * 8) : Nat) : Int)), (5, vI (i : Int))] [] [ob 4 [.ref 1, .ref 2, vI (ru : Int), vI (le : Int), .ref 3, .ref 4, .ref 5, vZ kn], cN 60 LP, cN 60 AL, cN 480 PH, cN 480 TE, cK 60 LD] 0 0)
        refine ⟨l, ⟨by omega, by omega, rfl⟩, ?_⟩
        refine ⟨fun c69 => ?_, fun c69 => ?_⟩
        · 
          rw [kI_lt (by omega)] at c69
          refine sq_ok rfl [(.aload_n 0, 0, 0, 0), (.getfield 18, 4, 4, 0), (.iload 4, 0, 0, 0), (.aload_n 0, 0, 0, 0), (.getfield 15, 4, 1, 0), (.iload_n 1, 0, 0, 0), (.iaload, 0, 0, 0), (.iadd, 0, 0, 0), (.iload_n 2, 0, 0, 0), (.iastore, 0, 0, 0)] 74 _ _ _ _ _ (by decide +kernel) ?_
          show ∃ j85 : Nat, mj 60 (kI (l : Int)) j85 ∧ ∃ (j88 : Nat) (g88 : Nat → Int32), (mj 480 ((kI (((l * 8) : Nat) : Int)) + (kI ((AL j85 : Nat) : Int))) j88 ∧ g88 = upd (fun q => kI ((PH q : Nat) : Int)) j88 (kI (ph : Int))) ∧ WM mX4_addAlternative 0 0 Post 6 89 [(0, .ref 0), (1, vI (l : Int)), (2, vI (ph : Int)), (3, vI (v : Int)), (4, vI (((l * 8) : Nat) : Int)), (5, vI (i : Int))] [] [ob 4 [.ref 1, .ref 2, vI (ru : Int), vI (le : Int), .ref 3, .ref 4, .ref 5, vZ kn], cN 60 LP, cN 60 AL, .inl (0, 480, .inl g88), cN 480 TE, cK 60 LD] 0 0
          refine ⟨l, ⟨by omega, by omega, rfl⟩, ?_⟩
          refine ⟨(l * 8 + AL l), fun q => kI (((va_up PH (l * 8 + AL l) ph) q : Nat) : Int), ⟨⟨by omega, by omega, by first | rfl | (rw [kI_add]; rfl)⟩, st_N (rfl)⟩, ?_⟩
          refine sq_ok rfl [(.aload_n 0, 0, 0, 0), (.getfield 21, 4, 5, 0), (.iload 4, 0, 0, 0), (.aload_n 0, 0, 0, 0), (.getfield 15, 4, 1, 0), (.iload_n 1, 0, 0, 0), (.iaload, 0, 0, 0), (.iadd, 0, 0, 0), (.iload_n 3, 0, 0, 0), (.iastore, 0, 0, 0)] 89 _ _ _ _ _ (by decide +kernel) ?_
          show ∃ j100 : Nat, mj 60 (kI (l : Int)) j100 ∧ ∃ (j103 : Nat) (g103 : Nat → Int32), (mj 480 ((kI (((l * 8) : Nat) : Int)) + (kI ((AL j100 : Nat) : Int))) j103 ∧ g103 = upd (fun q => kI ((TE q : Nat) : Int)) j103 (kI (v : Int))) ∧ WM mX4_addAlternative 0 0 Post 6 104 [(0, .ref 0), (1, vI (l : Int)), (2, vI (ph : Int)), (3, vI (v : Int)), (4, vI (((l * 8) : Nat) : Int)), (5, vI (i : Int))] [] [ob 4 [.ref 1, .ref 2, vI (ru : Int), vI (le : Int), .ref 3, .ref 4, .ref 5, vZ kn], cN 60 LP, cN 60 AL, cN 480 (va_up PH (l * 8 + AL l) ph), .inl (0, 480, .inl g103), cK 60 LD] 0 0
          refine ⟨l, ⟨by omega, by omega, rfl⟩, ?_⟩
          refine ⟨(l * 8 + AL l), fun q => kI (((va_up TE (l * 8 + AL l) v) q : Nat) : Int), ⟨⟨by omega, by omega, by first | rfl | (rw [kI_add]; rfl)⟩, st_N (rfl)⟩, ?_⟩
          refine sq_ok rfl [(.aload_n 0, 0, 0, 0), (.getfield 15, 4, 1, 0), (.iload_n 1, 0, 0, 0), (.dup2, 0, 0, 0), (.iaload, 0, 0, 0), (.iconst 1, 0, 0, 0), (.iadd, 0, 0, 0), (.iastore, 0, 0, 0)] 104 _ _ _ _ _ (by decide +kernel) ?_
          show ∃ j110 : Nat, mj 60 (kI (l : Int)) j110 ∧ ∃ (j113 : Nat) (g113 : Nat → Int32), (mj 60 (kI (l : Int)) j113 ∧ g113 = upd (fun q => kI ((AL q : Nat) : Int)) j113 ((kI ((AL j110 : Nat) : Int)) + (kI 1))) ∧ WM mX4_addAlternative 0 0 Post 6 114 [(0, .ref 0), (1, vI (l : Int)), (2, vI (ph : Int)), (3, vI (v : Int)), (4, vI (((l * 8) : Nat) : Int)), (5, vI (i : Int))] [] [ob 4 [.ref 1, .ref 2, vI (ru : Int), vI (le : Int), .ref 3, .ref 4, .ref 5, vZ kn], cN 60 LP, .inl (0, 60, .inl g113), cN 480 (va_up PH (l * 8 + AL l) ph), cN 480 (va_up TE (l * 8 + AL l) v), cK 60 LD] 0 0
          refine ⟨l, ⟨by omega, by omega, rfl⟩, ?_⟩
          refine ⟨l, fun q => kI (((va_up AL l ((AL l) + 1)) q : Nat) : Int), ⟨⟨by omega, by omega, rfl⟩, st_N (by first | rfl | (simp only [kI_add, kI_sub, kI_mul, kL_add, kL_sub, kL_mul]; done) | (simp only [kI_add, kI_sub, kI_mul, kL_add, kL_sub, kL_mul]; rfl))⟩, ?_⟩
          refine sq_ok rfl [(.iconst 1, 0, 0, 0), (.ireturn, 0, 0, 0)] 114 _ _ _ _ _ (by decide +kernel) ?_
          show narrow .boolean (.int (kI 1)) = .int (kI 1) ∧ ((0 ≤ 0 ∧ 0 ≤ 0) ∧ Post (some (vI 1)) [ob 4 [.ref 1, .ref 2, vI (ru : Int), vI (le : Int), .ref 3, .ref 4, .ref 5, vZ kn], cN 60 LP, cN 60 (va_up AL l ((AL l) + 1)), cN 480 (va_up PH (l * 8 + AL l) ph), cN 480 (va_up TE (l * 8 + AL l) v), cK 60 LD])
          refine ⟨(bI_fits true).1, ?_⟩
          refine ⟨⟨Nat.le_refl _, Nat.le_refl _⟩, hPo _ _ ?_⟩
          exact ⟨va_up AL l (AL l + 1), va_up PH (l * 8 + AL l) ph, va_up TE (l * 8 + AL l) v, true, rfl, rfl, by rw [if_pos rfl]; exact ⟨mAlt_some hl (fun j hj => up_ne _ _ hj) (fun j hj => ⟨up_ne _ _ (by omega), up_ne _ _ (by omega)⟩) o2 (by rw [up_eq]; exact alt_new (by omega) (fun j h1 h2 => hq j h1 (by omega))), o1, up_all (P := fun x => x ≤ 8) o2 (by omega), up_all (P := fun x => x < 4294967296) o3 hph, up_all (P := fun x => x ≤ 10) o4 hv⟩⟩
        · 
          rw [kI_lt (by omega)] at c69
          refine sq_ok rfl [(.iconst 0, 0, 0, 0), (.ireturn, 0, 0, 0)] 72 _ _ _ _ _ (by decide +kernel) ?_
          show narrow .boolean (.int (kI 0)) = .int (kI 0) ∧ ((0 ≤ 0 ∧ 0 ≤ 0) ∧ Post (some (vI 0)) [ob 4 [.ref 1, .ref 2, vI (ru : Int), vI (le : Int), .ref 3, .ref 4, .ref 5, vZ kn], cN 60 LP, cN 60 AL, cN 480 PH, cN 480 TE, cK 60 LD])
          refine ⟨(bI_fits false).1, ?_⟩
          refine ⟨⟨Nat.le_refl _, Nat.le_refl _⟩, hPo _ _ ?_⟩
          exact ⟨AL, PH, TE, false, rfl, rfl, by rw [if_neg (by decide)]; exact ⟨mAlt_none hl (alt_full (by omega) (fun j h1 h2 => hq j h1 (by omega))), hO⟩⟩
      · 
        rw [kI_le (by omega)] at c21
        refine sq_ok rfl [(.aload_n 0, 0, 0, 0), (.getfield 18, 4, 4, 0), (.iload 5, 0, 0, 0), (.iaload, 0, 0, 0), (.iload_n 2, 0, 0, 0), (.if_icmp .ne 23, 0, 0, 0)] 24 _ _ _ _ _ (by decide +kernel) ?_
        show ∃ j30 : Nat, mj 480 (kI (i : Int)) j30 ∧ (¬ kI ((PH j30 : Nat) : Int) = kI (ph : Int) → WM mX4_addAlternative 0 0 Post 6 55 [(0, .ref 0), (1, vI (l : Int)), (2, vI (ph : Int)), (3, vI (v : Int)), (4, vI (((l * 8) : Nat) : Int)), (5, vI (i : Int))] [] [ob 4 [.ref 1, .ref 2, vI (ru : Int), vI (le : Int), .ref 3, .ref 4, .ref 5, vZ kn], cN 60 LP, cN 60 AL, cN 480 PH, cN 480 TE, cK 60 LD] 0 0) ∧ (kI ((PH j30 : Nat) : Int) = kI (ph : Int) → WM mX4_addAlternative 0 0 Post 6 35 [(0, .ref 0), (1, vI (l : Int)), (2, vI (ph : Int)), (3, vI (v : Int)), (4, vI (((l * 8) : Nat) : Int)), (5, vI (i : Int))] [] [ob 4 [.ref 1, .ref 2, vI (ru : Int), vI (le : Int), .ref 3, .ref 4, .ref 5, vZ kn], cN 60 LP, cN 60 AL, cN 480 PH, cN 480 TE, cK 60 LD] 0 0)
        refine ⟨i, ⟨by omega, by omega, rfl⟩, ?_⟩
        refine ⟨fun c32 => ?_, fun c32 => ?_⟩
        · 
          rw [kI_eqU (o3 i) hph] at c32
          refine sq_ok rfl [(.iinc 5 1, 0, 0, 0), (.goto (-48), 0, 0, 0)] 55 _ _ _ _ _ (by decide +kernel) ?_
          show WM mX4_addAlternative 0 0 Post 6 10 [(0, .ref 0), (1, vI (l : Int)), (2, vI (ph : Int)), (3, vI (v : Int)), (4, vI (((l * 8) : Nat) : Int)), (5, .int ((kI (i : Int)) + (kI 1)))] [] [ob 4 [.ref 1, .ref 2, vI (ru : Int), vI (le : Int), .ref 3, .ref 4, .ref 5, vZ kn], cN 60 LP, cN 60 AL, cN 480 PH, cN 480 TE, cK 60 LD] 0 0
          have e6 : ((kI (i : Int)) + (kI 1)) = kI (((i + 1) : Nat) : Int) := by first | (simp only [kI_add, kI_sub, kI_mul]; done) | (simp only [kI_add, kI_sub, kI_mul]; rfl)
          rw [e6]
          exact WM.pick [0, 1, 2, 3, 4, 5] rfl (ih10 (i + 1) (by omega) (fun j h1 h2 => by rcases Nat.lt_succ_iff_lt_or_eq.mp h2 with h | h; exact hq j h1 h; subst h; exact c32) (by omega))
        · 
          rw [kI_eqU (o3 i) hph] at c32
          have hti := o4 i
          refine sq_ok rfl [(.aload_n 0, 0, 0, 0), (.getfield 21, 4, 5, 0), (.iload 5, 0, 0, 0), (.aload_n 0, 0, 0, 0), (.getfield 21, 4, 5, 0), (.iload 5, 0, 0, 0), (.iaload, 0, 0, 0), (.iload_n 3, 0, 0, 0)] 35 _ _ _ _ _ (by decide +kernel) ?_
          show ∃ j47 : Nat, mj 480 (kI (i : Int)) j47 ∧ WM mX4_addAlternative 0 0 Post 6 49 [(0, .ref 0), (1, vI (l : Int)), (2, vI (ph : Int)), (3, vI (v : Int)), (4, vI (((l * 8) : Nat) : Int)), (5, vI (i : Int))] [vI (v : Int), vI ((TE j47 : Nat) : Int), vI (i : Int), .ref 4] [ob 4 [.ref 1, .ref 2, vI (ru : Int), vI (le : Int), .ref 3, .ref 4, .ref 5, vZ kn], cN 60 LP, cN 60 AL, cN 480 PH, cN 480 TE, cK 60 LD] 0 0
          refine ⟨i, ⟨by omega, by omega, rfl⟩, ?_⟩
          refine wm_max (by unfold iR; omega) (by unfold iR; omega) (by decide +kernel) kX4_80 ⟨Nat.le_of_ble_eq_true rfl, Nat.le_of_ble_eq_true rfl⟩ ⟨Nat.le_of_ble_eq_true rfl, Nat.le_of_ble_eq_true rfl⟩ ?_
          rw [show (max ((TE i : Nat) : Int) (v : Int)) = (((max (TE i) v) : Nat) : Int) from by omega]
          show WM mX4_addAlternative 0 0 Post 6 52 [(0, .ref 0), (1, vI (l : Int)), (2, vI (ph : Int)), (3, vI (v : Int)), (4, vI (((l * 8) : Nat) : Int)), (5, vI (i : Int))] [vI (((max (TE i) v) : Nat) : Int), vI (i : Int), .ref 4] [ob 4 [.ref 1, .ref 2, vI (ru : Int), vI (le : Int), .ref 3, .ref 4, .ref 5, vZ kn], cN 60 LP, cN 60 AL, cN 480 PH, cN 480 TE, cK 60 LD] 0 0
          refine sq_ok rfl [(.iastore, 0, 0, 0)] 52 _ _ _ _ _ (by decide +kernel) ?_
          show ∃ (j52 : Nat) (g52 : Nat → Int32), (mj 480 (kI (i : Int)) j52 ∧ g52 = upd (fun q => kI ((TE q : Nat) : Int)) j52 (kI (((max (TE i) v) : Nat) : Int))) ∧ WM mX4_addAlternative 0 0 Post 6 53 [(0, .ref 0), (1, vI (l : Int)), (2, vI (ph : Int)), (3, vI (v : Int)), (4, vI (((l * 8) : Nat) : Int)), (5, vI (i : Int))] [] [ob 4 [.ref 1, .ref 2, vI (ru : Int), vI (le : Int), .ref 3, .ref 4, .ref 5, vZ kn], cN 60 LP, cN 60 AL, cN 480 PH, .inl (0, 480, .inl g52), cK 60 LD] 0 0
          refine ⟨i, fun q => kI (((va_up TE i (max (TE i) v)) q : Nat) : Int), ⟨⟨by omega, by omega, rfl⟩, st_N (rfl)⟩, ?_⟩
          refine sq_ok rfl [(.iconst 1, 0, 0, 0), (.ireturn, 0, 0, 0)] 53 _ _ _ _ _ (by decide +kernel) ?_
          show narrow .boolean (.int (kI 1)) = .int (kI 1) ∧ ((0 ≤ 0 ∧ 0 ≤ 0) ∧ Post (some (vI 1)) [ob 4 [.ref 1, .ref 2, vI (ru : Int), vI (le : Int), .ref 3, .ref 4, .ref 5, vZ kn], cN 60 LP, cN 60 AL, cN 480 PH, cN 480 (va_up TE i (max (TE i) v)), cK 60 LD])
          refine ⟨(bI_fits true).1, ?_⟩
          refine ⟨⟨Nat.le_refl _, Nat.le_refl _⟩, hPo _ _ ?_⟩
          exact ⟨AL, PH, va_up TE i (max (TE i) v), true, rfl, rfl, by rw [if_pos rfl]; exact ⟨mAlt_some hl (fun _ _ => rfl) (fun j hj => ⟨rfl, up_ne _ _ (by omega)⟩) o2 (alt_hit (by omega) (by omega) c32 hq rfl), o1, o2, o3, up_all (P := fun x => x ≤ 10) o4 (by omega)⟩⟩
  exact WM.pick [0, 1, 2, 3, 4, 5] rfl (lp10 _ (l * 8) (by omega) (fun j h1 h2 => by omega) (Nat.lt_succ_self _))
