/-! THE TWO STATES, 3: rules that come in, those that go round -/
def pT (p : Pst) : Prop := (∀ x ∈ p.2.1, 1 ≤ x.2) ∧ (p.1 = 2 → p.2.1 ≠ [])
theorem pAdd_T {p p' : Pst} {c : Nat} (h : pT p) (h2 : p.1 = 2) (hs : pAdd p c = some p') : pT p' := by
  unfold pAdd at hs
  split at hs
  · cases hs
  · injection hs with hs
    subst hs
    rcases List.eq_nil_or_concat p.2.1 with e | ⟨A, x, e⟩
    · exact absurd e (h.2 h2)
    · rw [List.concat_eq_append] at e
      refine ⟨?_, fun _ => by simp⟩
      show ∀ x ∈ p.2.1.dropLast ++ _, 1 ≤ x.2
      have h1 := h.1
      rw [e] at h1 ⊢
      simp only [List.dropLast_concat, List.getLast?_concat, Option.getD_some]
      exact app_all (fun y hy => h1 y (List.mem_append_left _ hy)) (h1 x (by simp))
theorem pOpen_T {p p' : Pst} (h : pT p) (hs : pOpen p = some p') : pT p' ∧ p'.1 = 2 := by
  unfold pOpen at hs
  by_cases hc : 8 ≤ (if p.2.2.2.1 then p.2.1.length - p.2.2.1 else p.2.1.length) ∨ 16 ≤ p.2.1.length
  · rw [if_pos hc] at hs; cases hs
  · rw [if_neg hc] at hs
    injection hs with hs
    subst hs
    exact ⟨⟨app_all h.1 (by show 1 ≤ 10; omega), fun _ => by simp⟩, rfl⟩
theorem pTen_T {p p' : Pst} {c : Nat} (h : pT p) (hs : pTen p c = some p') : pT p' := by
  unfold pTen at hs
  split at hs
  · cases hs
  · rename_i hn
    injection hs with hs
    subst hs
    rcases List.eq_nil_or_concat p.2.1 with e | ⟨A, x, e⟩
    · exact absurd (Or.inr e) hn
    · rw [List.concat_eq_append] at e
      refine ⟨?_, fun h4 => absurd h4 (by show ¬ 4 = 2; decide)⟩
      show ∀ x ∈ p.2.1.dropLast ++ _, 1 ≤ x.2
      have h1 := h.1
      have h5 : 1 ≤ tenW c := by
        rcases Nat.eq_zero_or_pos (tenW c) with q | q
        · exact absurd (Or.inl q) hn
        · exact q
      rw [e] at h1 ⊢
      simp only [List.dropLast_concat, List.getLast?_concat, Option.getD_some]
      exact app_all (fun y hy => h1 y (List.mem_append_left _ hy)) h5
theorem pstep_T {p p' : Pst} {k c : Nat} (h : pT p) (hs : pstep p k c = some p') : pT p' := by
  unfold pstep at hs
  split at hs
  · split at hs
    · exact pTen_T h hs
    · unfold pWord at hs
      split at hs
      · cases hs
      · split at hs
        · rename_i h2
          exact pAdd_T h h2 hs
        · cases ho : pOpen p with
          | none => rw [ho] at hs; cases hs
          | some q => rw [ho] at hs; exact pAdd_T (pOpen_T h ho).1 (pOpen_T h ho).2 hs
  · split at hs
    · split at hs
      · injection hs with hs; subst hs; exact ⟨h.1, fun h4 => absurd h4 (by show ¬ 0 = 2; decide)⟩
      · cases hs
    · split at hs
      · split at hs
        · injection hs with hs; subst hs; exact ⟨h.1, fun h4 => absurd h4 (by show ¬ 3 = 2; decide)⟩
        · cases hs
      · split at hs
        · split at hs
          · unfold pArr at hs
            split at hs
            · cases hs
            · injection hs with hs; subst hs; exact ⟨h.1, fun h4 => absurd h4 (by show ¬ 1 = 2; decide)⟩
          · cases hs
        · split at hs
          · split at hs
            · injection hs with hs; subst hs; exact h
            · cases hs
          · cases hs
theorem prule_T : ∀ {T : List (Nat × Nat × Nat)} {p : Pst}, pT p → pT (prule p T).2
  | [], p, h => h
  | x :: T, p, h => by
    cases hs : pstep p x.1 x.2.2 with
    | some p' => rw [prule_some hs]; exact prule_T (pstep_T h hs)
    | none => rw [prule_none hs]; exact h
theorem tens_1 {T : List (Nat × Nat × Nat)} {q ah : Nat} {ar : Bool} {sm st : Nat → Nat} {sn : Nat} {C : List Nat} (h : (prule (0, [], 0, false, []) T).2 = (q, sd sm st sn, ah, ar, C)) : ∀ j, j < sn → 1 ≤ st j := fun j hj => by
  have h1 := (prule_T (T := T) (p := (0, [], 0, false, [])) ⟨fun x hx => (by cases hx), fun h => (by cases h)⟩).1
  rw [h] at h1
  exact h1 (sm j, st j) (lst_mem.mpr ⟨j, hj, rfl⟩)
/-- every left has an alternative, tenths are at least 1 -/
def gX (x : Nat × List (Nat × Nat)) : Prop := x.2 ≠ [] ∧ ∀ y ∈ x.2, 1 ≤ y.2
def RXl (X : Rl) : Prop := ∀ x ∈ X, gX x
theorem altAdd_g {A A' : List (Nat × Nat)} {ph v : Nat} (h : ∀ y ∈ A, 1 ≤ y.2) (hv : 1 ≤ v) (hs : altAdd A ph v = some A') : A' ≠ [] ∧ ∀ y ∈ A', 1 ≤ y.2 := by
  unfold altAdd at hs
  split at hs
  · rename_i k hk
    injection hs with hs
    subst hs
    have hl := (fnd_spec hk).1
    refine ⟨fun e => ?_, fun y hy => ?_⟩
    · have := congrArg List.length e
      rw [List.length_modify] at this
      simp at this
      rw [this] at hl
      simp at hl
    · obtain ⟨i, hi, rfl⟩ := List.mem_iff_getElem.mp hy
      rw [List.getElem_modify]
      rw [List.length_modify] at hi
      have := h _ (List.getElem_mem hi)
      split
      · show 1 ≤ max _ _
        omega
      · exact this
  · split at hs
    · injection hs with hs
      subst hs
      exact ⟨by simp, app_all h hv⟩
    · cases hs
theorem mAlt_g {X X' : Rl} {l ph v : Nat} (h1 : ∀ i x, X[i]? = some x → i ≠ l → gX x) (h2 : ∀ x, X[l]? = some x → ∀ y ∈ x.2, 1 ≤ y.2) (hv : 1 ≤ v) (hs : mAlt X l ph v = some X') : RXl X' := by
  unfold mAlt at hs
  split at hs
  · rename_i x hx
    cases ha : altAdd x.2 ph v with
    | none => rw [ha] at hs; cases hs
    | some A =>
      rw [ha] at hs
      injection hs with hs
      subst hs
      have hg := altAdd_g (h2 x hx) hv ha
      intro y hy
      obtain ⟨i, hi, rfl⟩ := List.mem_iff_getElem.mp hy
      rw [List.length_set] at hi
      rw [List.getElem_set]
      split
      · exact hg
      · rename_i hne
        exact h1 i _ (List.getElem?_eq_getElem hi) (fun e => hne e.symm)
  · cases hs
theorem mAlts_g : ∀ {A : List (Nat × Nat)} {X X' : Rl} {l : Nat}, RXl X → (∀ y ∈ A, 1 ≤ y.2) → mAlts X l A = some X' → RXl X'
  | [], X, X', l, h, _, hs => by
    injection hs with hs
    rw [← hs]
    exact h
  | a :: A, X, X', l, h, hA, hs => by
    unfold mAlts at hs
    cases h1 : mAlt X l a.1 a.2 with
    | none => rw [h1] at hs; cases hs
    | some Y =>
      rw [h1] at hs
      exact mAlts_g (mAlt_g (fun i x hx _ => h x (List.mem_of_getElem? hx)) (fun x hx => (h x (List.mem_of_getElem? hx)).2) (hA a List.mem_cons_self) h1) (fun y hy => hA y (List.mem_cons_of_mem _ hy)) hs
theorem mLefts_g {A : List (Nat × Nat)} (hA0 : A ≠ []) (hA : ∀ y ∈ A, 1 ≤ y.2) : ∀ {ps : List Nat} {X X' : Rl}, RXl X → mLefts X ps A = some X' → RXl X'
  | [], X, X', h, hs => by
    injection hs with hs
    rw [← hs]
    exact h
  | p :: ps, X, X', h, hs => by
    unfold mLefts at hs
    cases ht : mTake X p with
    | none => rw [ht] at hs; cases hs
    | some q =>
      rw [ht] at hs
      dsimp only [Option.bind] at hs
      cases ha : mAlts q.1 q.2 A with
      | none => rw [ha] at hs; cases hs
      | some Y =>
        rw [ha] at hs
        dsimp only at hs
        refine mLefts_g hA0 hA ?_ hs
        cases A with
        | nil => exact absurd rfl hA0
        | cons a A =>
          unfold mAlts at ha
          cases h1 : mAlt q.1 q.2 a.1 a.2 with
          | none => rw [h1] at ha; cases ha
          | some Z =>
            rw [h1] at ha
            refine mAlts_g ?_ (fun y hy => hA y (List.mem_cons_of_mem _ hy)) ha
            unfold mTake at ht
            split at ht
            · injection ht with ht
              rw [← ht] at h1
              exact mAlt_g (fun i x hx _ => h x (List.mem_of_getElem? hx)) (fun x hx => (h x (List.mem_of_getElem? hx)).2) (hA a List.mem_cons_self) h1
            · split at ht
              · injection ht with ht
                rw [← ht] at h1
                refine mAlt_g (fun i x hx hi => ?_) (fun x hx => ?_) (hA a List.mem_cons_self) h1
                · dsimp only at hx hi
                  by_cases c : i < X.length
                  · rw [List.getElem?_append_left c] at hx
                    exact h x (List.mem_of_getElem? hx)
                  · rw [List.getElem?_append_right (by omega)] at hx
                    have := (List.getElem?_eq_some_iff.mp hx).1
                    simp at this
                    omega
                · dsimp only at hx
                  rw [List.getElem?_append_right (Nat.le_refl _), Nat.sub_self] at hx
                  injection hx with hx
                  rw [← hx]
                  intro y hy
                  cases hy
              · cases ht
theorem mRule_g {X X' : Rl} {phr tens : Nat → Nat} {s ah : Nat} {ar both : Bool} (h : RXl X) (h1 : 1 ≤ ah) (h2 : ah ≤ s) (ht : ∀ j, j < s → 1 ≤ tens j) (hs : mRule X phr tens s ah ar both = some X') : RXl X' := by
  have hA : ∀ n, n ≤ s → ∀ k, ∀ y ∈ (sdA phr tens n).drop k, 1 ≤ y.2 := fun n hn k y hy => by
    obtain ⟨j, hj, rfl⟩ := lst_mem.mp (List.mem_of_mem_drop hy)
    exact ht j (by omega)
  have hne : ∀ n k, k < n → (sdA phr tens n).drop k ≠ [] := fun n k hk e => by
    have := congrArg List.length e
    rw [List.length_drop, lst_len] at this
    simp at this
    omega
  unfold mRule at hs
  split at hs
  · exact mLefts_g (hne s 0 (by omega)) (hA s (Nat.le_refl _) 0) h hs
  · split at hs
    · exact mLefts_g (by simp) (fun y hy => by rw [List.mem_singleton.mp hy]; show 1 ≤ 10; omega) h hs
    · rename_i hah
      cases hl : mLefts X ((lst phr ah).drop 0) ((sdA phr tens s).drop ah) with
      | none => rw [hl] at hs; cases hs
      | some Y =>
        rw [hl] at hs
        dsimp only [Option.bind] at hs
        have hY := mLefts_g (hne s ah (by omega)) (hA s (Nat.le_refl _) ah) h hl
        split at hs
        · exact mLefts_g (hne ah 0 (by omega)) (hA ah h2 0) hY hs
        · injection hs with hs
          rw [← hs]
          exact hY
theorem mRule_ext {X : Rl} {phr tens phr' tens' : Nat → Nat} {s ah : Nat} {ar both : Bool} (h2 : ah ≤ s) (h : ∀ j, j < s → phr' j = phr j ∧ tens' j = tens j) : mRule X phr' tens' s ah ar both = mRule X phr tens s ah ar both := by
  have e1 : lst phr' s = lst phr s := lst_ext (fun j hj => (h j hj).1)
  have e2 : lst phr' ah = lst phr ah := lst_ext (fun j hj => (h j (by omega)).1)
  have e3 : sdA phr' tens' s = sdA phr tens s := lst_ext (fun j hj => by rw [(h j hj).1, (h j hj).2])
  have e4 : sdA phr' tens' ah = sdA phr tens ah := lst_ext (fun j hj => by rw [(h j (by omega)).1, (h j (by omega)).2])
  unfold mRule
  rw [e1, e2, e3, e4]
/-- what the rows of a state of the reference's say of its rules -/
theorem RX_of {lf lm lw ac am aw an : Nat → Nat} {st : Nat} (hA : AK lf lm lw ac am aw an) (hL : LK lf lm ac am an st) (hX : RXl (Rm lf lm lw ac am aw an st)) : RX (LPm lm lw st) (ALm ac st) (PHm am aw st) (TEm an st) (lf st) := fun l hl => by
  obtain ⟨h1, h2⟩ := hX _ (lst_mem.mpr ⟨l, hl, rfl⟩)
  dsimp only at h1 h2
  have h8 := hA.2.2.2.1 (60 * st + l)
  refine ⟨⟨?_, h8⟩, fun a ha => ⟨pOK_ppk hA.2.2.2.2.2.1 (hA.2.2.2.2.1 _), h2 _ (lst_mem.mpr ⟨a, ha, rfl⟩), fun h3 => ?_⟩⟩
  · rcases Nat.eq_zero_or_pos (ALm ac st l) with q | q
    · exfalso
      apply h1
      rw [q]
      rfl
    · exact q
  · refine (hL l hl).2 a ha ?_
    rw [plen_ppk (hA.2.2.2.2.1 _) (fun j _ => hA.2.2.2.2.2.1 _)] at h3
    exact h3
/-! those that go round -/
theorem wal_lt {LD : Nat → Nat} {y : Nat} (h : ∀ j, LD j < 1152921504606846976) : ∀ n j, wal LD y n j < 1152921504606846976
  | 0, j => h j
  | n + 1, j => by
    have ih := wal_lt (y := y) h n
    unfold wal
    split
    · exact ih j
    · unfold va_up
      split
      · exact Nat.or_lt_two_pow (n := 60) (ih n) (ih y)
      · exact ih j
theorem war_lt {LD : Nat → Nat} {le : Nat} (h : ∀ j, LD j < 1152921504606846976) : ∀ y j, war LD le y j < 1152921504606846976
  | 0, j => h j
  | y + 1, j => wal_lt (war_lt h y) le j
theorem wal_ext {LD LD' : Nat → Nat} {y le : Nat} (hy : y < le) (h : ∀ l, l < le → LD' l = LD l) : ∀ n, n ≤ le → ∀ l, l < le → wal LD' y n l = wal LD y n l
  | 0, _, l, hl => h l hl
  | n + 1, hn, l, hl => by
    have ih := wal_ext hy h n (by omega)
    unfold wal
    rw [ih n (by omega)]
    split
    · exact ih l hl
    · unfold va_up
      split
      · rw [ih y hy]
      · exact ih l hl
theorem war_ext {LD LD' : Nat → Nat} {le : Nat} (h : ∀ l, l < le → LD' l = LD l) : ∀ y, y ≤ le → ∀ l, l < le → war LD' le y l = war LD le y l
  | 0, _, l, hl => h l hl
  | y + 1, hy, l, hl => wal_ext (by omega) (fun l hl => war_ext h y (by omega) l hl) le (Nat.le_refl _) l hl
theorem lb_ext {P Q : Nat → Bool} : ∀ n, (∀ j, j < n → P j = Q j) → lb P n = lb Q n
  | 0, _ => rfl
  | n + 1, h => by
    unfold lb
    rw [lb_ext n (fun j hj => h j (by omega)), h n (by omega)]
theorem loa_ext {LP PH LP' PH' : Nat → Nat} {le l : Nat} (hl : l < le) (h : ∀ k, k < le → LP' k = LP k) : ∀ a, (∀ j, j < a → PH' (8 * l + j) = PH (8 * l + j)) → loa LP' PH' le l a = loa LP PH le l a
  | 0, _ => rfl
  | a + 1, hp => by
    have e : lin LP' le (PH (8 * l + a)) = lin LP le (PH (8 * l + a)) := lb_ext le (fun j hj => by rw [h j hj])
    unfold loa
    rw [loa_ext hl h a (fun j hj => hp j (by omega)), hp a (by omega), h l hl, e]
