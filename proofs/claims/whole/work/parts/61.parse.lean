/-! What holds of a rule that is read -/
def sumL (l : List (Nat × Nat)) : Nat := (l.map Prod.fst).sum
theorem sumL_app (A : List (Nat × Nat)) (x : Nat × Nat) : sumL (A ++ [x]) = sumL A + x.1 := by simp [sumL]
def pI (p : Pst) : Prop := sumL p.2.1 = p.2.2.2.2.length ∧ (∀ x ∈ p.2.1, x.2 ≤ 10) ∧ ∀ c ∈ p.2.2.2.2, c < 6582952005840035281
theorem app_all {α : Type} {P : α → Prop} {A : List α} {y : α} (h : ∀ x ∈ A, P x) (hy : P y) : ∀ x ∈ A ++ [y], P x := fun x hx => by
  rcases List.mem_append.mp hx with hx | hx
  · exact h x hx
  · rw [List.mem_singleton.mp hx]; exact hy
theorem tenW_le (c : Nat) : tenW c ≤ 10 := by
  unfold tenW
  split
  · exact Nat.le_refl _
  · split <;> omega
theorem pAdd_I {p p' : Pst} {c : Nat} (h : pI p) (hc : c < 6582952005840035281) (hs : pAdd p c = some p') : pI p' := by
  obtain ⟨h1, h2, h3⟩ := h
  unfold pAdd at hs
  split at hs
  · cases hs
  · injection hs with hs
    subst hs
    refine ⟨?_, ?_, app_all h3 hc⟩
    · show sumL (p.2.1.dropLast ++ _) = (p.2.2.2.2 ++ [c]).length
      rw [sumL_app, List.length_append]
      rcases List.eq_nil_or_concat p.2.1 with e | ⟨A, x, e⟩
      · rw [e] at h1 ⊢
        have : sumL ([] : List (Nat × Nat)) = 0 := rfl
        simp only [List.dropLast_nil, List.getLast?_nil, Option.getD_none, List.length_singleton]
        omega
      · rw [List.concat_eq_append] at e
        rw [e] at h1 ⊢
        rw [sumL_app] at h1
        simp only [List.dropLast_concat, List.getLast?_concat, Option.getD_some, List.length_singleton]
        omega
    · show ∀ x ∈ p.2.1.dropLast ++ _, x.2 ≤ 10
      rcases List.eq_nil_or_concat p.2.1 with e | ⟨A, x, e⟩
      · rw [e]
        exact app_all (fun x hx => by simp at hx) (by simp)
      · rw [List.concat_eq_append] at e
        rw [e]
        simp only [List.dropLast_concat, List.getLast?_concat, Option.getD_some]
        exact app_all (fun y hy => h2 y (by rw [e]; exact List.mem_append_left _ hy)) (h2 x (by rw [e]; simp))
theorem pOpen_I {p p' : Pst} (h : pI p) (hs : pOpen p = some p') : pI p' := by
  obtain ⟨h1, h2, h3⟩ := h
  unfold pOpen at hs
  by_cases hc : 8 ≤ (if p.2.2.2.1 then p.2.1.length - p.2.2.1 else p.2.1.length) ∨ 16 ≤ p.2.1.length
  · rw [if_pos hc] at hs; cases hs
  · rw [if_neg hc] at hs
    injection hs with hs
    subst hs
    refine ⟨?_, app_all h2 (Nat.le_refl _), h3⟩
    show sumL (p.2.1 ++ [(0, 10)]) = _
    rw [sumL_app]
    exact h1
theorem pTen_I {p p' : Pst} {c : Nat} (h : pI p) (hs : pTen p c = some p') : pI p' := by
  obtain ⟨h1, h2, h3⟩ := h
  unfold pTen at hs
  split at hs
  · cases hs
  · rename_i hn
    injection hs with hs
    subst hs
    rcases List.eq_nil_or_concat p.2.1 with e | ⟨A, x, e⟩
    · exact absurd (Or.inr e) hn
    · rw [List.concat_eq_append] at e
      refine ⟨?_, ?_, h3⟩
      · show sumL (p.2.1.dropLast ++ _) = p.2.2.2.2.length
        rw [← h1, e, sumL_app, sumL_app]
        simp only [List.dropLast_concat, List.getLast?_concat, Option.getD_some]
      · show ∀ x ∈ p.2.1.dropLast ++ _, x.2 ≤ 10
        rw [e]
        simp only [List.dropLast_concat, List.getLast?_concat, Option.getD_some]
        exact app_all (fun y hy => h2 y (by rw [e]; exact List.mem_append_left _ hy)) (tenW_le c)
theorem pstep_I {p p' : Pst} {k c : Nat} (h : pI p) (hc : c < 6582952005840035281) (hs : pstep p k c = some p') : pI p' := by
  unfold pstep at hs
  split at hs
  · split at hs
    · exact pTen_I h hs
    · unfold pWord at hs
      split at hs
      · cases hs
      · split at hs
        · exact pAdd_I h hc hs
        · cases ho : pOpen p with
          | none => rw [ho] at hs; cases hs
          | some q => rw [ho] at hs; exact pAdd_I (pOpen_I h ho) hc hs
  · split at hs
    · split at hs
      · injection hs with hs; subst hs; exact h
      · cases hs
    · split at hs
      · split at hs
        · injection hs with hs; subst hs; exact h
        · cases hs
      · split at hs
        · split at hs
          · unfold pArr at hs
            split at hs
            · cases hs
            · injection hs with hs; subst hs; exact h
          · cases hs
        · split at hs
          · split at hs
            · injection hs with hs; subst hs; exact h
            · cases hs
          · cases hs
theorem prule_I : ∀ {T : List (Nat × Nat × Nat)} {p : Pst}, pI p → (∀ x ∈ T, x.2.2 < 6582952005840035281) → pI (prule p T).2
  | [], p, h, _ => h
  | x :: T, p, h, hT => by
    cases hs : pstep p x.1 x.2.2 with
    | some p' => rw [prule_some hs]; exact prule_I (pstep_I h (hT x List.mem_cons_self) hs) (fun y hy => hT y (List.mem_cons_of_mem _ hy))
    | none => rw [prule_none hs]; exact h
theorem sumL_sd (lens tens : Nat → Nat) : ∀ s, sumL (sd lens tens s) = off lens s
  | 0 => rfl
  | s + 1 => by
    unfold sd
    rw [lst_succ, sumL_app]
    show sumL (sd lens tens s) + lens s = off lens s + lens s
    rw [sumL_sd lens tens s]
theorem numb_ok : ∀ {xs ws ws' : List Nat} {ns : List Int}, numb ws xs = some (ws', ns) → ws.length ≤ 200 → ws.length ≤ ws'.length ∧ ws'.length ≤ 200 ∧ ns.length = xs.length ∧ ∀ n ∈ ns, 0 ≤ n ∧ n < (ws'.length : Int)
  | [], ws, ws', ns, h, hl => by
    injection h with h
    injection h with h1 h2
    subst h1 h2
    exact ⟨Nat.le_refl _, hl, rfl, fun n hn => absurd hn List.not_mem_nil⟩
  | x :: xs, ws, ws', ns, h, hl => by
    unfold numb at h
    cases hw : wix ws x with
    | some k =>
      rw [hw] at h
      obtain ⟨q, h1, h2⟩ := Option.map_eq_some_iff.mp h
      injection h2 with h2 h3
      subst h2 h3
      obtain ⟨g1, g2, g3, g4⟩ := numb_ok (ns := q.2) (ws' := q.1) h1 hl
      have hk : k < ws.length := by unfold wix at hw; exact (fnd_spec hw).1
      refine ⟨g1, g2, by rw [List.length_cons, List.length_cons, g3], fun n hn => ?_⟩
      rcases List.mem_cons.mp hn with e | hn
      · rw [e]; omega
      · exact g4 n hn
    | none =>
      rw [hw] at h
      dsimp only at h
      split at h
      · rename_i hlt
        obtain ⟨q, h1, h2⟩ := Option.map_eq_some_iff.mp h
        injection h2 with h2 h3
        subst h2 h3
        obtain ⟨g1, g2, g3, g4⟩ := numb_ok (ns := q.2) (ws' := q.1) h1 (by rw [List.length_append]; show ws.length + 1 ≤ 200; omega)
        rw [List.length_append] at g1
        replace g1 : ws.length + 1 ≤ q.1.length := g1
        refine ⟨by omega, g2, by rw [List.length_cons, List.length_cons, g3], fun n hn => ?_⟩
        rcases List.mem_cons.mp hn with e | hn
        · rw [e]; omega
        · exact g4 n hn
      · cases h
theorem cpy_all {P : Nat → Prop} {f g : Nat → Nat} {n : Nat} (hf : ∀ j, P (f j)) (hg : ∀ j, P (g j)) : ∀ j, P (va_cpy f g 0 0 n j) := fun j => by
  unfold va_cpy
  split
  · exact hf _
  · exact hg _
theorem rOK_cpy {LP AL PH TE LP2 AL2 PH2 TE2 : Nat → Nat} {n m : Nat} (h : rOK LP AL PH TE) (h2 : rOK LP2 AL2 PH2 TE2) : rOK (va_cpy LP LP2 0 0 n) (va_cpy AL AL2 0 0 n) (va_cpy PH PH2 0 0 m) (va_cpy TE TE2 0 0 m) := ⟨cpy_all (P := fun x => x < 4294967296) h.1 h2.1, cpy_all (P := fun x => x ≤ 8) h.2.1 h2.2.1, cpy_all (P := fun x => x < 4294967296) h.2.2.1 h2.2.2.1, cpy_all (P := fun x => x ≤ 10) h.2.2.2 h2.2.2.2⟩
theorem rabs_cpy {LP AL PH TE LP2 AL2 PH2 TE2 : Nat → Nat} {le : Nat} (hA : ∀ j, AL j ≤ 8) : rabs (va_cpy LP LP2 0 0 le) (va_cpy AL AL2 0 0 le) (va_cpy PH PH2 0 0 (le * 8)) (va_cpy TE TE2 0 0 (le * 8)) le = rabs LP AL PH TE le := by
  refine lst_ext fun l hl => ?_
  have h1 := hA l
  rw [cpy_lt hl, cpy_lt hl]
  congr 1
  unfold al
  refine lst_ext fun a ha => ?_
  rw [cpy_lt (by omega), cpy_lt (by omega)]
