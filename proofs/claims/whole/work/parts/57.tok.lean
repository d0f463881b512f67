/-! What holds of tokens -/
theorem trun_ok (B : Nat → Int) (ln : Nat) : ∀ i, (∀ x ∈ (trun B ln i).1, x.1 ≤ 5 ∧ x.2.1 < i ∧ x.2.2 < 6582952005840035281) ∧ (1 ≤ (trun B ln i).2 → ∃ A x, (trun B ln i).1 = A ++ [x] ∧ x.2.2 < 37 ^ (min (trun B ln i).2 12))
  | 0 => ⟨fun x hx => absurd hx List.not_mem_nil, fun h => absurd h (Nat.not_succ_le_zero _)⟩
  | i + 1 => by
    obtain ⟨h1, h2⟩ := trun_ok B ln i
    obtain ⟨T, wb, hT⟩ : ∃ T wb, trun B ln i = (T, wb) := ⟨_, _, rfl⟩
    have e1 : trun B ln (i + 1) = tstep B ln i (T, wb) := by show tstep B ln i (trun B ln i) = _; rw [hT]
    rw [hT] at h1 h2
    dsimp only at h1 h2
    rw [e1]
    have hd := dig_lt (B i)
    unfold tstep
    have hold : ∀ x ∈ T, x.1 ≤ 5 ∧ x.2.1 < i + 1 ∧ x.2.2 < 6582952005840035281 := fun x hx => by have := h1 x hx; exact ⟨this.1, by omega, this.2.2⟩
    have happ : ∀ (U : List (Nat × Nat × Nat)) (y : Nat × Nat × Nat), (∀ x ∈ U, x.1 ≤ 5 ∧ x.2.1 < i + 1 ∧ x.2.2 < 6582952005840035281) → (y.1 ≤ 5 ∧ y.2.1 < i + 1 ∧ y.2.2 < 6582952005840035281) → ∀ x ∈ U ++ [y], x.1 ≤ 5 ∧ x.2.1 < i + 1 ∧ x.2.2 < 6582952005840035281 := fun U y hU hy x hx => by
      rcases List.mem_append.mp hx with hx | hx
      · exact hU x hx
      · rw [List.mem_singleton.mp hx]; exact hy
    by_cases hz : dig (B i) = 0
    · rw [if_pos hz]
      refine ⟨?_, fun h => absurd h (Nat.not_succ_le_zero _)⟩
      unfold tmark
      dsimp only
      split
      · exact hold
      · split
        · exact happ T _ hold ⟨by dsimp only; omega, by dsimp only; omega, by dsimp only; omega⟩
        · split
          · refine happ T _ hold ⟨?_, by dsimp only; omega, by dsimp only; omega⟩
            dsimp only
            split <;> omega
          · split
            · split
              · exact happ T _ hold ⟨by dsimp only; omega, by dsimp only; omega, by dsimp only; omega⟩
              · exact hold
            · split
              · exact happ T _ hold ⟨by dsimp only; omega, by dsimp only; omega, by dsimp only; omega⟩
              · exact happ T _ hold ⟨by dsimp only; omega, by dsimp only; omega, by dsimp only; omega⟩
    · rw [if_neg hz]
      dsimp only
      unfold tdig
      by_cases hw : wb + 1 = 1 ∨ T = []
      · rw [if_pos hw]
        refine ⟨happ T _ hold ⟨by dsimp only; omega, by dsimp only; omega, by dsimp only; omega⟩, fun _ => ⟨T, _, rfl, ?_⟩⟩
        show dig (B i) < 37 ^ min (wb + 1) 12
        exact Nat.lt_of_lt_of_le hd (by conv => lhs; rw [← Nat.pow_one 37]
                                        exact Nat.pow_le_pow_right (by omega) (by omega))
      · rw [if_neg hw]
        obtain ⟨A, x, hA, hx⟩ := h2 (by omega)
        have hx1 := h1 x (by rw [hA]; exact List.mem_append_right _ (List.mem_singleton.mpr rfl))
        have hA1 : ∀ y ∈ A, y.1 ≤ 5 ∧ y.2.1 < i + 1 ∧ y.2.2 < 6582952005840035281 := fun y hy => hold y (by rw [hA]; exact List.mem_append_left _ hy)
        rw [hA, List.getLast?_concat, List.dropLast_concat]
        dsimp only
        by_cases h12 : 12 < wb + 1
        · rw [if_pos h12]
          refine ⟨happ A _ hA1 ⟨Nat.le_refl _, by dsimp only; omega, hx1.2.2⟩, fun _ => ⟨A, _, rfl, ?_⟩⟩
          show x.2.2 < 37 ^ min (wb + 1) 12
          rw [show min (wb + 1) 12 = 12 by omega]
          exact hx1.2.2
        · rw [if_neg h12]
          have hc : x.2.2 * 37 + dig (B i) < 37 ^ (wb + 1) := by
            rw [show min wb 12 = wb by omega] at hx
            rw [Nat.pow_succ]
            have : (x.2.2 + 1) * 37 ≤ 37 ^ wb * 37 := Nat.mul_le_mul_right 37 hx
            omega
          refine ⟨happ A _ hA1 ⟨hx1.1, by dsimp only; omega, ?_⟩, fun _ => ⟨A, _, rfl, ?_⟩⟩
          · exact Nat.lt_of_lt_of_le hc (Nat.le_trans (Nat.pow_le_pow_right (by omega) (show wb + 1 ≤ 12 by omega)) (by decide))
          · show x.2.2 * 37 + dig (B i) < 37 ^ min (wb + 1) 12
            rw [show min (wb + 1) 12 = wb + 1 by omega]
            exact hc
theorem toks_ok (B : Nat → Int) (ln : Nat) : ∀ x ∈ toks B ln, x.1 ≤ 5 ∧ x.2.1 ≤ ln ∧ x.2.2 < 6582952005840035281 := by
  intro x hx
  unfold toks at hx
  rcases List.mem_append.mp hx with hx | hx
  · have := (trun_ok B ln ln).1 x hx
    exact ⟨this.1, by omega, this.2.2⟩
  · rw [List.mem_singleton.mp hx]
    exact ⟨by dsimp only; omega, Nat.le_refl _, by dsimp only; omega⟩
theorem tk3_ok {B : Nat → Int} {ln : Nat} {K Pl C : Nat → Nat} {t : Nat} (h : tk3 K Pl C t = toks B ln) : ∀ q, q < t → K q ≤ 5 ∧ Pl q ≤ ln ∧ C q < 6582952005840035281 := fun q hq => toks_ok B ln (K q, Pl q, C q) (by rw [← h]; exact lst_mem.mpr ⟨q, hq, rfl⟩)
theorem rrow_ok {most ln : Nat} : ∀ {T : List (Nat × Nat × Nat)} {acc : List Nat}, (∀ x ∈ T, x.2.1 ≤ ln ∧ x.2.2 < 6582952005840035281) → (∀ c ∈ acc, c < 6582952005840035281) → ((rrow most acc T).1 ≤ 0 ∧ -10 - (ln : Int) ≤ (rrow most acc T).1) ∧ ∀ c ∈ (rrow most acc T).2, c < 6582952005840035281
  | [], acc, _, ha => ⟨⟨Int.le_refl _, by show -10 - (ln : Int) ≤ 0; omega⟩, ha⟩
  | x :: T, acc, h, ha => by
    have hx := h x List.mem_cons_self
    rw [rrow_cons]
    split
    · exact ⟨⟨Int.le_refl _, by show -10 - (ln : Int) ≤ 0; omega⟩, ha⟩
    · split
      · exact ⟨⟨by dsimp only; omega, by dsimp only; omega⟩, ha⟩
      · exact rrow_ok (fun y hy => h y (List.mem_cons_of_mem _ hy)) (fun c hc => by
          rcases List.mem_append.mp hc with hc | hc
          · exact ha c hc
          · rw [List.mem_singleton.mp hc]; exact hx.2)
theorem rrow_len {most : Nat} : ∀ {T : List (Nat × Nat × Nat)} {acc : List Nat}, acc.length ≤ most → (rrow most acc T).2.length ≤ most
  | [], acc, h => h
  | x :: T, acc, h => by
    rw [rrow_cons]
    split
    · exact h
    · split
      · exact h
      · rename_i _ hn
        exact rrow_len (by rw [List.length_append]; show acc.length + 1 ≤ most; omega)
theorem prule_ok {ln : Nat} : ∀ {T : List (Nat × Nat × Nat)} {p : Pst}, (∀ x ∈ T, x.2.1 ≤ ln) → (prule p T).1 ≤ 0 ∧ -10 - (ln : Int) ≤ (prule p T).1
  | [], p, _ => ⟨Int.le_refl _, by show -10 - (ln : Int) ≤ 0; omega⟩
  | x :: T, p, h => by
    have hx := h x List.mem_cons_self
    cases hs : pstep p x.1 x.2.2 with
    | some p' => rw [prule_some hs]; exact prule_ok (fun y hy => h y (List.mem_cons_of_mem _ hy))
    | none => rw [prule_none hs]; exact ⟨by dsimp only; omega, by dsimp only; omega⟩
