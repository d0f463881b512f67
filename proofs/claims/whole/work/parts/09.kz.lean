/-! numbers of the machine by whole numbers -/
theorem kI_add (a b : Int) : kI a + kI b = kI (a + b) := (Int32.ofInt_add a b).symm
theorem kI_sub (a b : Int) : kI a - kI b = kI (a - b) := (Int32.ofInt_sub a b).symm
theorem kI_mul (a b : Int) : kI a * kI b = kI (a * b) := (Int32.ofInt_mul a b).symm
theorem kI_neg (a : Int) : -kI a = kI (-a) := (Int32.ofInt_neg a).symm
theorem kL_add (a b : Int) : kL a + kL b = kL (a + b) := (Int64.ofInt_add a b).symm
theorem kL_sub (a b : Int) : kL a - kL b = kL (a - b) := (Int64.ofInt_sub a b).symm
theorem kL_mul (a b : Int) : kL a * kL b = kL (a * b) := (Int64.ofInt_mul a b).symm
theorem kL_neg (a : Int) : -kL a = kL (-a) := (Int64.ofInt_neg a).symm
theorem kI_toInt {z : Int} (h1 : -2147483648 ≤ z) (h2 : z ≤ 2147483647) : (kI z).toInt = z := Int32.toInt_ofInt_of_le (by omega) (by omega)
theorem kL_toInt {z : Int} (h1 : -9223372036854775808 ≤ z) (h2 : z ≤ 9223372036854775807) : (kL z).toInt = z := Int64.toInt_ofInt_of_le (by omega) (by omega)
theorem kI_self (x : Int32) : kI x.toInt = x := Int32.ofInt_toInt x
theorem kL_self (x : Int64) : kL x.toInt = x := Int64.ofInt_toInt x
def iR (z : Int) : Prop := -2147483648 ≤ z ∧ z ≤ 2147483647
def lR (z : Int) : Prop := -9223372036854775808 ≤ z ∧ z ≤ 9223372036854775807
theorem kI_of (x : Int32) : ∃ z : Int, x = kI z ∧ iR z := ⟨x.toInt, (kI_self x).symm, by have h1 := Int32.le_toInt x; have h2 := Int32.toInt_lt x; unfold iR; omega⟩
theorem kL_of (x : Int64) : ∃ z : Int, x = kL z ∧ lR z := ⟨x.toInt, (kL_self x).symm, by have h1 := Int64.le_toInt x; have h2 := Int64.toInt_lt x; unfold lR; omega⟩
theorem kI_lt {a b : Int} (h : (-2147483648 ≤ a ∧ a ≤ 2147483647) ∧ -2147483648 ≤ b ∧ b ≤ 2147483647) : kI a < kI b ↔ a < b := by rw [Int32.lt_iff_toInt_lt, kI_toInt h.1.1 h.1.2, kI_toInt h.2.1 h.2.2]
theorem kI_le {a b : Int} (h : (-2147483648 ≤ a ∧ a ≤ 2147483647) ∧ -2147483648 ≤ b ∧ b ≤ 2147483647) : kI a ≤ kI b ↔ a ≤ b := by rw [Int32.le_iff_toInt_le, kI_toInt h.1.1 h.1.2, kI_toInt h.2.1 h.2.2]
theorem kI_eq {a b : Int} (h : (-2147483648 ≤ a ∧ a ≤ 2147483647) ∧ -2147483648 ≤ b ∧ b ≤ 2147483647) : kI a = kI b ↔ a = b := by rw [← Int32.toInt_inj, kI_toInt h.1.1 h.1.2, kI_toInt h.2.1 h.2.2]
theorem kL_lt {a b : Int} (h : (-9223372036854775808 ≤ a ∧ a ≤ 9223372036854775807) ∧ -9223372036854775808 ≤ b ∧ b ≤ 9223372036854775807) : kL a < kL b ↔ a < b := by rw [Int64.lt_iff_toInt_lt, kL_toInt h.1.1 h.1.2, kL_toInt h.2.1 h.2.2]
theorem kL_le {a b : Int} (h : (-9223372036854775808 ≤ a ∧ a ≤ 9223372036854775807) ∧ -9223372036854775808 ≤ b ∧ b ≤ 9223372036854775807) : kL a ≤ kL b ↔ a ≤ b := by rw [Int64.le_iff_toInt_le, kL_toInt h.1.1 h.1.2, kL_toInt h.2.1 h.2.2]
theorem kL_eq {a b : Int} (h : (-9223372036854775808 ≤ a ∧ a ≤ 9223372036854775807) ∧ -9223372036854775808 ≤ b ∧ b ≤ 9223372036854775807) : kL a = kL b ↔ a = b := by rw [← Int64.toInt_inj, kL_toInt h.1.1 h.1.2, kL_toInt h.2.1 h.2.2]
theorem kI_i2l {a : Int} (h : -2147483648 ≤ a ∧ a ≤ 2147483647) : (kI a).toInt64 = kL a := by
  apply Int64.toInt_inj.mp
  rw [Int32.toInt_toInt64, kI_toInt h.1 h.2, kL_toInt (by omega) (by omega)]
theorem kI_m1 : (-1 : Int32) = kI (-1) := rfl
theorem kI_0 : (0 : Int32) = kI 0 := rfl
theorem lc_lt {x y : Int64} : lg_cmp x y < kI 0 ↔ x < y := by
  unfold lg_cmp
  by_cases h1 : x > y
  · rw [if_pos h1]
    exact ⟨fun h => absurd h (by decide), fun h => absurd (Int64.lt_trans h h1) (Int64.lt_irrefl)⟩
  · rw [if_neg h1]
    by_cases h2 : x = y
    · rw [if_pos h2]
      exact ⟨fun h => absurd h (by decide), fun h => absurd h (by rw [h2]; exact Int64.lt_irrefl)⟩
    · rw [if_neg h2]
      refine ⟨fun _ => ?_, fun _ => by decide⟩
      rw [Int64.lt_iff_toInt_lt]
      have h3 : ¬ y.toInt < x.toInt := fun h => h1 (Int64.lt_iff_toInt_lt.mpr h)
      have h4 : ¬ x.toInt = y.toInt := fun h => h2 (Int64.toInt_inj.mp h)
      omega
theorem lc_eq {x y : Int64} : lg_cmp x y = kI 0 ↔ x = y := by
  unfold lg_cmp
  by_cases h1 : x > y
  · rw [if_pos h1]
    exact ⟨fun h => absurd h (by decide), fun h => absurd h1 (by rw [h]; exact Int64.lt_irrefl)⟩
  · rw [if_neg h1]
    by_cases h2 : x = y
    · rw [if_pos h2]
      exact ⟨fun _ => h2, fun _ => rfl⟩
    · rw [if_neg h2]
      exact ⟨fun h => absurd h (by decide), fun h => absurd h h2⟩
theorem lc_gt {x y : Int64} : kI 0 < lg_cmp x y ↔ y < x := by
  unfold lg_cmp
  by_cases h1 : x > y
  · rw [if_pos h1]
    exact ⟨fun _ => h1, fun _ => by decide⟩
  · rw [if_neg h1]
    by_cases h2 : x = y
    · rw [if_pos h2]
      exact ⟨fun h => absurd h (by decide), fun h => absurd h h1⟩
    · rw [if_neg h2]
      exact ⟨fun h => absurd h (by decide), fun h => absurd h h1⟩
theorem lc_le {x y : Int64} : lg_cmp x y ≤ kI 0 ↔ x ≤ y := by
  rw [← Int32.not_lt, lc_gt, Int64.not_lt]
theorem lc_ge {x y : Int64} : kI 0 ≤ lg_cmp x y ↔ y ≤ x := by
  rw [← Int32.not_lt, lc_lt, Int64.not_lt]
/-- arrays, by whole numbers -/
abbrev cI (n : Nat) (f : Nat → Int) : va_E := .inl (0, n, .inl (fun q => kI (f q)))
abbrev cN (n : Nat) (f : Nat → Nat) : va_E := .inl (0, n, .inl (fun q => kI (f q : Nat)))
abbrev cJ (n : Nat) (f : Nat → Int) : va_E := .inl (1, n, .inr (.inl (fun q => kL (f q))))
abbrev cB (n : Nat) (f : Nat → Int) : va_E := .inl (2, n, .inl (fun q => kI (f q)))
abbrev cK (n : Nat) (f : Nat → Nat) : va_E := .inl (1, n, .inr (.inl (fun q => kL (f q : Nat))))
def bI (b : Bool) : Int32 := match b with
  | true => kI 1
  | false => kI 0
abbrev cZ (n : Nat) (f : Nat → Bool) : va_E := .inl (3, n, .inl (fun q => bI (f q)))
abbrev ob (ci : Nat) (fs : List Value) : va_E := .inr (ci, fs)
abbrev vI (z : Int) : Value := .int (kI z)
abbrev vJ (z : Int) : Value := .long (kL z)
abbrev vZ (b : Bool) : Value := .int (bI b)
theorem st_I {f : Nat → Int} {j : Nat} {x : Int32} {v : Int} (h : x = kI v) : (fun q => kI (va_up f j v q)) = upd (fun q => kI (f q)) j x := by
  funext q
  subst h
  simp only [va_up, upd]
  split <;> rfl
theorem st_N {f : Nat → Nat} {j : Nat} {x : Int32} {v : Nat} (h : x = kI (v : Int)) : (fun q => kI ((va_up f j v q : Nat) : Int)) = upd (fun q => kI (f q : Nat)) j x := by
  funext q
  subst h
  simp only [va_up, upd]
  split <;> rfl
theorem st_J {f : Nat → Int} {j : Nat} {x : Int64} {v : Int} (h : x = kL v) : (fun q => kL (va_up f j v q)) = vp_updL (fun q => kL (f q)) j x := by
  funext q
  subst h
  simp only [va_up, vp_updL]
  split <;> rfl
theorem st_K {f : Nat → Nat} {j : Nat} {x : Int64} {v : Nat} (h : x = kL (v : Int)) : (fun q => kL ((va_up f j v q : Nat) : Int)) = vp_updL (fun q => kL (f q : Nat)) j x := by
  funext q
  subst h
  simp only [va_up, vp_updL]
  split <;> rfl
theorem st_B {f : Nat → Int} {j : Nat} {x : Int32} {v : Int} (h : vp_nar .byte x = kI v) : (fun q => kI (va_up f j v q)) = upd (fun q => kI (f q)) j (vp_nar .byte x) := by
  funext q
  rw [h]
  simp only [va_up, upd]
  split <;> rfl
theorem st_Z {f : Nat → Bool} {j : Nat} {x : Int32} {v : Bool} (h : x = bI v) : (fun q => bI (va_up f j v q)) = upd (fun q => bI (f q)) j (vp_nar .boolean x) := by
  funext q
  subst h
  simp only [va_up, upd]
  split
  · cases v <;> decide +kernel
  · rfl
theorem bI_fits (b : Bool) : narrow .boolean (.int (bI b)) = .int (bI b) ∧ fits .boolean (.int (bI b)) = true := by cases b <;> decide +kernel
theorem bI_eq0 (b : Bool) : bI b = kI 0 ↔ b = false := by cases b <;> decide +kernel
theorem bI_1 : kI 1 = bI true := rfl
theorem bI_0 : kI 0 = bI false := rfl
theorem WM.pick {y : MY} {mc ms : Nat} {Post : MP} {n0 pc : Nat} {L L' : ML} {st : List Value} {w : MW} {nc ns : Nat} (ks : List Nat) (h : ks.filterMap (fun k => L[k]?) = L') (k : WM y mc ms Post n0 pc L' st w nc ns) : WM y mc ms Post n0 pc L st w nc ns := by
  refine k.locals (fun q hq => ?_)
  rw [← h] at hq
  obtain ⟨i, -, hi⟩ := List.mem_filterMap.mp hq
  exact List.mem_of_getElem? hi
/-! Math.max, Math.min: the machine has rows of its own for them -/
section
variable {y : MY} {mc ms n0 : Nat} {Post : MP} {pc nc ns idx : Nat} {L : ML} {rest : List Value} {w : MW} {a b : Int}
theorem mcode_max : mcode mJ9_max_7cf53 = Cond.code Lib.Math.max.name Lib.Math.max.code 2 (some .int) := by decide +kernel
theorem mcode_min : mcode mJ9_min_7cf53 = Cond.code Lib.Math.min.name Lib.Math.min.code 2 (some .int) := by decide +kernel
theorem mcode_maxL : mcode mJ9_max_f86c9 = Cond.code Lib.MathLoose.max_long.x Lib.MathLoose.max_long.code 4 (some .long) := by decide +kernel
theorem mcode_minL : mcode mJ9_min_f86c9 = Cond.code Lib.MathLoose.min_long.x Lib.MathLoose.min_long.code 4 (some .long) := by decide +kernel
theorem wm_max (ha : iR a) (hb : iR b) (hd : decode y.2.1 pc = .ok (.invokestatic idx, 3)) (hk : mLS y.1.cls idx mJ9_max_7cf53 2) (hR : 1 ≤ y.2.2.2.2.1 ∧ (rest.map fun v => v.category).sum + 13 ≤ y.2.2.2.2.2.1) (hc : nc ≤ mc ∧ ns ≤ ms) (k : WM y mc ms Post n0 (pc + 3) L (vI (max a b) :: rest) w nc ns) : WM y mc ms Post n0 pc L (vI b :: vI a :: rest) w nc ns := by
  intro p l e s m args below meth c D cA A ρ0 ρ H locs ls G hn hP hD hS hl
  obtain ⟨hx, hbb, hr, hml, hown, hts, hlk, hnm, hKK, hN, hA⟩ := id G
  unfold iR at ha hb
  refine va_mmax hx hbb (by rw [hml]; exact hl.1.symm) hown (hts _ (lwg_in hk.2.1 rfl)) (hts _ (lwg_in hk.2.2 rfl)) (hts _ (lwg_in hk.1.1 rfl)) (by rw [← mcode_max]; exact hts _ (lwg_in hk.1.2.1 rfl)) hR.1 (by rw [cat_sum]; exact hR.2) hc.1 hc.2 hd ?_
  have ee : (if kI a < kI b then kI b else kI a) = kI (max a b) := by
    by_cases h : a < b
    · rw [if_pos ((kI_lt (by omega)).mpr h), show max a b = b by omega]
    · rw [if_neg (fun q => h ((kI_lt (by omega)).mp q)), show max a b = a by omega]
  rw [ee]
  exact k p l e s m args below meth c D cA A ρ0 ρ H locs ls G hn hP hD hS hl
theorem wm_min (ha : iR a) (hb : iR b) (hd : decode y.2.1 pc = .ok (.invokestatic idx, 3)) (hk : mLS y.1.cls idx mJ9_min_7cf53 2) (hR : 1 ≤ y.2.2.2.2.1 ∧ (rest.map fun v => v.category).sum + 13 ≤ y.2.2.2.2.2.1) (hc : nc ≤ mc ∧ ns ≤ ms) (k : WM y mc ms Post n0 (pc + 3) L (vI (min a b) :: rest) w nc ns) : WM y mc ms Post n0 pc L (vI b :: vI a :: rest) w nc ns := by
  intro p l e s m args below meth c D cA A ρ0 ρ H locs ls G hn hP hD hS hl
  obtain ⟨hx, hbb, hr, hml, hown, hts, hlk, hnm, hKK, hN, hA⟩ := id G
  unfold iR at ha hb
  refine va_mmin hx hbb (by rw [hml]; exact hl.1.symm) hown (hts _ (lwg_in hk.2.1 rfl)) (hts _ (lwg_in hk.2.2 rfl)) (hts _ (lwg_in hk.1.1 rfl)) (by rw [← mcode_min]; exact hts _ (lwg_in hk.1.2.1 rfl)) hR.1 (by rw [cat_sum]; exact hR.2) hc.1 hc.2 hd ?_
  have ee : (if kI b < kI a then kI b else kI a) = kI (min a b) := by
    by_cases h : b < a
    · rw [if_pos ((kI_lt (by omega)).mpr h), show min a b = b by omega]
    · rw [if_neg (fun q => h ((kI_lt (by omega)).mp q)), show min a b = a by omega]
  rw [ee]
  exact k p l e s m args below meth c D cA A ρ0 ρ H locs ls G hn hP hD hS hl
theorem wm_maxL (ha : lR a) (hb : lR b) (hd : decode y.2.1 pc = .ok (.invokestatic idx, 3)) (hk : mLS y.1.cls idx mJ9_max_f86c9 2) (hR : 1 ≤ y.2.2.2.2.1 ∧ (rest.map fun v => v.category).sum + 15 ≤ y.2.2.2.2.2.1) (hc : nc ≤ mc ∧ ns ≤ ms) (k : WM y mc ms Post n0 (pc + 3) L (vJ (max a b) :: rest) w nc ns) : WM y mc ms Post n0 pc L (vJ b :: vJ a :: rest) w nc ns := by
  intro p l e s m args below meth c D cA A ρ0 ρ H locs ls G hn hP hD hS hl
  obtain ⟨hx, hbb, hr, hml, hown, hts, hlk, hnm, hKK, hN, hA⟩ := id G
  unfold lR at ha hb
  refine va_mmax_long hx hbb (by rw [hml]; exact hl.1.symm) hown (hts _ (lwg_in hk.2.1 rfl)) (hts _ (lwg_in hk.2.2 rfl)) (hts _ (lwg_in hk.1.1 rfl)) (by rw [← mcode_maxL]; exact hts _ (lwg_in hk.1.2.1 rfl)) hR.1 (by rw [cat_sum]; exact hR.2) hc.1 hc.2 hd ?_
  have ee : (if kL b < kL a then kL a else kL b) = kL (max a b) := by
    by_cases h : b < a
    · rw [if_pos ((kL_lt (by omega)).mpr h), show max a b = a by omega]
    · rw [if_neg (fun q => h ((kL_lt (by omega)).mp q)), show max a b = b by omega]
  rw [ee]
  exact k p l e s m args below meth c D cA A ρ0 ρ H locs ls G hn hP hD hS hl
theorem wm_minL (ha : lR a) (hb : lR b) (hd : decode y.2.1 pc = .ok (.invokestatic idx, 3)) (hk : mLS y.1.cls idx mJ9_min_f86c9 2) (hR : 1 ≤ y.2.2.2.2.1 ∧ (rest.map fun v => v.category).sum + 15 ≤ y.2.2.2.2.2.1) (hc : nc ≤ mc ∧ ns ≤ ms) (k : WM y mc ms Post n0 (pc + 3) L (vJ (min a b) :: rest) w nc ns) : WM y mc ms Post n0 pc L (vJ b :: vJ a :: rest) w nc ns := by
  intro p l e s m args below meth c D cA A ρ0 ρ H locs ls G hn hP hD hS hl
  obtain ⟨hx, hbb, hr, hml, hown, hts, hlk, hnm, hKK, hN, hA⟩ := id G
  unfold lR at ha hb
  refine va_mmin_long hx hbb (by rw [hml]; exact hl.1.symm) hown (hts _ (lwg_in hk.2.1 rfl)) (hts _ (lwg_in hk.2.2 rfl)) (hts _ (lwg_in hk.1.1 rfl)) (by rw [← mcode_minL]; exact hts _ (lwg_in hk.1.2.1 rfl)) hR.1 (by rw [cat_sum]; exact hR.2) hc.1 hc.2 hd ?_
  have ee : (if kL b < kL a then kL b else kL a) = kL (min a b) := by
    by_cases h : b < a
    · rw [if_pos ((kL_lt (by omega)).mpr h), show min a b = b by omega]
    · rw [if_neg (fun q => h ((kL_lt (by omega)).mp q)), show min a b = a by omega]
  rw [ee]
  exact k p l e s m args below meth c D cA A ρ0 ρ H locs ls G hn hP hD hS hl
end
