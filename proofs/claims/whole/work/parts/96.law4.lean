/-! THE LAW, 4: two worlds, one behind the other -/
def shW (n : Nat) (B : MW) : MW := B.map (mrE (fun i => n + i))
def sB_ (n m : Nat) : List Nat := (List.range m).map (fun i => n + i)
theorem sg_A {n N i : Nat} (h : i < n) : sg (List.range n) N i = i := by
  unfold sg
  rw [List.getElem?_range h]
theorem sg_B {n m N i : Nat} (h : i < m) : sg (sB_ n m) N i = n + i := by
  unfold sg sB_
  rw [List.getElem?_map, List.getElem?_range h]
  rfl
theorem mrE_congr {f g : Nat → Nat} {n : Nat} (h : ∀ i, i < n → f i = g i) {w : MW} (hw : mwfW n w = true) {e : va_E} (he : e ∈ w) : mrE f e = mrE g e := by
  cases e with
  | inl a => rfl
  | inr o =>
    show Sum.inr (o.1, o.2.map (mvV f)) = Sum.inr (o.1, o.2.map (mvV g))
    rw [mapV_congr (fun j hj => h j hj) (mwfW_all hw o he)]
theorem mrE_id (e : va_E) : mrE (fun i => i) e = e := by
  cases e with
  | inl a => rfl
  | inr o =>
    show Sum.inr (o.1, o.2.map (mvV (fun i => i))) = Sum.inr o
    rw [show o.2.map (mvV (fun i => i)) = o.2 from by
      conv => rhs; rw [← List.map_id o.2]
      exact List.map_congr_left (fun v _ => by cases v <;> rfl)]
theorem mIn_A {n : Nat} {A B : MW} (hl : A.length = n) (hw : mwfW n A = true) : mIn (List.range n) (A ++ B) A := by
  unfold mIn
  apply List.ext_getElem?
  intro i
  rw [List.getElem?_map, List.getElem?_map]
  by_cases h : i < n
  · rw [List.getElem?_range h, List.getElem?_eq_getElem (by omega)]
    show some ((A ++ B)[i]?) = some (some (mrE _ A[i]))
    rw [List.getElem?_append_left (by omega), List.getElem?_eq_getElem (by omega), mrE_congr (g := fun i => i) (fun j hj => sg_A hj) hw (List.getElem_mem _), mrE_id]
  · rw [List.getElem?_eq_none (by simpa using Nat.le_of_not_lt h), List.getElem?_eq_none (by omega)]
    rfl
theorem mIn_B {n m : Nat} {A B : MW} (hn : A.length = n) (hl : B.length = m) (hw : mwfW m B = true) : mIn (sB_ n m) (A ++ shW n B) B := by
  unfold mIn
  apply List.ext_getElem?
  intro i
  rw [List.getElem?_map, List.getElem?_map]
  by_cases h : i < m
  · rw [show (sB_ n m)[i]? = some (n + i) from by unfold sB_; rw [List.getElem?_map, List.getElem?_range h]; rfl, List.getElem?_eq_getElem (by omega)]
    show some ((A ++ shW n B)[n + i]?) = some (some (mrE _ B[i]))
    rw [List.getElem?_append_right (by omega), show n + i - A.length = i by omega]
    unfold shW
    rw [List.getElem?_map, List.getElem?_eq_getElem (by omega)]
    exact congrArg (fun x => some (some x)) (mrE_congr (n := m) (fun j hj => (sg_B hj).symm) hw (List.getElem_mem _))
  · rw [List.getElem?_eq_none (by unfold sB_; simpa using Nat.le_of_not_lt h), List.getElem?_eq_none (by omega)]
    rfl
theorem mix_A {n i : Nat} (h : i < n) : mix i (List.range n) 0 = some i := by
  cases hm : mix i (List.range n) 0 with
  | none => exact absurd (List.getElem?_range h) (mix_none hm i)
  | some j =>
    have h1 := (mix_some hm).2
    rw [Nat.sub_zero] at h1
    obtain ⟨h2, h3⟩ := List.getElem?_eq_some_iff.mp h1
    rw [List.getElem_range] at h3
    rw [h3]
theorem mix_An {n i : Nat} (h : n ≤ i) : mix i (List.range n) 0 = none := by
  cases hm : mix i (List.range n) 0 with
  | none => rfl
  | some j =>
    have h1 := (mix_some hm).2
    rw [Nat.sub_zero] at h1
    obtain ⟨h2, h3⟩ := List.getElem?_eq_some_iff.mp h1
    rw [List.getElem_range] at h3
    rw [List.length_range] at h2
    omega
theorem mix_B {n m i : Nat} (h : i < m) : mix (n + i) (sB_ n m) 0 = some i := by
  have hs : (sB_ n m)[i]? = some (n + i) := by unfold sB_; rw [List.getElem?_map, List.getElem?_range h]; rfl
  cases hm : mix (n + i) (sB_ n m) 0 with
  | none => exact absurd hs (mix_none hm i)
  | some j =>
    have h1 := (mix_some hm).2
    rw [Nat.sub_zero] at h1
    unfold sB_ at h1
    rw [List.getElem?_map] at h1
    obtain ⟨k, h2, h3⟩ := Option.map_eq_some_iff.mp h1
    obtain ⟨h4, h5⟩ := List.getElem?_eq_some_iff.mp h2
    rw [List.getElem_range] at h5
    rw [show j = i by omega]
theorem mix_Bn {n m i : Nat} (h : i < n) : mix i (sB_ n m) 0 = none := by
  cases hm : mix i (sB_ n m) 0 with
  | none => rfl
  | some j =>
    have h1 := (mix_some hm).2
    rw [Nat.sub_zero] at h1
    unfold sB_ at h1
    rw [List.getElem?_map] at h1
    obtain ⟨k, h2, h3⟩ := Option.map_eq_some_iff.mp h1
    omega
theorem mrg_A {n : Nat} {A A' B : MW} (hl : A.length = n) (hl' : A'.length = n) (hw : mwfW n A' = true) : mrg (List.range n) (A ++ B) A' = A' ++ B := by
  unfold mrg
  rw [List.drop_of_length_le (by rw [List.length_range]; omega), List.map_nil, List.append_nil]
  apply List.ext_getElem?
  intro i
  rw [mgo_get, Nat.zero_add]
  by_cases h : i < n
  · rw [List.getElem?_append_left (by omega), List.getElem?_append_left (by omega), List.getElem?_eq_getElem (by omega), List.getElem?_eq_getElem (show i < A'.length by omega), Option.map_some, mix_A h]
    show some (match A'[i]? with | some e' => mrE (sg (List.range n) (A ++ B).length) e' | none => _) = _
    rw [List.getElem?_eq_getElem (show i < A'.length by omega)]
    show some (mrE _ _) = _
    rw [mrE_congr (g := fun i => i) (fun j hj => sg_A hj) hw (List.getElem_mem _), mrE_id]
  · rw [List.getElem?_append_right (by omega), List.getElem?_append_right (by omega), hl, hl', mix_An (by omega)]
    exact Option.map_id'
theorem mrg_B {n m : Nat} {A B B' : MW} (hn : A.length = n) (hl : B.length = m) (hl' : B'.length = m) (hw : mwfW m B' = true) : mrg (sB_ n m) (A ++ shW n B) B' = A ++ shW n B' := by
  unfold mrg
  rw [List.drop_of_length_le (by unfold sB_; rw [List.length_map, List.length_range]; omega), List.map_nil, List.append_nil]
  apply List.ext_getElem?
  intro i
  rw [mgo_get, Nat.zero_add]
  by_cases h : i < n
  · rw [List.getElem?_append_left (by omega), List.getElem?_append_left (by omega), mix_Bn h]
    exact Option.map_id'
  · rw [List.getElem?_append_right (by omega), List.getElem?_append_right (by omega), hn]
    by_cases h2 : i - n < m
    · have e1 : (shW n B)[i - n]? = some (mrE (fun i => n + i) B[i - n]) := by unfold shW; rw [List.getElem?_map, List.getElem?_eq_getElem (by omega)]; rfl
      have e2 : (shW n B')[i - n]? = some (mrE (fun i => n + i) B'[i - n]) := by unfold shW; rw [List.getElem?_map, List.getElem?_eq_getElem (by omega)]; rfl
      have e3 := mix_B (n := n) h2
      rw [show n + (i - n) = i by omega] at e3
      rw [e1, e2, Option.map_some, e3]
      show some (match B'[i - n]? with | some e' => mrE (sg (sB_ n m) (A ++ shW n B).length) e' | none => _) = _
      rw [List.getElem?_eq_getElem (show i - n < B'.length by omega)]
      exact congrArg some (mrE_congr (n := m) (fun j hj => sg_B hj) hw (List.getElem_mem _))
    · have e1 : (shW n B)[i - n]? = none := List.getElem?_eq_none (by unfold shW; rw [List.length_map]; omega)
      have e2 : (shW n B')[i - n]? = none := List.getElem?_eq_none (by unfold shW; rw [List.length_map]; omega)
      rw [e1, e2]
      rfl
