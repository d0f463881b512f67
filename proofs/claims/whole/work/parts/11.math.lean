/-! words and rows, as the document speaks of them -/
def lst {α : Type} (f : Nat → α) (n : Nat) : List α := (List.range n).map f
theorem lst_len {α : Type} (f : Nat → α) (n : Nat) : (lst f n).length = n := by simp [lst]
theorem lst_get {α : Type} (f : Nat → α) {n k : Nat} (h : k < n) : (lst f n)[k]? = some (f k) := by
  simp [lst, h]
theorem lst_succ {α : Type} (f : Nat → α) (n : Nat) : lst f (n + 1) = lst f n ++ [f n] := by simp [lst, List.range_succ]
theorem lst_ext {α : Type} {f g : Nat → α} {n : Nat} (h : ∀ j, j < n → f j = g j) : lst f n = lst g n := by
  apply List.map_congr_left
  intro j hj
  exact h j (List.mem_range.mp hj)
theorem lst_inj {α : Type} {f g : Nat → α} {n : Nat} (h : lst f n = lst g n) : ∀ j, j < n → f j = g j := by
  intro j hj
  have h1 := lst_get f hj
  rw [h, lst_get g hj] at h1
  exact (Option.some.inj h1).symm
theorem lst_up {α : Type} (f : Nat → α) (n : Nat) (v : α) : lst (va_up f n v) (n + 1) = lst f n ++ [v] := by
  rw [lst_succ]
  congr 1
  · exact lst_ext fun j hj => by simp [va_up, Nat.ne_of_lt hj]
  · simp [va_up]
theorem lst_up_ge {α : Type} (f : Nat → α) {n k : Nat} (h : n ≤ k) (v : α) : lst (va_up f k v) n = lst f n := lst_ext fun j hj => by simp [va_up]; omega
theorem lst_mem {α : Type} {f : Nat → α} {n : Nat} {x : α} : x ∈ lst f n ↔ ∃ k, k < n ∧ f k = x := by simp [lst]
/-- the first place that has p -/
def fnd (p : Nat → Bool) (n : Nat) : Option Nat := (List.range n).find? p
def oI : Option Nat → Int
  | none => -2
  | some k => k
theorem fnd_none {p : Nat → Bool} {n : Nat} (h : ∀ j, j < n → p j = false) : fnd p n = none := by
  unfold fnd
  rw [List.find?_eq_none]
  intro j hj
  simp [h j (List.mem_range.mp hj)]
theorem fnd_some {p : Nat → Bool} {n k : Nat} (hk : k < n) (hp : p k = true) (h : ∀ j, j < k → p j = false) : fnd p n = some k := by
  unfold fnd
  rw [List.find?_range_eq_some]
  exact ⟨hp, List.mem_range.mpr hk, fun j hj => by simp [h j hj]⟩
theorem fnd_spec {p : Nat → Bool} {n k : Nat} (h : fnd p n = some k) : k < n ∧ p k = true ∧ ∀ j, j < k → p j = false := by
  unfold fnd at h
  rw [List.find?_range_eq_some] at h
  exact ⟨List.mem_range.mp h.2.1, h.1, fun j hj => by simpa using h.2.2 j hj⟩
theorem fnd_spec0 {p : Nat → Bool} {n : Nat} (h : fnd p n = none) : ∀ j, j < n → p j = false := by
  unfold fnd at h
  rw [List.find?_eq_none] at h
  intro j hj
  simpa using h j (List.mem_range.mpr hj)
theorem fnd_congr {p q : Nat → Bool} {n : Nat} (h : ∀ j, j < n → p j = q j) : fnd p n = fnd q n := by
  cases hq : fnd q n with
  | none => exact fnd_none fun j hj => by rw [h j hj]; exact fnd_spec0 hq j hj
  | some k =>
    obtain ⟨h1, h2, h3⟩ := fnd_spec hq
    exact fnd_some h1 (by rw [h k h1]; exact h2) fun j hj => by rw [h j (by omega)]; exact h3 j hj
/-- the place of a word among those with numbers -/
def wix (ws : List Nat) (x : Nat) : Option Nat := fnd (fun k => ws[k]? == some x) ws.length
theorem wix_lst (f : Nat → Nat) (n x : Nat) : wix (lst f n) x = fnd (fun k => f k == x) n := by
  unfold wix
  rw [lst_len]
  refine fnd_congr fun j hj => ?_
  rw [lst_get f hj]
  by_cases h : f j = x <;> simp [h]
/-- words get numbers, in order; none: there is no room -/
def numb : List Nat → List Nat → Option (List Nat × List Nat)
  | ws, [] => some (ws, [])
  | ws, x :: xs => match wix ws x with
    | some k => (numb ws xs).map (fun q => (q.1, k :: q.2))
    | none => if ws.length < 200 then (numb (ws ++ [x]) xs).map (fun q => (q.1, ws.length :: q.2)) else none
