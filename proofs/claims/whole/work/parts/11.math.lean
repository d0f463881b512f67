/-! words and rows, as the document speaks of them -/
def lst {α : Type} (f : Nat → α) (n : Nat) : List α := (List.range n).map f
theorem lst_len {α : Type} (f : Nat → α) (n : Nat) : (lst f n).length = n := by simp [lst]
theorem lst_get {α : Type} (f : Nat → α) {n k : Nat} (h : k < n) : (lst f n)[k]? = some (f k) := by
  simp [lst, h]
theorem lst_succ {α : Type} (f : Nat → α) (n : Nat) : lst f (n + 1) = lst f n ++ [f n] := by simp [lst, List.range_succ]
theorem lst_ext {α : Type} {f g : Nat → α} {n : Nat} (h : ∀ j, j < n → f j = g j) : lst f n = lst g n := by
  apply List.map_congr_left
  intro j hj
  exact h j (List.mem_range.mp hj)
theorem lst_inj {α : Type} {f g : Nat → α} {n : Nat} (h : lst f n = lst g n) : ∀ j, j < n → f j = g j := by
  intro j hj
  have h1 := lst_get f hj
  rw [h, lst_get g hj] at h1
  exact (Option.some.inj h1).symm
theorem lst_up {α : Type} (f : Nat → α) (n : Nat) (v : α) : lst (va_up f n v) (n + 1) = lst f n ++ [v] := by
  rw [lst_succ]
  congr 1
  · exact lst_ext fun j hj => by simp [va_up, Nat.ne_of_lt hj]
  · simp [va_up]
theorem lst_up_ge {α : Type} (f : Nat → α) {n k : Nat} (h : n ≤ k) (v : α) : lst (va_up f k v) n = lst f n := lst_ext fun j hj => by simp [va_up]; omega
theorem lst_mem {α : Type} {f : Nat → α} {n : Nat} {x : α} : x ∈ lst f n ↔ ∃ k, k < n ∧ f k = x := by simp [lst]
/-- the first place that has p -/
def fnd (p : Nat → Bool) (n : Nat) : Option Nat := (List.range n).find? p
def oI : Option Nat → Int
  | none => -2
  | some k => k
theorem fnd_none {p : Nat → Bool} {n : Nat} (h : ∀ j, j < n → p j = false) : fnd p n = none := by
  unfold fnd
  rw [List.find?_eq_none]
  intro j hj
  simp [h j (List.mem_range.mp hj)]
theorem fnd_some {p : Nat → Bool} {n k : Nat} (hk : k < n) (hp : p k = true) (h : ∀ j, j < k → p j = false) : fnd p n = some k := by
  unfold fnd
  rw [List.find?_range_eq_some]
  exact ⟨hp, List.mem_range.mpr hk, fun j hj => by simp [h j hj]⟩
theorem fnd_spec {p : Nat → Bool} {n k : Nat} (h : fnd p n = some k) : k < n ∧ p k = true ∧ ∀ j, j < k → p j = false := by
  unfold fnd at h
  rw [List.find?_range_eq_some] at h
  exact ⟨List.mem_range.mp h.2.1, h.1, fun j hj => by simpa using h.2.2 j hj⟩
theorem fnd_spec0 {p : Nat → Bool} {n : Nat} (h : fnd p n = none) : ∀ j, j < n → p j = false := by
  unfold fnd at h
  rw [List.find?_eq_none] at h
  intro j hj
  simpa using h j (List.mem_range.mpr hj)
theorem fnd_congr {p q : Nat → Bool} {n : Nat} (h : ∀ j, j < n → p j = q j) : fnd p n = fnd q n := by
  cases hq : fnd q n with
  | none => exact fnd_none fun j hj => by rw [h j hj]; exact fnd_spec0 hq j hj
  | some k =>
    obtain ⟨h1, h2, h3⟩ := fnd_spec hq
    exact fnd_some h1 (by rw [h k h1]; exact h2) fun j hj => by rw [h j (by omega)]; exact h3 j hj
/-- the place of a word among those with numbers -/
def wix (ws : List Nat) (x : Nat) : Option Nat := fnd (fun k => ws[k]? == some x) ws.length
theorem wix_lst (f : Nat → Nat) (n x : Nat) : wix (lst f n) x = fnd (fun k => f k == x) n := by
  unfold wix
  rw [lst_len]
  refine fnd_congr fun j hj => ?_
  rw [lst_get f hj]
  by_cases h : f j = x <;> simp [h]
/-- words get numbers, in order; none: there is no room -/
def numb : List Nat → List Nat → Option (List Nat × List Int)
  | ws, [] => some (ws, [])
  | ws, x :: xs => match wix ws x with
    | some k => (numb ws xs).map (fun q => (q.1, (k : Int) :: q.2))
    | none => if ws.length < 200 then (numb (ws ++ [x]) xs).map (fun q => (q.1, (ws.length : Int) :: q.2)) else none
theorem numb_hit {g : Nat → Nat} {d x k : Nat} {xs : List Nat} (hf : fnd (fun k => g k == x) d = some k) : numb (lst g d) (x :: xs) = (numb (lst g d) xs).map (fun q => (q.1, (k : Int) :: q.2)) := by
  simp only [numb, wix_lst, hf]
theorem numb_new {g : Nat → Nat} {d x : Nat} {xs : List Nat} (hf : fnd (fun k => g k == x) d = none) (hd : d < 200) : numb (lst g d) (x :: xs) = (numb (lst (va_up g d x) (d + 1)) xs).map (fun q => (q.1, (d : Int) :: q.2)) := by
  simp only [numb, wix_lst, hf, lst_len, hd, if_true, lst_up]
theorem numb_full {g : Nat → Nat} {d x : Nat} {xs : List Nat} (hf : fnd (fun k => g k == x) d = none) (hd : ¬ d < 200) : numb (lst g d) (x :: xs) = none := by
  simp only [numb, wix_lst, hf, lst_len, hd, if_false]
theorem numb_step {A : Option (List Nat × List Int)} {X Y : List Nat} {x i : Nat} {xs : List Nat} {h : Nat → Int} {z : Int} (e : A = (numb X (x :: xs)).map (fun q => (q.1, lst h i ++ q.2))) (e2 : numb X (x :: xs) = (numb Y xs).map (fun q => (q.1, z :: q.2))) : A = (numb Y xs).map (fun q => (q.1, lst (va_up h i z) (i + 1) ++ q.2)) := by
  rw [e, e2, Option.map_map]
  congr 1
  funext q
  simp [lst_up]
theorem drop_lst {α : Type} (f : Nat → α) {n i : Nat} (h : i < n) : (lst f n).drop i = f i :: (lst f n).drop (i + 1) := by
  have hl : i < (lst f n).length := by rw [lst_len]; exact h
  rw [List.drop_eq_getElem_cons hl]
  congr 1
  have := lst_get f h
  rw [List.getElem?_eq_getElem hl] at this
  exact Option.some.inj this
theorem drop_lst_all {α : Type} (f : Nat → α) (n : Nat) : (lst f n).drop n = [] := List.drop_eq_nil_of_le (by rw [lst_len]; exact Nat.le_refl n)
theorem oI_pos {o : Option Nat} (h : 0 ≤ oI o) : ∃ k, o = some k ∧ oI o = (k : Int) := by
  cases o with
  | none => simp [oI] at h
  | some k => exact ⟨k, rfl, rfl⟩
theorem oI_neg {o : Option Nat} (h : ¬ 0 ≤ oI o) : o = none := by
  cases o with
  | none => rfl
  | some k => exact absurd (Int.natCast_nonneg k) h
theorem oI_R {o : Option Nat} {n : Nat} (h : ∀ k, o = some k → k < n) (hn : n ≤ 2147483647) : -2147483648 ≤ oI o ∧ oI o ≤ 2147483647 := by
  cases o with
  | none => simp [oI]
  | some k => have := h k rfl; simp only [oI]; omega
theorem oI_Rf {p : Nat → Bool} {n : Nat} (hn : n ≤ 2147483647) : -2147483648 ≤ oI (fnd p n) ∧ oI (fnd p n) ≤ 2147483647 := oI_R (fun k hk => (fnd_spec hk).1) hn
