/-! The shape of a graph -/
def dOK (b t nx : Nat) (es : List Ed) (d : Nat → Nat) : Prop := d b = 0 ∧ (∀ v, b < v → v < t → d v ≤ 3) ∧ d nx = 4 ∧ ∀ x ∈ es, d x.1 + (if 0 ≤ x.2.2.1 then 1 else 0) ≤ d x.2.1
/-- what holds of a segment's edges -/
def sgS (b nx : Nat) (es : List Ed) : Prop := b < nx ∧ (∀ x ∈ es, b ≤ x.1 ∧ x.1 < x.2.1 ∧ x.2.1 ≤ nx ∧ -2 ≤ x.2.2.1 ∧ x.2.2.1 < 200 ∧ (x.2.2.1 < 0 → x.1 = b ∧ x.2.1 = nx) ∧ (x.1 ≠ b → x.2.2.2 = 10)) ∧ es.Pairwise (fun x y => y.2.1 ≠ x.1) ∧ ∃ d, dOK b nx nx es d
theorem lst_pw {α : Type} {R : α → α → Prop} {f : Nat → α} : ∀ {n : Nat}, (∀ i j, i < j → j < n → R (f i) (f j)) → (lst f n).Pairwise R
  | 0, _ => List.Pairwise.nil
  | n + 1, h => by
    rw [lst_succ, List.pairwise_append]
    refine ⟨lst_pw (fun i j h1 h2 => h i j h1 (by omega)), List.pairwise_singleton _ _, fun a ha b hb => ?_⟩
    obtain ⟨k, hk, rfl⟩ := lst_mem.mp ha
    rw [List.mem_singleton.mp hb]
    exact h k n hk (by omega)
theorem altE_sp {b nx fi p v : Nat} (hp : pOK p) (hb : b < fi) (hn : fi + (plen p - 1) ≤ nx) : (∀ x ∈ altE b nx fi p v, (x.1 = b ∨ (fi ≤ x.1 ∧ x.1 < fi + (plen p - 1))) ∧ (x.2.1 = nx ∨ (fi ≤ x.2.1 ∧ x.2.1 < fi + (plen p - 1))) ∧ x.1 < x.2.1 ∧ -2 ≤ x.2.2.1 ∧ x.2.2.1 < 200 ∧ (x.2.2.1 < 0 → x.1 = b ∧ x.2.1 = nx) ∧ (x.1 ≠ b → x.2.2.2 = 10) ∧ (if x.1 = b then 0 else x.1 - fi + 1) + (if 0 ≤ x.2.2.1 then 1 else 0) ≤ (if x.2.1 = nx then 4 else x.2.1 - fi + 1)) ∧ (altE b nx fi p v).Pairwise (fun x y => y.2.1 ≠ x.1) := by
  have hl := plen_le p
  unfold altE
  by_cases h0 : plen p = 0
  · rw [if_pos h0]
    refine ⟨fun x hx => ?_, List.pairwise_singleton _ _⟩
    rw [List.mem_singleton.mp hx]
    refine ⟨Or.inl rfl, Or.inl rfl, by dsimp only; omega, by dsimp only; omega, by dsimp only; omega, fun _ => ⟨rfl, rfl⟩, fun h => absurd rfl h, ?_⟩
    dsimp only
    rw [if_pos (show b = b from rfl), if_pos (show nx = nx from rfl), if_neg (show ¬ (0 : Int) ≤ -2 by decide)]
    decide
  · rw [if_neg h0]
    refine ⟨fun x hx => ?_, lst_pw (fun i j h1 h2 => ?_)⟩
    · obtain ⟨k, hk, rfl⟩ := lst_mem.mp hx
      have hpk := hp k hk
      unfold altK
      dsimp only
      rw [if_pos (show (0 : Int) ≤ ((p / 256 ^ k % 256 : Nat) : Int) - 1 by omega)]
      by_cases hk0 : k = 0 <;> by_cases hk1 : k + 1 = plen p
      · rw [if_pos hk0, if_pos hk1, if_pos hk0]
        refine ⟨Or.inl rfl, Or.inl rfl, by omega, by omega, by omega, fun h => by omega, fun h => absurd rfl h, ?_⟩
        rw [if_pos rfl, if_pos rfl]; omega
      · rw [if_pos hk0, if_neg hk1, if_pos hk0]
        refine ⟨Or.inl rfl, Or.inr ⟨by omega, by omega⟩, by omega, by omega, by omega, fun h => by omega, fun h => absurd rfl h, ?_⟩
        rw [if_pos rfl]; split <;> omega
      · rw [if_neg hk0, if_pos hk1, if_neg hk0]
        refine ⟨Or.inr ⟨by omega, by omega⟩, Or.inl rfl, by omega, by omega, by omega, fun h => by omega, fun _ => rfl, ?_⟩
        rw [if_neg (by omega), if_pos rfl]; omega
      · rw [if_neg hk0, if_neg hk1, if_neg hk0]
        refine ⟨Or.inr ⟨by omega, by omega⟩, Or.inr ⟨by omega, by omega⟩, by omega, by omega, by omega, fun h => by omega, fun _ => rfl, ?_⟩
        rw [if_neg (by omega)]; split <;> omega
    · unfold altK
      dsimp only
      split <;> split <;> omega
theorem laE_sp {b nx : Nat} {PH TE : Nat → Nat} {l : Nat} : ∀ {a : Nat}, (∀ j, j < a → pOK (PH (8 * l + j))) → b + 1 + inn PH l a ≤ nx → (∀ x ∈ laE b nx (b + 1) PH TE l a, (x.1 = b ∨ (b + 1 ≤ x.1 ∧ x.1 < b + 1 + inn PH l a)) ∧ (x.2.1 = nx ∨ (b + 1 ≤ x.2.1 ∧ x.2.1 < b + 1 + inn PH l a)) ∧ x.1 < x.2.1 ∧ -2 ≤ x.2.2.1 ∧ x.2.2.1 < 200 ∧ (x.2.2.1 < 0 → x.1 = b ∧ x.2.1 = nx) ∧ (x.1 ≠ b → x.2.2.2 = 10)) ∧ (laE b nx (b + 1) PH TE l a).Pairwise (fun x y => y.2.1 ≠ x.1) ∧ ∃ d, dOK b (b + 1 + inn PH l a) nx (laE b nx (b + 1) PH TE l a) d
  | 0, _, hn => ⟨fun x hx => by simp [laE] at hx, List.Pairwise.nil, fun v => if v = nx then 4 else 0, by
      show (if b = nx then 4 else 0) = 0
      rw [if_neg (by omega)], fun v h1 h2 => by show (if v = nx then 4 else 0) ≤ 3; rw [if_neg (by have : inn PH l 0 = 0 := rfl; omega)]; omega, if_pos rfl, fun x hx => by simp [laE] at hx⟩
  | a + 1, hW, hn => by
    have hi : inn PH l (a + 1) = inn PH l a + (plen (PH (8 * l + a)) - 1) := rfl
    obtain ⟨h1, h2, d, h3, h4, h5, h6⟩ := laE_sp (b := b) (nx := nx) (PH := PH) (TE := TE) (l := l) (a := a) (fun j hj => hW j (by omega)) (by omega)
    obtain ⟨g1, g2⟩ := altE_sp (b := b) (nx := nx) (fi := b + 1 + inn PH l a) (v := TE (8 * l + a)) (hW a (by omega)) (by omega) (by omega)
    have he : laE b nx (b + 1) PH TE l (a + 1) = laE b nx (b + 1) PH TE l a ++ altE b nx (b + 1 + inn PH l a) (PH (8 * l + a)) (TE (8 * l + a)) := rfl
    refine ⟨fun x hx => ?_, ?_, fun v => if v < b + 1 + inn PH l a then d v else if v = nx then 4 else v - (b + 1 + inn PH l a) + 1, ?_, fun v q1 q2 => ?_, ?_, fun x hx => ?_⟩
    · rw [he] at hx
      rcases List.mem_append.mp hx with hx | hx
      · have := h1 x hx
        exact ⟨by omega, by omega, this.2.2⟩
      · have := g1 x hx
        exact ⟨by omega, by omega, this.2.2.1, this.2.2.2.1, this.2.2.2.2.1, this.2.2.2.2.2.1, this.2.2.2.2.2.2.1⟩
    · rw [he, List.pairwise_append]
      refine ⟨h2, g2, fun x hx y hy => ?_⟩
      have hx1 := h1 x hx
      have hy1 := g1 y hy
      omega
    · show (if b < b + 1 + inn PH l a then d b else _) = 0
      rw [if_pos (by omega)]; exact h3
    · show (if v < b + 1 + inn PH l a then d v else if v = nx then 4 else v - (b + 1 + inn PH l a) + 1) ≤ 3
      have hl := plen_le (PH (8 * l + a))
      by_cases q3 : v < b + 1 + inn PH l a
      · rw [if_pos q3]; exact h4 v q1 q3
      · rw [if_neg q3, if_neg (by omega)]
        omega
    · show (if nx < b + 1 + inn PH l a then d nx else if nx = nx then 4 else _) = 4
      rw [if_neg (by omega), if_pos rfl]
    · rw [he] at hx
      show (if x.1 < b + 1 + inn PH l a then d x.1 else if x.1 = nx then 4 else x.1 - (b + 1 + inn PH l a) + 1) + _ ≤ (if x.2.1 < b + 1 + inn PH l a then d x.2.1 else if x.2.1 = nx then 4 else x.2.1 - (b + 1 + inn PH l a) + 1)
      rcases List.mem_append.mp hx with hx | hx
      · have q1 := h1 x hx
        have q2 := h6 x hx
        have e1 : (if x.1 < b + 1 + inn PH l a then d x.1 else if x.1 = nx then 4 else x.1 - (b + 1 + inn PH l a) + 1) = d x.1 := if_pos (by omega)
        have e2 : (if x.2.1 < b + 1 + inn PH l a then d x.2.1 else if x.2.1 = nx then 4 else x.2.1 - (b + 1 + inn PH l a) + 1) = d x.2.1 := by
          rcases q1.2.1 with q3 | q3
          · rw [if_neg (show ¬ x.2.1 < b + 1 + inn PH l a by omega), if_pos q3, q3, h5]
          · exact if_pos (by omega)
        rw [e1, e2]
        exact q2
      · have q1 := g1 x hx
        have q2 := q1.2.2.2.2.2.2.2
        have q4 : (if x.1 < b + 1 + inn PH l a then d x.1 else if x.1 = nx then 4 else x.1 - (b + 1 + inn PH l a) + 1) = (if x.1 = b then 0 else x.1 - (b + 1 + inn PH l a) + 1) := by
          rcases q1.1 with q3 | q3
          · rw [if_pos (show x.1 < b + 1 + inn PH l a by omega), if_pos q3, q3]; exact h3
          · rw [if_neg (show ¬ x.1 < b + 1 + inn PH l a by omega), if_neg (show ¬ x.1 = nx by omega), if_neg (show ¬ x.1 = b by omega)]
        have q5 : (if x.2.1 < b + 1 + inn PH l a then d x.2.1 else if x.2.1 = nx then 4 else x.2.1 - (b + 1 + inn PH l a) + 1) = (if x.2.1 = nx then 4 else x.2.1 - (b + 1 + inn PH l a) + 1) := by
          rw [if_neg (show ¬ x.2.1 < b + 1 + inn PH l a by omega)]
        rw [q4, q5]
        exact q2
theorem sgS_one {b w : Nat} (hw : w < 200) : sgS b (b + 1) [(b, b + 1, (w : Int), 10)] := by
  refine ⟨Nat.lt_succ_self _, fun x hx => ?_, List.pairwise_singleton _ _, fun v => if v = b then 0 else 4, if_pos rfl, fun v h1 h2 => by omega, ?_, fun x hx => ?_⟩
  · rw [List.mem_singleton.mp hx]
    exact ⟨Nat.le_refl _, Nat.lt_succ_self _, Nat.le_refl _, by show -2 ≤ (w : Int); omega, by show (w : Int) < 200; omega, fun h => by replace h : (w : Int) < 0 := h; omega, fun h => absurd rfl h⟩
  · show (if b + 1 = b then 0 else 4) = 4
    rw [if_neg (by omega)]
  · rw [List.mem_singleton.mp hx]
    show (if b = b then 0 else 4) + (if (0 : Int) ≤ (w : Int) then 1 else 0) ≤ (if b + 1 = b then 0 else 4)
    rw [if_pos (show b = b from rfl), if_pos (show (0 : Int) ≤ (w : Int) by omega), if_neg (show ¬ b + 1 = b by omega)]
    decide
theorem sgS_la {b l a : Nat} {PH TE : Nat → Nat} (hW : ∀ j, j < a → pOK (PH (8 * l + j))) : sgS b (b + 1 + inn PH l a) (laE b (b + 1 + inn PH l a) (b + 1) PH TE l a) := by
  obtain ⟨g1, g2, d, g3, g4, g5, g6⟩ := laE_sp (b := b) (nx := b + 1 + inn PH l a) (TE := TE) hW (Nat.le_refl _)
  refine ⟨by omega, fun x hx => ?_, g2, d, g3, g4, g5, g6⟩
  have q := g1 x hx
  exact ⟨by omega, q.2.2.1, by omega, q.2.2.2⟩
theorem seg_sp {LP AL PH TE : Nat → Nat} {le : Nat} {rw_ : Nat → Nat} {rc i b : Nat} (hW : ∀ l, l < le → ∀ a, a < AL l → pOK (PH (8 * l + a))) (hr : rw_ i < 200) : sgS (seg LP AL PH TE le rw_ rc i b).bd (seg LP AL PH TE le rw_ rc i b).nx (seg LP AL PH TE le rw_ rc i b).es ∧ (seg LP AL PH TE le rw_ rc i b).bd = b := by
  unfold seg
  by_cases h : lgs LP le rw_ i (min 4 (rc - i)) < 0
  · rw [if_pos h]
    exact ⟨sgS_one hr, rfl⟩
  · rw [if_neg h]
    obtain ⟨k, h1, h2, h3, h4⟩ := lgs_spec (show 0 ≤ lgs LP le rw_ i (min 4 (rc - i)) by omega)
    exact ⟨sgS_la (hW _ h3), rfl⟩
/-- segments one behind another -/
def sgC : Nat → List Sg → Prop
  | _, [] => True
  | b, s :: D => s.bd = b ∧ sgS s.bd s.nx s.es ∧ sgC s.nx D
theorem segs_sp {LP AL PH TE : Nat → Nat} {le : Nat} {rw_ : Nat → Nat} {rc : Nat} (hW : ∀ l, l < le → ∀ a, a < AL l → pOK (PH (8 * l + a))) (hr : ∀ j, j < rc → rw_ j < 200) : ∀ {f i b : Nat}, sgC b (segs LP AL PH TE le rw_ rc f i b)
  | 0, _, _ => trivial
  | f + 1, i, b => by
    unfold segs
    by_cases h : i < rc
    · rw [if_pos h]
      have := seg_sp (LP := LP) (TE := TE) (rc := rc) (i := i) (b := b) hW (hr i h)
      exact ⟨this.2, this.1, segs_sp hW hr⟩
    · rw [if_neg h]; trivial
/-- the last border -/
def lsB : Nat → List Sg → Nat
  | b, [] => b
  | _, s :: D => lsB s.nx D
theorem lsB_ge : ∀ {D : List Sg} {b : Nat}, sgC b D → b ≤ lsB b D
  | [], b, _ => Nat.le_refl _
  | s :: D, b, h => by
    have := lsB_ge h.2.2
    have h2 := h.2.1.1
    have h3 := h.1
    show b ≤ lsB s.nx D
    omega
/-- what holds of all edges -/
theorem sgC_all : ∀ {D : List Sg} {b q0 : Nat}, sgC b D → (∀ x ∈ D.flatMap Sg.es, b ≤ x.1 ∧ x.1 < x.2.1 ∧ x.2.1 ≤ lsB b D ∧ -2 ≤ x.2.2.1 ∧ x.2.2.1 < 200) ∧ (D.flatMap Sg.es).Pairwise (fun x y => y.2.1 ≠ x.1) ∧ ∃ q : Nat → Nat, q b = q0 ∧ (∀ v, b ≤ v → v ≤ lsB b D → q v ≤ q0 + 4 * D.length) ∧ ∀ x ∈ D.flatMap Sg.es, q x.1 + (if 0 ≤ x.2.2.1 then 1 else 0) ≤ q x.2.1
  | [], b, q0, _ => ⟨fun x hx => by simp at hx, List.Pairwise.nil, fun _ => q0, rfl, fun v _ _ => Nat.le_add_right _ _, fun x hx => by simp at hx⟩
  | s :: D, b, q0, h => by
    obtain ⟨h1, ⟨h2, h3, h4, d, h5, h6, h7, h8⟩, h9⟩ := h
    obtain ⟨g1, g2, q, g3, g4, g5⟩ := sgC_all (q0 := q0 + 4) h9
    have hge := lsB_ge h9
    have e1 : (s :: D).flatMap Sg.es = s.es ++ D.flatMap Sg.es := List.flatMap_cons
    have e2 : lsB b (s :: D) = lsB s.nx D := rfl
    rw [e1, e2]
    refine ⟨fun x hx => ?_, ?_, fun v => if v < s.nx then q0 + d v else q v, ?_, fun v k1 k2 => ?_, fun x hx => ?_⟩
    · rcases List.mem_append.mp hx with hx | hx
      · have := h3 x hx
        exact ⟨by omega, by omega, by omega, this.2.2.2.1, this.2.2.2.2.1⟩
      · have := g1 x hx
        exact ⟨by omega, by omega, by omega, this.2.2.2.1, this.2.2.2.2⟩
    · rw [List.pairwise_append]
      refine ⟨h4, g2, fun x hx y hy => ?_⟩
      have k1 := h3 x hx
      have k2 := g1 y hy
      omega
    · show (if b < s.nx then q0 + d b else q b) = q0
      rw [if_pos (by omega), ← h1, h5]; rfl
    · show (if v < s.nx then q0 + d v else q v) ≤ q0 + 4 * (D.length + 1)
      by_cases k3 : v < s.nx
      · rw [if_pos k3]
        by_cases k4 : v = s.bd
        · rw [k4, h5]; omega
        · have := h6 v (by omega) k3; omega
      · rw [if_neg k3]
        have := g4 v (by omega) k2; omega
    · show (if x.1 < s.nx then q0 + d x.1 else q x.1) + _ ≤ (if x.2.1 < s.nx then q0 + d x.2.1 else q x.2.1)
      rcases List.mem_append.mp hx with hx | hx
      · have k1 := h3 x hx
        have k2 := h8 x hx
        rw [if_pos (by omega)]
        by_cases k3 : x.2.1 < s.nx
        · rw [if_pos k3]; omega
        · rw [if_neg k3, show x.2.1 = s.nx by omega, g3]
          rw [show x.2.1 = s.nx by omega, h7] at k2
          omega
      · have k1 := g1 x hx
        rw [if_neg (show ¬ x.1 < s.nx by omega), if_neg (show ¬ x.2.1 < s.nx by omega)]
        exact g5 x hx
theorem sgC_mem : ∀ {D : List Sg} {b : Nat} {s : Sg}, sgC b D → s ∈ D → sgS s.bd s.nx s.es
  | s' :: D, b, s, h, hs => by
    rcases List.mem_cons.mp hs with rfl | hs
    · exact h.2.1
    · exact sgC_mem h.2.2 hs
theorem lsB_bo {bo : Nat → Nat} : ∀ {D : List Sg} {b j : Nat}, sgC b D → bo j = b → (∀ (k : Nat) (s : Sg), D[k]? = some s → bo (j + k) = s.bd ∧ bo (j + k + 1) = s.nx) → lsB b D = bo (j + D.length)
  | [], b, j, _, hb, _ => hb.symm
  | s :: D, b, j, h, hb, hD => by
    have h0 := hD 0 s rfl
    show lsB s.nx D = bo (j + (D.length + 1))
    rw [show j + (D.length + 1) = (j + 1) + D.length by omega]
    refine lsB_bo h.2.2 h0.2 (fun k t hk => ?_)
    have := hD (k + 1) t hk
    rw [show j + 1 + k = j + (k + 1) by omega]
    exact this
theorem plF_q {fr to : Nat → Nat} {wo : Nat → Int} {q : Nat → Nat} : ∀ {e : Nat}, (∀ j, j < e → q (fr j) + (if 0 ≤ wo j then 1 else 0) ≤ q (to j)) → ∀ v, plF fr to wo e v ≤ q v
  | 0, _, _ => Nat.zero_le _
  | e + 1, h, v => by
    have ih := plF_q (fr := fr) (to := to) (wo := wo) (e := e) (fun j hj => h j (by omega))
    have h1 := h e (by omega)
    unfold plF
    by_cases h2 : v = to e
    · rw [if_pos h2]
      refine Nat.max_le.mpr ⟨ih v, ?_⟩
      rw [h2]
      exact Nat.le_trans (Nat.add_le_add_right (ih (fr e)) _) h1
    · rw [if_neg h2]; exact ih v
/-- what is used of a graph -/
def gS (fr to : Nat → Nat) (wo : Nat → Int) (te : Nat → Nat) (fo no : Nat → Int) (sk : Nat → Int) (bo : Nat → Nat) (nn ne nm : Nat) : Prop :=
  (ne ≤ 512 ∧ nn ≤ 401 ∧ nm ≤ 16 ∧ 1 ≤ nn ∧ nn = bo nm + 1 ∧ bo 0 = 0) ∧ chn fr fo no nn ne ∧ (∀ e, e < ne → fr e < to e ∧ to e < nn ∧ -2 ≤ wo e ∧ wo e < 200 ∧ te e ≤ 10) ∧ ((∀ m, m < nm → bo m < bo (m + 1)) ∧ (∀ m, m ≤ nm → bo m < nn) ∧ ∀ m, m < nm → -2 ≤ sk m ∧ sk m < ne) ∧ (∀ e f, e < ne → f < ne → to e = fr f → e < f) ∧ (∀ e, e < ne → plF fr to wo e (fr e) + (if 0 ≤ wo e then 1 else 0) ≤ 64) ∧ ∀ e v, e ≤ ne → v < nn → plF fr to wo e v ≤ 64
theorem bo_mono {bo : Nat → Nat} : ∀ {n : Nat}, (∀ m, m < n → bo m < bo (m + 1)) → ∀ m, m ≤ n → bo m ≤ bo n
  | 0, _, m, hm => by rw [show m = 0 by omega]; exact Nat.le_refl _
  | n + 1, h, m, hm => by
    have h1 := h n (by omega)
    rcases Nat.lt_or_ge n m with h2 | h2
    · rw [show m = n + 1 by omega]; exact Nat.le_refl _
    · have := bo_mono (n := n) (fun k hk => h k (by omega)) m h2; omega
theorem gR_S {D : List Sg} {fr to : Nat → Nat} {wo : Nat → Int} {te : Nat → Nat} {hv : Nat → Bool} {fo no : Nat → Int} {mb mw : Nat → Nat} {ml : Nat → Int} {ma : Nat → Nat} {sk : Nat → Int} {bo : Nat → Nat} {nn ne nm : Nat} (h : gR D fr to wo te hv fo no mb mw ml ma sk bo nn ne nm) (hC : sgC 0 D) (h1 : nm ≤ 16) (h2 : nn ≤ 1 + 25 * nm) (h3 : ne ≤ 32 * nm) : gS fr to wo te fo no sk bo nn ne nm := by
  have hm := h.m
  have hb0 : bo 0 = 0 := by
    cases D with
    | nil => have := h.n; rw [show nm = 0 from hm] at this h2; omega
    | cons s D => have := (h.b 0 s rfl).2.2.2.2.1; rw [this]; exact hC.1
  have hls : lsB 0 D = bo nm := by
    have := lsB_bo (bo := bo) (j := 0) hC hb0 (fun k s hk => by rw [Nat.zero_add]; exact ⟨(h.b k s hk).2.2.2.2.1, (h.b k s hk).2.2.2.2.2⟩)
    rw [this, Nat.zero_add, ← hm]
  have hn := h.n
  obtain ⟨g1, g2, q, g3, g4, g5⟩ := sgC_all (q0 := 0) hC
  have hmem : ∀ e, e < ne → (fr e, to e, wo e, te e) ∈ D.flatMap Sg.es := fun e he => by rw [← h.e]; exact lst_mem.mpr ⟨e, he, rfl⟩
  have hD : ∀ m, m < nm → ∃ s, D[m]? = some s := fun m hm' => ⟨D[m]'(by omega), List.getElem?_eq_getElem _⟩
  have hbm : ∀ m, m < nm → bo m < bo (m + 1) := fun m hm' => by
    obtain ⟨s, hs⟩ := hD m hm'
    have k1 := h.b m s hs
    rw [k1.2.2.2.2.1, k1.2.2.2.2.2]
    exact (sgC_mem hC (List.mem_of_getElem? hs)).1
  have hq : ∀ j, j < ne → q (fr j) + (if 0 ≤ wo j then 1 else 0) ≤ q (to j) := fun j hj => g5 _ (hmem j hj)
  have hed : ∀ e, e < ne → fr e < to e ∧ to e < nn ∧ -2 ≤ wo e ∧ wo e < 200 ∧ te e ≤ 10 := fun e he => by
    have k := g1 _ (hmem e he)
    dsimp only at k
    exact ⟨k.2.1, by omega, k.2.2.2.1, k.2.2.2.2, h.t e he⟩
  have hqt : ∀ v, v < nn → q v ≤ 64 := fun v hv => by
    have := g4 v (Nat.zero_le _) (by omega)
    omega
  refine ⟨⟨by omega, by omega, h1, by omega, hn, hb0⟩, h.c, hed, ⟨hbm, fun m hm' => by have := bo_mono hbm m hm'; omega, fun m hm' => ?_⟩, fun e f he hf hef => ?_, fun e he => ?_, fun e v he hv => ?_⟩
  · obtain ⟨s, hs⟩ := hD m hm'
    have k := h.s m s hs
    rcases Int.lt_or_le (sk m) 0 with k1 | k1
    · have := (k.1 k1).1; omega
    · obtain ⟨e, k2, k3, _⟩ := k.2 k1; omega
  · have hpw : (eL fr to wo te ne).Pairwise (fun x y => y.2.1 ≠ x.1) := by rw [h.e]; exact g2
    rcases Nat.lt_or_ge e f with k | k
    · exact k
    · exfalso
      have k1 := (hed e he).1
      have k2 : f < e := by
        rcases Nat.lt_or_ge f e with k3 | k3
        · exact k3
        · rw [show f = e by omega] at hef; omega
      have := List.pairwise_iff_getElem.mp hpw f e (by rw [eL, lst_len]; exact hf) (by rw [eL, lst_len]; exact he) k2
      have e1 : ∀ (i : Nat) (hi : i < (eL fr to wo te ne).length), (eL fr to wo te ne)[i] = (fr i, to i, wo i, te i) := fun i hi => by
        have hi2 : i < ne := by rw [eL, lst_len] at hi; exact hi
        have := lst_get (fun e => (fr e, to e, wo e, te e)) hi2
        rw [List.getElem?_eq_some_iff] at this
        exact this.2
      rw [e1, e1] at this
      exact this hef
  · have k1 := plF_q (fr := fr) (to := to) (wo := wo) (e := e) (fun j hj => hq j (by omega)) (fr e)
    have k2 := hq e he
    have k3 := hqt _ (hed e he).2.1
    omega
  · exact Nat.le_trans (plF_q (fun j hj => hq j (by omega)) v) (hqt v hv)
