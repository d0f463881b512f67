/-! THE PICTURE, 8: the heaviest -/
/-- borders from a node on -/
def kD : List Sg → Nat → Nat
  | [], _ => 0
  | s :: D, v => if v ≤ s.bd then D.length + 1 else kD D v
abbrev gtS (s : Sg) : Nat := gtE s.bd s.es 0
/-- the best that may still come, in tenths -/
def bD : List Sg → Nat → Nat
  | [], _ => 1
  | s :: D, v => if v ≤ s.bd then gtS s * bD D s.nx else bD D v
theorem kD_len : ∀ (D : List Sg) (b v : Nat), sgC b D → v ≤ b → kD D v = D.length
  | [], _, _, _, _ => rfl
  | s :: D, b, v, h, hv => by
    have := h.1
    exact if_pos (by omega)
theorem bD_b : ∀ (D : List Sg) (b v : Nat), sgC b D → v ≤ b → bD D v = bD D b
  | [], _, _, _, _ => rfl
  | s :: D, b, v, h, hv => by
    have := h.1
    unfold bD
    rw [if_pos (by omega), if_pos (by omega)]
theorem kD_be : ∀ (D : List Sg) (b k v : Nat), sgC b D → k ≤ D.length → (∀ j s, j < k → D[j]? = some s → s.bd < v) → (∀ s, D[k]? = some s → v ≤ s.bd) → kD D v = D.length - k
  | [], _, k, v, _, hk, _, _ => by
    show 0 = 0 - k
    omega
  | s :: D, b, 0, v, h, _, _, h2 => if_pos (h2 s rfl)
  | s :: D, b, k + 1, v, h, hk, h1, h2 => by
    have h3 := h1 0 s (by omega) rfl
    unfold kD
    rw [if_neg (by omega), kD_be D s.nx k v h.2.2 (by simpa using hk) (fun j t hj ht => h1 (j + 1) t (by omega) ht) (fun t ht => h2 t ht), List.length_cons]
    omega
theorem gtE_ge {b : Nat} : ∀ (es : List Ed) (g : Nat), g ≤ gtE b es g ∧ ∀ x ∈ es, x.1 = b → x.2.2.2 ≤ gtE b es g
  | [], g => ⟨Nat.le_refl _, fun x hx => by cases hx⟩
  | y :: es, g => by
    obtain ⟨h1, h2⟩ := gtE_ge (b := b) es (if y.1 = b then max g y.2.2.2 else g)
    unfold gtE
    by_cases c : y.1 = b
    · rw [if_pos c] at h1 h2 ⊢
      refine ⟨by omega, fun x hx hb => ?_⟩
      rcases List.mem_cons.mp hx with rfl | hx
      · omega
      · exact h2 x hx hb
    · rw [if_neg c] at h1 h2 ⊢
      refine ⟨h1, fun x hx hb => ?_⟩
      rcases List.mem_cons.mp hx with rfl | hx
      · exact absurd hb c
      · exact h2 x hx hb
theorem gtE_at {b : Nat} : ∀ (es : List Ed) (g : Nat), gtE b es g = g ∨ ∃ x ∈ es, x.1 = b ∧ x.2.2.2 = gtE b es g
  | [], g => Or.inl rfl
  | y :: es, g => by
    unfold gtE
    by_cases c : y.1 = b
    · rw [if_pos c]
      rcases gtE_at es (max g y.2.2.2) with h | ⟨x, hx, h1, h2⟩
      · rw [h]
        by_cases c2 : y.2.2.2 ≤ g
        · exact Or.inl (by omega)
        · exact Or.inr ⟨y, List.mem_cons_self, c, by omega⟩
      · exact Or.inr ⟨x, List.mem_cons_of_mem _ hx, h1, h2⟩
    · rw [if_neg c]
      rcases gtE_at es g with h | ⟨x, hx, h1, h2⟩
      · exact Or.inl h
      · exact Or.inr ⟨x, List.mem_cons_of_mem _ hx, h1, h2⟩
theorem gtS_pos {s : Sg} (hb : s.bd < s.nx) (hX : sgX s) : 1 ≤ gtS s := by
  obtain ⟨x, hx, h1⟩ := hX.1 s.bd (Nat.le_refl _) hb
  have := (gtE_ge s.es 0).2 x hx h1
  have := (hX.2.2 x hx).1
  show 1 ≤ gtE s.bd s.es 0
  omega
theorem bD_pos : ∀ (D : List Sg) (b v : Nat), sgC b D → (∀ s ∈ D, sgX s) → 1 ≤ bD D v
  | [], _, _, _, _ => Nat.le_refl _
  | s :: D, b, v, h, hX => by
    unfold bD
    split
    · exact Nat.mul_pos (gtS_pos h.2.1.1 (hX s List.mem_cons_self)) (bD_pos D s.nx s.nx h.2.2 (fun t ht => hX t (List.mem_cons_of_mem _ ht)))
    · exact bD_pos D s.nx v h.2.2 (fun t ht => hX t (List.mem_cons_of_mem _ ht))
/-- an edge's ends -/
theorem kb_edge : ∀ (D : List Sg) (b : Nat), sgC b D → ∀ s ∈ D, ∀ x ∈ s.es, (x.1 = s.bd → kD D x.1 = kD D x.2.1 + 1 ∧ bD D x.1 = gtS s * bD D x.2.1) ∧ (x.1 ≠ s.bd → kD D x.1 = kD D x.2.1 ∧ bD D x.1 = bD D x.2.1)
  | [], _, _, s, hs, _, _ => by cases hs
  | t :: D, b, h, s, hs, x, hx => by
    rcases List.mem_cons.mp hs with rfl | hs
    · have hg := h.2.1.2.1 x hx
      have k1 : kD (s :: D) x.2.1 = D.length := by
        show (if x.2.1 ≤ s.bd then _ else _) = _
        rw [if_neg (by omega)]
        exact kD_len D s.nx _ h.2.2 (by omega)
      have k2 : bD (s :: D) x.2.1 = bD D s.nx := by
        show (if x.2.1 ≤ s.bd then _ else _) = _
        rw [if_neg (by omega)]
        exact bD_b D s.nx _ h.2.2 (by omega)
      refine ⟨fun hb => ?_, fun hb => ?_⟩
      · rw [k1, k2]
        refine ⟨?_, ?_⟩
        · show (if x.1 ≤ s.bd then _ else _) = _
          rw [if_pos (by omega)]
        · show (if x.1 ≤ s.bd then _ else _) = _
          rw [if_pos (by omega)]
      · rw [k1, k2]
        refine ⟨?_, ?_⟩
        · show (if x.1 ≤ s.bd then _ else _) = _
          rw [if_neg (by omega)]
          exact kD_len D s.nx _ h.2.2 (by omega)
        · show (if x.1 ≤ s.bd then _ else _) = _
          rw [if_neg (by omega)]
          exact bD_b D s.nx _ h.2.2 (by omega)
    · have ih := kb_edge D t.nx h.2.2 s hs x hx
      have hg := (sgC_all (q0 := 0) h.2.2).1 x (List.mem_flatMap.mpr ⟨s, hs, hx⟩)
      have hb := h.2.1.1
      have e : ∀ v, t.nx ≤ v → kD (t :: D) v = kD D v ∧ bD (t :: D) v = bD D v := fun v hv => ⟨if_neg (by omega), if_neg (by omega)⟩
      rw [(e x.1 hg.1).1, (e x.1 hg.1).2, (e x.2.1 (by omega)).1, (e x.2.1 (by omega)).2]
      exact ih
theorem kD_end : ∀ (D : List Sg) (b : Nat), sgC b D → kD D (lsB b D) = 0 ∧ bD D (lsB b D) = 1
  | [], _, _ => ⟨rfl, rfl⟩
  | s :: D, b, h => by
    have h1 := lsB_ge h.2.2
    have h2 := h.2.1.1
    have ih := kD_end D s.nx h.2.2
    refine ⟨?_, ?_⟩
    · show (if lsB s.nx D ≤ s.bd then _ else kD D (lsB s.nx D)) = 0
      rw [if_neg (by omega)]
      exact ih.1
    · show (if lsB s.nx D ≤ s.bd then _ else bD D (lsB s.nx D)) = 1
      rw [if_neg (by omega)]
      exact ih.2
/-! the best that may come, as the reference finds it -/
def ahL (fi : Nat → Bool) (n1 : Nat) : List Ed → Nat → Nat
  | [], v => if v = n1 then 1 else 0
  | x :: l, v => if v = x.1 then max (ahL fi n1 l v) (ahL fi n1 l x.2.1 * (if fi x.1 = true then x.2.2.2 else 1)) else ahL fi n1 l v
theorem ahE_L {D : List Sg} {fr to te : Nat → Nat} {wo : Nat → Int} {ne : Nat} (hE : eL fr to wo te ne = edD D) (fi : Nat → Bool) (n1 : Nat) : ∀ n, n ≤ ne → ∀ v, ahE fr to te (fun e => fi (fr e)) ne n1 n v = ahL fi n1 ((edD D).drop (ne - n)) v
  | 0, _, v => by
    have hl : (edD D).length = ne := by rw [← hE]; exact lst_len _ _
    rw [List.drop_eq_nil_of_le (by omega)]
    rfl
  | n + 1, hn, v => by
    have ih := ahE_L hE fi n1 n (by omega)
    have hd : (edD D).drop (ne - (n + 1)) = (fr (ne - (n + 1)), to (ne - (n + 1)), wo (ne - (n + 1)), te (ne - (n + 1))) :: (edD D).drop (ne - n) := by
      rw [← hE]
      show (lst _ ne).drop _ = _ :: (lst _ ne).drop _
      rw [drop_lst _ (show ne - (n + 1) < ne by omega), show ne - (n + 1) + 1 = ne - n by omega]
    rw [hd]
    unfold ahE ahL
    rw [ih, ih]
theorem max_mulR (a b c : Nat) : max a b * c = max (a * c) (b * c) := by
  rcases Nat.le_total a b with h | h
  · rw [Nat.max_eq_right h, Nat.max_eq_right (Nat.mul_le_mul_right _ h)]
  · rw [Nat.max_eq_left h, Nat.max_eq_left (Nat.mul_le_mul_right _ h)]
theorem ahL_none {fi : Nat → Bool} {n1 v : Nat} : ∀ {l : List Ed}, (∀ x ∈ l, x.1 ≠ v) → ahL fi n1 l v = if v = n1 then 1 else 0
  | [], _ => rfl
  | x :: l, h => by
    unfold ahL
    rw [if_neg (fun e => h x List.mem_cons_self e.symm)]
    exact ahL_none (fun y hy => h y (List.mem_cons_of_mem _ hy))
theorem ahL_skip {fi : Nat → Bool} {n1 v : Nat} : ∀ {l r : List Ed}, (∀ x ∈ l, x.1 ≠ v) → ahL fi n1 (l ++ r) v = ahL fi n1 r v
  | [], _, _ => rfl
  | x :: l, r, h => by
    have e : ahL fi n1 (x :: (l ++ r)) v = ahL fi n1 (l ++ r) v := if_neg (fun e => h x List.mem_cons_self e.symm)
    show ahL fi n1 (x :: (l ++ r)) v = _
    rw [e]
    exact ahL_skip (fun y hy => h y (List.mem_cons_of_mem _ hy))
/-- one segment -/
theorem ahL_seg {fi : Nat → Bool} {n1 b nx B : Nat} {r all : List Ed} (hn : nx ≤ n1) (hb : b < nx) (hfb : fi b = true) (hfi : ∀ v, b < v → v < nx → fi v = false) (hr : ∀ x ∈ r, nx ≤ x.1) (hB : ahL fi n1 r nx = B) (hed : ∀ x ∈ all, b ≤ x.1 ∧ x.1 < x.2.1 ∧ x.2.1 ≤ nx) (hnode : ∀ v, b < v → v < nx → ∃ x ∈ all, x.1 = v) (hpw : all.Pairwise (fun x y => y.2.1 ≠ x.1)) :
    ∀ (l pre : List Ed), all = pre ++ l → (∀ v, b < v → v < nx → (∃ x ∈ l, x.1 = v) → ahL fi n1 (l ++ r) v = B) ∧ ahL fi n1 (l ++ r) b = gtE b l 0 * B ∧ ahL fi n1 (l ++ r) nx = B
  | [], pre, _ => by
    refine ⟨fun v _ _ ⟨x, hx, _⟩ => (by cases hx), ?_, hB⟩
    show ahL fi n1 r b = 0 * B
    rw [ahL_none (fun x hx e => by have := hr x hx; omega), if_neg (by omega), Nat.zero_mul]
  | x :: l, pre, he => by
    obtain ⟨i1, i2, i3⟩ := ahL_seg hn hb hfb hfi hr hB hed hnode hpw l (pre ++ [x]) (by rw [he, List.append_assoc]; rfl)
    have hx := hed x (by rw [he]; exact List.mem_append_right _ List.mem_cons_self)
    have hto : ahL fi n1 (l ++ r) x.2.1 = B := by
      by_cases c : x.2.1 = nx
      · rw [c]; exact i3
      · refine i1 _ (by omega) (by omega) ?_
        obtain ⟨y, hy, hy1⟩ := hnode x.2.1 (by omega) (by omega)
        rw [he] at hy hpw
        rcases List.mem_append.mp hy with hy | hy
        · exact absurd hy1.symm ((List.pairwise_append.mp hpw).2.2 y hy x List.mem_cons_self)
        · rcases List.mem_cons.mp hy with rfl | hy
          · omega
          · exact ⟨y, hy, hy1⟩
    have hgt : ∀ (l : List Ed) (g : Nat), gtE b l g = max g (gtE b l 0) := by
      intro l
      induction l with
      | nil => intro g; show g = max g 0; omega
      | cons y l ih =>
        intro g
        unfold gtE
        split
        · rw [ih (max g y.2.2.2), ih (max 0 y.2.2.2)]
          omega
        · exact ih g
    show (∀ v, b < v → v < nx → _ → ahL fi n1 (x :: (l ++ r)) v = B) ∧ ahL fi n1 (x :: (l ++ r)) b = _ ∧ ahL fi n1 (x :: (l ++ r)) nx = B
    refine ⟨fun v h1 h2 h3 => ?_, ?_, ?_⟩
    · unfold ahL
      by_cases c : v = x.1
      · rw [if_pos c, hto, ← c, hfi v h1 h2, if_neg (by decide), Nat.mul_one]
        by_cases c2 : ∃ y ∈ l, y.1 = v
        · rw [i1 v h1 h2 c2]
          omega
        · rw [ahL_skip (fun y hy e => c2 ⟨y, hy, e⟩), ahL_none (fun y hy e => by have := hr y hy; omega), if_neg (by omega)]
          omega
      · rw [if_neg c]
        obtain ⟨y, hy, hy1⟩ := h3
        rcases List.mem_cons.mp hy with rfl | hy
        · exact absurd hy1.symm c
        · exact i1 v h1 h2 ⟨y, hy, hy1⟩
    · unfold ahL gtE
      by_cases c : b = x.1
      · rw [if_pos c, if_pos c.symm, hto, ← c, hfb, if_pos rfl, i2, hgt l (max 0 x.2.2.2), Nat.mul_comm B, ← max_mulR]
        congr 1
        omega
      · rw [if_neg c, if_neg (fun e => c e.symm)]
        exact i2
    · unfold ahL
      rw [if_neg (by omega)]
      exact i3
theorem ahL_D {fi : Nat → Bool} {n1 : Nat} : ∀ (D : List Sg) (b : Nat), sgC b D → (∀ s ∈ D, sgX s) → lsB b D = n1 → (∀ s ∈ D, fi s.bd = true) → (∀ s ∈ D, ∀ v, s.bd < v → v < s.nx → fi v = false) → ∀ v, b ≤ v → v ≤ n1 → ahL fi n1 (edD D) v = bD D v
  | [], b, _, _, hn, _, _, v, h1, h2 => by
    have : v = n1 := by have : b = n1 := hn; omega
    exact if_pos this
  | s :: D, b, h, hX, hn, h3, h4, v, h1, h2 => by
    have hb := h.1
    have hbx := h.2.1.1
    have hn' : lsB s.nx D = n1 := hn
    have hge := lsB_ge h.2.2
    have ih := ahL_D (fi := fi) D s.nx h.2.2 (fun t ht => hX t (List.mem_cons_of_mem _ ht)) hn' (fun t ht => h3 t (List.mem_cons_of_mem _ ht)) (fun t ht => h4 t (List.mem_cons_of_mem _ ht))
    have hr : ∀ x ∈ edD D, s.nx ≤ x.1 := fun x hx => ((sgC_all (q0 := 0) h.2.2).1 x hx).1
    obtain ⟨k1, k2, k3⟩ := ahL_seg (fi := fi) (n1 := n1) (b := s.bd) (nx := s.nx) (B := bD D s.nx) (r := edD D) (all := s.es) (by omega) hbx (h3 s List.mem_cons_self) (h4 s List.mem_cons_self) hr (ih s.nx (Nat.le_refl _) (by omega)) (fun x hx => by have := h.2.1.2.1 x hx; omega) (fun v h5 h6 => (hX s List.mem_cons_self).1 v (by omega) h6) h.2.1.2.2.1 s.es [] rfl
    rw [edD_cons]
    show _ = (if v ≤ s.bd then gtS s * bD D s.nx else bD D v)
    by_cases c : v ≤ s.bd
    · rw [if_pos c, show v = s.bd by omega, k2]
    · rw [if_neg c]
      by_cases c2 : v < s.nx
      · rw [k1 v (by omega) c2 ((hX s List.mem_cons_self).1 v (by omega) c2), bD_b D s.nx v h.2.2 (by omega)]
      · rw [ahL_skip (fun x hx e => by have := h.2.1.2.1 x hx; omega)]
        exact ih v (by omega) h2
