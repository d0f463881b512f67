/-! tokens: the class by bytes, the reference by pieces -/
abbrev zB (tx : Nat → Nat) : Nat → Int := fun q => ((tx q : Nat) : Int)
def cd (l : List Nat) : Nat := l.foldl (fun (a b : Nat) => a * 37 + dig (b : Int)) 0
theorem cd_app (l : List Nat) (b : Nat) : cd (l ++ [b]) = cd l * 37 + dig (b : Int) := by simp [cd]
theorem dig_oW (c : Nat) : oW c = true ↔ ¬ dig (c : Int) = 0 := by
  unfold oW dig
  rw [decide_eq_true_eq]
  split
  · constructor
    · intro _; omega
    · intro _; omega
  · split
    · constructor
      · intro _; omega
      · intro _; omega
    · constructor
      · intro _; omega
      · intro h; exact absurd rfl h
theorem dig_oW0 {c : Nat} (h : oW c = false) : dig (c : Int) = 0 := by
  cases Nat.decEq (dig (c : Int)) 0 with
  | isTrue h2 => exact h2
  | isFalse h2 => rw [(dig_oW c).mpr h2] at h; cases h
/-- a place where a token may begin -/
def bnd (tx : Nat → Nat) (sz i : Nat) : Prop := (i < sz → oW (tx i) = true → (trun (zB tx) sz i).2 = 0) ∧ (i < sz → tx i = 62 → 1 ≤ i → tx (i - 1) ≠ 61)
theorem trun_s (B : Nat → Int) (ln i : Nat) : trun B ln (i + 1) = tstep B ln i (trun B ln i) := rfl
theorem bnd_pre {tx : Nat → Nat} {sz i : Nat} (h : bnd tx sz i) : ∀ k, i + k ≤ sz → ∃ X, (trun (zB tx) sz (i + k)).1 = (trun (zB tx) sz i).1 ++ X ∧ (1 ≤ k → 1 ≤ (trun (zB tx) sz (i + k)).2 → X ≠ [])
  | 0, _ => ⟨[], by simp, fun h1 => absurd h1 (by decide)⟩
  | k + 1, hk => by
    obtain ⟨X, h1, h2⟩ := bnd_pre h k (by omega)
    rw [← Nat.add_assoc, trun_s]
    unfold tstep
    by_cases hd : dig (zB tx (i + k)) = 0
    · rw [if_pos hd]
      have hm : ∃ Y, tmark (zB tx) sz (trun (zB tx) sz (i + k)).1 (i + k) = (trun (zB tx) sz (i + k)).1 ++ Y := by
        unfold tmark
        split
        · exact ⟨[], by simp⟩
        split
        · exact ⟨_, rfl⟩
        split
        · exact ⟨_, rfl⟩
        split
        · split
          · exact ⟨_, rfl⟩
          · exact ⟨[], by simp⟩
        split
        · exact ⟨_, rfl⟩
        · exact ⟨_, rfl⟩
      obtain ⟨Y, hY⟩ := hm
      exact ⟨X ++ Y, by show tmark _ _ _ _ = _; rw [hY, h1, List.append_assoc], fun _ h3 => absurd (show 1 ≤ 0 from h3) (by decide)⟩
    · rw [if_neg hd]
      show ∃ Y, tdig (trun (zB tx) sz (i + k)).1 ((trun (zB tx) sz (i + k)).2 + 1) (dig (zB tx (i + k))) (i + k) = _ ∧ _
      unfold tdig
      by_cases hw : (trun (zB tx) sz (i + k)).2 + 1 = 1 ∨ (trun (zB tx) sz (i + k)).1 = []
      · rw [if_pos hw, h1]
        exact ⟨X ++ [(0, i + k, dig (zB tx (i + k)))], by rw [List.append_assoc], fun _ _ => by simp⟩
      · rw [if_neg hw]
        have hk1 : 1 ≤ k := by
          rcases Nat.eq_zero_or_pos k with h3 | h3
          · subst h3
            have := h.1 (by omega) ((dig_oW (tx i)).mpr hd)
            exact absurd (Or.inl (by show (trun (zB tx) sz i).2 + 1 = 1; rw [this])) hw
          · exact h3
        have hX : X ≠ [] := h2 hk1 (by omega)
        obtain ⟨Z, z, rfl⟩ : ∃ Z z, X = Z ++ [z] := ⟨X.dropLast, X.getLast hX, (List.dropLast_concat_getLast hX).symm⟩
        rw [h1, ← List.append_assoc, List.getLast?_append, List.getLast?_singleton, List.dropLast_concat]
        simp only [Option.some_or]
        split
        · exact ⟨Z ++ [(5, z.2.1, z.2.2)], by rw [List.append_assoc], fun _ _ => by simp⟩
        · exact ⟨Z ++ [(z.1, z.2.1, z.2.2 * 37 + dig (zB tx (i + k)))], by rw [List.append_assoc], fun _ _ => by simp⟩
def TS (tx : Nat → Nat) (sz a : Nat) (T : List (Nat × Nat × Nat)) : Prop := a ≤ sz ∧ bnd tx sz a ∧ toks (zB tx) sz = (trun (zB tx) sz a).1 ++ T
theorem TS_of {tx : Nat → Nat} {sz a : Nat} (h1 : a ≤ sz) (h : bnd tx sz a) : ∃ T, TS tx sz a T := by
  obtain ⟨X, hX, _⟩ := bnd_pre h (sz - a) (by omega)
  rw [show a + (sz - a) = sz by omega] at hX
  exact ⟨X ++ [(4, sz, 0)], h1, h, by unfold toks; rw [hX, List.append_assoc]⟩
theorem TS_0 (tx : Nat → Nat) (sz : Nat) : TS tx sz 0 (toks (zB tx) sz) := ⟨Nat.zero_le _, ⟨fun _ _ => rfl, fun _ _ h => absurd h (by decide)⟩, rfl⟩
theorem trun_blank {tx : Nat → Nat} {sz a : Nat} : ∀ k, (∀ j, a ≤ j → j < a + k → tx j = 32) → (trun (zB tx) sz (a + k)).1 = (trun (zB tx) sz a).1 ∧ (1 ≤ k → (trun (zB tx) sz (a + k)).2 = 0)
  | 0, _ => ⟨rfl, fun h => absurd h (by decide)⟩
  | k + 1, h => by
    have ih := trun_blank (sz := sz) k (fun j h1 h2 => h j h1 (by omega))
    have hb := h (a + k) (by omega) (by omega)
    have hd : dig (zB tx (a + k)) = 0 := by show dig ((tx (a + k) : Nat) : Int) = 0; rw [hb]; decide
    rw [← Nat.add_assoc, trun_s]
    unfold tstep
    rw [if_pos hd]
    refine ⟨?_, fun _ => rfl⟩
    show tmark _ _ _ _ = _
    unfold tmark
    rw [if_pos (show zB tx (a + k) = 32 by show ((tx (a + k) : Nat) : Int) = 32; rw [hb]; rfl)]
    exact ih.1
theorem trun_word {tx : Nat → Nat} {sz p : Nat} (h0 : (trun (zB tx) sz p).2 = 0) : ∀ k, (∀ j, p ≤ j → j < p + (k + 1) → oW (tx j) = true) → ∃ c, trun (zB tx) sz (p + (k + 1)) = ((trun (zB tx) sz p).1 ++ [(if 12 < k + 1 then 5 else 0, p, c)], k + 1) ∧ (k + 1 ≤ 12 → c = cd (slM tx p (k + 1)))
  | 0, h => by
    have hd := (dig_oW (tx p)).mp (h p (by omega) (by omega))
    refine ⟨dig (zB tx p), ?_, fun _ => by simp [cd, slM, lst]⟩
    show trun (zB tx) sz (p + 1) = _
    rw [trun_s]
    unfold tstep
    rw [if_neg (show ¬ dig (zB tx p) = 0 from hd), h0]
    show (tdig _ 1 _ _, 1) = _
    unfold tdig
    rw [if_pos (Or.inl rfl)]
    rfl
  | k + 1, h => by
    obtain ⟨c, h1, h2⟩ := trun_word h0 k (fun j h3 h4 => h j h3 (by omega))
    have hd := (dig_oW (tx (p + (k + 1)))).mp (h _ (by omega) (by omega))
    show ∃ c, trun (zB tx) sz (p + (k + 1) + 1) = _ ∧ _
    rw [trun_s, h1]
    unfold tstep
    rw [if_neg (show ¬ dig (zB tx (p + (k + 1))) = 0 from hd)]
    show ∃ c', (tdig ((trun (zB tx) sz p).1 ++ [(if 12 < k + 1 then 5 else 0, p, c)]) (k + 1 + 1) (dig (zB tx (p + (k + 1)))) (p + (k + 1)), k + 1 + 1) = _ ∧ _
    unfold tdig
    rw [if_neg (by simp), List.getLast?_append, List.getLast?_singleton, List.dropLast_concat]
    simp only [Option.some_or]
    by_cases h5 : 12 < k + 1 + 1
    · rw [if_pos h5, if_pos h5]
      exact ⟨c, rfl, fun h6 => absurd h6 (by omega)⟩
    · rw [if_neg h5, if_neg h5, if_neg (by omega)]
      refine ⟨_, rfl, fun _ => ?_⟩
      rw [h2 (by omega)]
      unfold slM
      rw [lst_succ (fun k => tx (p + k)) (k + 1), cd_app]
theorem trun_mark {tx : Nat → Nat} {sz p : Nat} (h : oW (tx p) = false) : trun (zB tx) sz (p + 1) = (tmark (zB tx) sz (trun (zB tx) sz p).1 p, 0) := by
  rw [trun_s]
  unfold tstep
  rw [if_pos (show dig (zB tx p) = 0 from dig_oW0 h)]
def kkM (k : Nat) : Nat := if k = 0 then 4 else if k = 1 then 0 else if k = 2 then 1 else if k = 3 then 2 else if k = 4 then 3 else 5
/-- the token in hand is the first of those that are left -/
def CUR (tx : Nat → Nat) (sz a kd pl lo : Nat) (T : List (Nat × Nat × Nat)) : Prop := (a ≤ sz ∧ kd ≤ 5 ∧ pl ≤ sz) ∧ (kd = 1 → (lo ≤ 12 ∧ 1 ≤ lo ∧ pl + lo ≤ sz) ∧ ∀ j, j < lo → oW (tx (pl + j)) = true) ∧ ∃ c T', T = (kkM kd, pl, c) :: T' ∧ (kd = 1 → c = cd (slM tx pl lo)) ∧ (kd ≠ 0 → kd ≠ 5 → TS tx sz a T') ∧ (kd = 0 → T' = [])
theorem zB_eq {tx : Nat → Nat} {p n : Nat} : zB tx p = (n : Int) ↔ tx p = n := by show ((tx p : Nat) : Int) = (n : Int) ↔ _; omega
theorem TS_next {tx : Nat → Nat} {sz a a2 kd pl lo : Nat} {T : List (Nat × Nat × Nat)} (h : TS tx sz a T) (hn : NX tx sz a a2 kd pl lo) : CUR tx sz a2 kd pl lo T := by
  have hr := NX_R hn
  refine ⟨⟨hr.1, hr.2.1, hr.2.2.1⟩, fun hk => ⟨⟨(hr.2.2.2 hk).1, (hr.2.2.2 hk).2.1, (hr.2.2.2 hk).2.2.1⟩, (hr.2.2.2 hk).2.2.2.2⟩, ?_⟩
  obtain ⟨n1, n2, n3, n4⟩ := hn
  obtain ⟨t1, t2, t3⟩ := h
  have hb := trun_blank (tx := tx) (sz := sz) (a := a) (pl - a) (fun j h1 h2 => n3 j h1 (by omega))
  rw [show a + (pl - a) = pl by omega] at hb
  have key : ∀ (k c b2 : Nat), trun (zB tx) sz a2 = ((trun (zB tx) sz pl).1 ++ [(k, pl, c)], b2) → bnd tx sz a2 → ∃ T', T = (k, pl, c) :: T' ∧ TS tx sz a2 T' := by
    intro k c b2 e1 e2
    obtain ⟨T', f1, f2, f3⟩ := TS_of hr.1 e2
    refine ⟨T', ?_, f1, f2, f3⟩
    have f4 := t3.symm.trans f3
    rw [e1, hb.1, List.append_assoc] at f4
    exact List.append_cancel_left f4
  rcases n4 with ⟨h4, h5, h6⟩ | ⟨h4, h5, ⟨g1, g2, g3, g4, g5, g6, g7⟩ | ⟨g1, g2, g3, g4, g5, g6⟩ | ⟨g1, g2, g3, g4⟩⟩
  · refine ⟨0, [], ?_, fun hk => by omega, fun hk => absurd h5 hk, fun _ => rfl⟩
    rw [h5, h4]
    show T = [(4, sz, 0)]
    have : toks (zB tx) sz = (trun (zB tx) sz pl).1 ++ [(4, sz, 0)] := by rw [h4]; rfl
    rw [hb.1] at this
    exact List.append_cancel_left (t3.symm.trans this)
  · have hw0 : (trun (zB tx) sz pl).2 = 0 := by
      rcases Nat.lt_or_ge a pl with h7 | h7
      · exact hb.2 (by omega)
      · have : pl = a := by omega
        rw [this] at g1 h4 ⊢
        exact t2.1 h4 g1
    obtain ⟨c, e1, e2⟩ := trun_word hw0 (lo - 1) (fun j h1 h2 => g4 j h1 (by omega))
    rw [show lo - 1 + 1 = lo by omega, show pl + lo = a2 by omega] at e1
    obtain ⟨T', f1, f2⟩ := key _ _ _ e1 ⟨fun h7 h8 => (by rcases g5 with g5 | g5; omega; rw [g5] at h8; cases h8), fun h7 h8 h9 h10 => (by have := g4 (a2 - 1) (by omega) (by omega); rw [h10] at this; exact absurd this (by decide))⟩
    refine ⟨c, T', ?_, fun hk => ?_, fun _ _ => f2, fun h8 => by rw [g7] at h8; split at h8 <;> omega⟩
    · rw [f1, g7]
      by_cases h8 : 12 < lo
      · rw [if_pos h8, if_pos h8]; rfl
      · rw [if_neg h8, if_neg h8]; rfl
    · rw [e2 (by have := (hr.2.2.2 hk).1; omega), show lo - 1 + 1 = lo by omega]
  · have e1 := trun_mark (sz := sz) g1
    have e2 : tmark (zB tx) sz (trun (zB tx) sz pl).1 pl = (trun (zB tx) sz pl).1 ++ [(3, pl, 0)] := by
      have hp : zB tx pl = 61 := zB_eq.mpr g2
      have hp2 : zB tx (pl + 1) = 62 := zB_eq.mpr g4
      unfold tmark
      rw [if_neg (by omega), if_neg (by omega), if_pos hp, if_pos ⟨g3, hp2⟩]
    have g7 : oW (tx (pl + 1)) = false := by rw [g4]; decide
    have e3 := trun_mark (sz := sz) g7
    have e4 : tmark (zB tx) sz (trun (zB tx) sz (pl + 1)).1 (pl + 1) = (trun (zB tx) sz (pl + 1)).1 := by
      have hp : zB tx (pl + 1) = 62 := zB_eq.mpr g4
      have hp2 : zB tx (pl + 1 - 1) = 61 := zB_eq.mpr g2
      unfold tmark
      rw [if_neg (by omega), if_neg (by omega), if_neg (by omega), if_pos hp, if_neg (by omega)]
    rw [e4, e1, e2] at e3
    rw [show pl + 1 + 1 = a2 by omega] at e3
    obtain ⟨T', f1, f2⟩ := key _ _ _ e3 ⟨fun _ _ => by rw [e3], fun h7 h8 h9 h10 => by rw [show a2 - 1 = pl + 1 by omega, g4] at h10; exact absurd h10 (by decide)⟩
    exact ⟨0, T', by rw [f1, g5]; rfl, fun hk => by omega, fun _ _ => f2, fun h8 => by omega⟩
  · have e1 := trun_mark (sz := sz) g1
    have hpm : tx pl = 62 → 1 ≤ pl → tx (pl - 1) ≠ 61 := fun h7 h8 h9 => by
      rcases Nat.lt_or_ge a pl with h10 | h10
      · have := n3 (pl - 1) (by omega) (by omega)
        omega
      · have : pl = a := by omega
        rw [this] at h7 h8 h9 h4
        exact t2.2 h4 h7 h8 h9
    have e2 : tmark (zB tx) sz (trun (zB tx) sz pl).1 pl = (trun (zB tx) sz pl).1 ++ [(kkM kd, pl, 0)] := by
      have h32 : zB tx pl = 32 ↔ tx pl = 32 := zB_eq (n := 32)
      have h44 : zB tx pl = 44 ↔ tx pl = 44 := zB_eq (n := 44)
      have h61 : zB tx pl = 61 ↔ tx pl = 61 := zB_eq (n := 61)
      have h62 : zB tx pl = 62 ↔ tx pl = 62 := zB_eq (n := 62)
      have h94 : zB tx pl = 94 ↔ tx pl = 94 := zB_eq (n := 94)
      have h63 : zB tx (pl + 1) = 62 ↔ tx (pl + 1) = 62 := zB_eq (n := 62)
      have h60 : zB tx (pl - 1) = 61 ↔ tx (pl - 1) = 61 := zB_eq (n := 61)
      unfold tmark
      rw [if_neg (fun q => h5 (h32.mp q))]
      by_cases k1 : tx pl = 44
      · rw [if_pos (h44.mpr k1), g4, if_pos k1]; rfl
      · rw [if_neg (fun q => k1 (h44.mp q))]
        rw [if_neg k1] at g4
        by_cases k2 : tx pl = 61
        · rw [if_pos (h61.mpr k2), if_neg (fun q => g2 ⟨k2, q.1, h63.mp q.2⟩), g4, if_neg (by omega)]; rfl
        · rw [if_neg (fun q => k2 (h61.mp q))]
          by_cases k3 : tx pl = 62
          · rw [if_pos (h62.mpr k3), if_pos (by rcases Nat.eq_zero_or_pos pl with h7 | h7; exact Or.inl h7; exact Or.inr (fun q => hpm k3 h7 (h60.mp q))), g4, if_neg (by omega)]; rfl
          · rw [if_neg (fun q => k3 (h62.mp q))]
            by_cases k4 : tx pl = 94
            · rw [if_pos (h94.mpr k4), g4, if_pos k4]; rfl
            · rw [if_neg (fun q => k4 (h94.mp q)), g4, if_neg k4]; rfl
    rw [e2, ← g3] at e1
    obtain ⟨T', f1, f2⟩ := key _ _ _ e1 ⟨fun _ _ => by rw [e1], fun h7 h8 h9 h10 => by rw [show a2 - 1 = pl by omega] at h10; exact g2 ⟨h10, by omega, by rw [← g3]; exact h8⟩⟩
    refine ⟨0, T', f1, fun hk => ?_, fun _ _ => f2, fun hk => ?_⟩
    · rw [g4] at hk; split at hk; omega; split at hk <;> omega
    · rw [g4] at hk; split at hk; omega; split at hk <;> omega
theorem toks_ext {B B' : Nat → Int} {ln : Nat} (h : ∀ q, q < ln → B q = B' q) : toks B ln = toks B' ln := by
  have : ∀ i, i ≤ ln → trun B ln i = trun B' ln i := by
    intro i
    induction i with
    | zero => intro _; rfl
    | succ i ih =>
      intro hi
      rw [trun_s, trun_s, ih (by omega)]
      unfold tstep tmark
      rw [h i (by omega)]
      have h1 : (i + 1 < ln ∧ B (i + 1) = 62) ↔ (i + 1 < ln ∧ B' (i + 1) = 62) := by
        by_cases h2 : i + 1 < ln
        · rw [h (i + 1) h2]
        · constructor <;> intro q <;> exact absurd q.1 h2
      have h3 : B (i - 1) = B' (i - 1) := h _ (by omega)
      simp only [h1, h3]
  unfold toks
  rw [this ln (Nat.le_refl _)]
