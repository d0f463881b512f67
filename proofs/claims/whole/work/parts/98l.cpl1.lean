/-! THE TWO STATES, 2: words, rules -/
theorem digW {b : Nat} (h : oW b = true) : 1 ≤ dig (b : Int) ∧ dig (b : Int) ≤ 36 ∧ chr37 (dig (b : Int)) = (b : Int) := by
  unfold oW at h
  rw [decide_eq_true_eq] at h
  unfold dig chr37
  by_cases c : 48 ≤ b ∧ b ≤ 57
  · rw [if_pos (by omega)]
    refine ⟨by omega, by omega, ?_⟩
    rw [if_pos (by omega)]
    omega
  · rw [if_neg (by omega), if_pos (by omega)]
    refine ⟨by omega, by omega, ?_⟩
    rw [if_neg (by omega)]
    omega
theorem snoc_ind {α : Type} {Q : List α → Prop} (h0 : Q []) (h1 : ∀ l a, Q l → Q (l ++ [a])) (l : List α) : Q l := by
  have : ∀ n (l : List α), l.length = n → Q l := by
    intro n
    induction n with
    | zero => intro l hl; rw [List.length_eq_zero_iff.mp hl]; exact h0
    | succ n ih =>
      intro l hl
      have hne : l ≠ [] := by intro e; rw [e] at hl; simp at hl
      rw [← List.dropLast_concat_getLast hne]
      exact h1 _ _ (ih _ (by rw [List.length_dropLast]; omega))
  exact this _ l rfl
theorem dlen_cd (l : List Nat) : (∀ b ∈ l, oW b = true) → ∀ f, l.length ≤ f → dlen f (cd l) = l.length := by
  refine snoc_ind (Q := fun l => (∀ b ∈ l, oW b = true) → ∀ f, l.length ≤ f → dlen f (cd l) = l.length) (fun _ f _ => ?_) (fun l a ih h f hf => ?_) l
  · cases f <;> rfl
  · rw [List.length_append] at hf ⊢
    have hl : [a].length = 1 := rfl
    cases f with
    | zero => omega
    | succ f =>
      have h1 := digW (h a (List.mem_append_right _ (List.mem_singleton.mpr rfl)))
      rw [cd_app]
      unfold dlen
      rw [if_pos (by omega), show (cd l * 37 + dig (a : Int)) / 37 = cd l by omega, ih (fun b hb => h b (List.mem_append_left _ hb)) f (by omega)]
      rfl
theorem chr_cd (l : List Nat) : (∀ b ∈ l, oW b = true) → ∀ i, i < l.length → chr37 (cd l / 37 ^ (l.length - 1 - i) % 37) = ((l[i]?.getD 0 : Nat) : Int) := by
  refine snoc_ind (Q := fun l => (∀ b ∈ l, oW b = true) → ∀ i, i < l.length → chr37 (cd l / 37 ^ (l.length - 1 - i) % 37) = ((l[i]?.getD 0 : Nat) : Int)) (fun _ i hi => absurd hi (Nat.not_lt_zero _)) (fun l a ih h i hi => ?_) l
  have h1 := digW (h a (List.mem_append_right _ (List.mem_singleton.mpr rfl)))
  have hl : (l ++ [a]).length = l.length + 1 := by rw [List.length_append]; rfl
  rw [hl] at hi ⊢
  rw [cd_app]
  by_cases c : i = l.length
  · rw [c, show l.length + 1 - 1 - l.length = 0 by omega, Nat.pow_zero, Nat.div_one, show (cd l * 37 + dig (a : Int)) % 37 = dig (a : Int) by omega, h1.2.2, List.getElem?_append_right (Nat.le_refl _), Nat.sub_self]
    rfl
  · rw [show l.length + 1 - 1 - i = (l.length - 1 - i) + 1 by omega, Nat.pow_succ, Nat.mul_comm (37 ^ (l.length - 1 - i)) 37, ← Nat.div_div_eq_div_mul, show (cd l * 37 + dig (a : Int)) / 37 = cd l by omega, ih (fun b hb => h b (List.mem_append_left _ hb)) i (by omega), List.getElem?_append_left (by omega)]
theorem cd_lt (l : List Nat) : cd l < 37 ^ l.length := by
  refine snoc_ind (Q := fun l => cd l < 37 ^ l.length) (by decide) (fun l a ih => ?_) l
  have h1 : dig (a : Int) ≤ 36 := by
    unfold dig
    split
    · omega
    · split <;> omega
  have hl : (l ++ [a]).length = l.length + 1 := by rw [List.length_append]; rfl
  rw [cd_app, hl, Nat.pow_succ]
  omega
theorem cdW_lt {wb ws : Nat → Nat} {wn j : Nat} (h : WK wb ws wn) (hj : j < wn) : cdW wb ws j < 9223372036854775808 := by
  have h1 := h.2.2.2 j hj
  refine Nat.lt_of_lt_of_le (cd_lt _) (Nat.le_trans (Nat.pow_le_pow_right (by decide) h1.1.2) (by decide))
/-- a told word -/
theorem word_eq {wb ws : Nat → Nat} {wn k : Nat} (h : WK wb ws wn) (hk : k < wn) : dlen 12 (cdW wb ws k) = ws k ∧ 1 ≤ ws k ∧ ∀ i, i < ws k → chr37 (cdW wb ws k / 37 ^ (ws k - 1 - i) % 37) = ((wb (12 * k + i) : Nat) : Int) := by
  have h1 := h.2.2.2 k hk
  have hl : (wdM wb ws k).length = ws k := lst_len _ _
  have h2 := dlen_cd (wdM wb ws k) h1.2 12 h1.1.2
  have h11 := h1.1.1
  rw [hl] at h2 h11
  refine ⟨h2, h11, fun i hi => ?_⟩
  have h3 := chr_cd (wdM wb ws k) h1.2 i (by rw [hl]; exact hi)
  rw [hl, show (wdM wb ws k)[i]? = some (wb (12 * k + i)) from lst_get _ hi] at h3
  exact h3
theorem lst_eq2 {α : Type} {f g : Nat → α} {n k : Nat} (h : lst f n = lst g k) : n = k ∧ ∀ j, j < n → f j = g j := by
  have e : n = k := by have := congrArg List.length h; rw [lst_len, lst_len] at this; exact this
  subst e
  exact ⟨rfl, lst_inj h⟩
theorem rabs_eq {LP AL PH TE LP' AL' PH' TE' : Nat → Nat} {le le' : Nat} (h : rabs LP AL PH TE le = rabs LP' AL' PH' TE' le') : le = le' ∧ ∀ l, l < le → LP l = LP' l ∧ AL l = AL' l ∧ ∀ a, a < AL l → PH (8 * l + a) = PH' (8 * l + a) ∧ TE (8 * l + a) = TE' (8 * l + a) := by
  obtain ⟨e, h1⟩ := lst_eq2 h
  refine ⟨e, fun l hl => ?_⟩
  have h2 := h1 l hl
  injection h2 with h2 h3
  obtain ⟨e3, h4⟩ := lst_eq2 h3
  refine ⟨h2, e3, fun a ha => ?_⟩
  have := h4 a ha
  injection this with a1 a2
  exact ⟨a1, a2⟩
/-! the segments of the same rules -/
theorem lgs_ext {LP LP' : Nat → Nat} {le : Nat} {nf nf' : Nat → Nat} {a : Nat} (h : ∀ l, l < le → LP' l = LP l) : ∀ i, (∀ j, j < i → nf' (a + j) = nf (a + j)) → lgs LP' le nf' a i = lgs LP le nf a i
  | 0, _ => rfl
  | i + 1, hn => by
    unfold lgs
    rw [lgs_ext h i (fun j hj => hn j (by omega)), ppk_ext (f := nf') (g := nf) (a := a) (b := a) (n := i + 1) hn, fnd_congr (p := fun k => LP' k == ppk nf a (i + 1)) (q := fun k => LP k == ppk nf a (i + 1)) (fun j hj => by rw [h j hj])]
theorem inn_ext {PH PH' : Nat → Nat} {l : Nat} : ∀ a, (∀ j, j < a → PH' (8 * l + j) = PH (8 * l + j)) → inn PH' l a = inn PH l a
  | 0, _ => rfl
  | a + 1, h => by
    unfold inn
    rw [inn_ext a (fun j hj => h j (by omega)), h a (by omega)]
theorem laE_ext {b bh nn : Nat} {PH PH' TE TE' : Nat → Nat} {l : Nat} : ∀ a, (∀ j, j < a → PH' (8 * l + j) = PH (8 * l + j) ∧ TE' (8 * l + j) = TE (8 * l + j)) → laE b bh nn PH' TE' l a = laE b bh nn PH TE l a
  | 0, _ => rfl
  | a + 1, h => by
    unfold laE
    rw [laE_ext a (fun j hj => h j (by omega)), inn_ext a (fun j hj => (h j (by omega)).1), (h a (by omega)).1, (h a (by omega)).2]
theorem seg_ext {LP AL PH TE LP' AL' PH' TE' : Nat → Nat} {le : Nat} {nf nf' : Nat → Nat} {rc i b : Nat} (h : ∀ l, l < le → LP' l = LP l ∧ AL' l = AL l ∧ ∀ a, a < AL l → PH' (8 * l + a) = PH (8 * l + a) ∧ TE' (8 * l + a) = TE (8 * l + a)) (hn : ∀ j, j < rc → nf' j = nf j) (hi : i < rc) : seg LP' AL' PH' TE' le nf' rc i b = seg LP AL PH TE le nf rc i b := by
  have h1 : lgs LP' le nf' i (min 4 (rc - i)) = lgs LP le nf i (min 4 (rc - i)) := lgs_ext (fun l hl => (h l hl).1) _ (fun j hj => hn _ (by omega))
  unfold seg
  rw [h1, hn i hi]
  by_cases c : lgs LP le nf i (min 4 (rc - i)) < 0
  · rw [if_pos c, if_pos c]
  · rw [if_neg c, if_neg c]
    obtain ⟨k, _, _, k3, _⟩ := lgs_spec (LP := LP) (le := le) (nf := nf) (at_ := i) (i := min 4 (rc - i)) (by omega)
    obtain ⟨g1, g2, g3⟩ := h _ k3
    rw [g1, g2, inn_ext _ (fun j hj => (g3 j hj).1), laE_ext _ g3]
theorem segs_ext {LP AL PH TE LP' AL' PH' TE' : Nat → Nat} {le : Nat} {nf nf' : Nat → Nat} {rc : Nat} (h : ∀ l, l < le → LP' l = LP l ∧ AL' l = AL l ∧ ∀ a, a < AL l → PH' (8 * l + a) = PH (8 * l + a) ∧ TE' (8 * l + a) = TE (8 * l + a)) (hn : ∀ j, j < rc → nf' j = nf j) : ∀ f i b, segs LP' AL' PH' TE' le nf' rc f i b = segs LP AL PH TE le nf rc f i b
  | 0, _, _ => rfl
  | f + 1, i, b => by
    unfold segs
    by_cases c : i < rc
    · rw [if_pos c, if_pos c, seg_ext h hn c, segs_ext h hn f]
    · rw [if_neg c, if_neg c]
/-! what each segment has besides -/
theorem altE_fr {b nx fi p v : Nat} (hb : b < fi) : (∃ x ∈ altE b nx fi p v, x.1 = b) ∧ (∀ u, fi ≤ u → u < fi + (plen p - 1) → ∃ x ∈ altE b nx fi p v, x.1 = u) ∧ ((altE b nx fi p v).filter (fun x => x.1 == b)).length = 1 ∧ (∀ u, u ≠ b → ((altE b nx fi p v).filter (fun x => x.1 == u)).length = if fi ≤ u ∧ u < fi + (plen p - 1) then 1 else 0) := by
  have hk1 : ∀ k, (altK b nx fi p v k).1 = if k = 0 then b else fi + k - 1 := fun k => rfl
  by_cases c : plen p = 0
  · have e : altE b nx fi p v = [(b, nx, -2, v)] := if_pos c
    rw [e]
    refine ⟨⟨_, List.mem_singleton.mpr rfl, rfl⟩, fun u h1 h2 => by omega, ?_, fun u hu => ?_⟩
    · rw [List.filter_cons_of_pos (by simp)]
      rfl
    · rw [List.filter_cons_of_neg (by simp; omega), if_neg (by omega)]
      rfl
  · have e : altE b nx fi p v = lst (altK b nx fi p v) (plen p) := if_neg c
    rw [e]
    have hcnt : ∀ (u n : Nat), ((lst (altK b nx fi p v) n).filter (fun x => x.1 == u)).length = (if 0 < n ∧ u = b then 1 else 0) + (if fi ≤ u ∧ u < fi + (n - 1) then 1 else 0) := by
      intro u n
      induction n with
      | zero =>
        rw [if_neg (by omega), if_neg (by omega)]
        rfl
      | succ n ih =>
        rw [lst_succ, List.filter_append, List.length_append, ih]
        by_cases c2 : (altK b nx fi p v n).1 = u
        · rw [List.filter_cons_of_pos (by rw [beq_iff_eq]; exact c2)]
          rw [hk1] at c2
          show _ + 1 = _
          by_cases c3 : n = 0
          · rw [if_pos c3] at c2
            rw [if_neg (show ¬ (0 < n ∧ u = b) by omega), if_pos (show 0 < n + 1 ∧ u = b by omega), if_neg (by omega), if_neg (by omega)]
          · rw [if_neg c3] at c2
            rw [if_neg (show ¬ (0 < n ∧ u = b) by omega), if_neg (show ¬ (0 < n + 1 ∧ u = b) by omega), if_neg (by omega), if_pos (by omega)]
        · rw [List.filter_cons_of_neg (by rw [beq_iff_eq]; exact c2)]
          rw [hk1] at c2
          show _ + 0 = _
          by_cases c3 : n = 0
          · rw [if_pos c3] at c2
            rw [if_neg (show ¬ (0 < n ∧ u = b) by omega), if_neg (show ¬ (0 < n + 1 ∧ u = b) by omega), if_neg (by omega), if_neg (by omega)]
          · rw [if_neg c3] at c2
            have a1 : (if 0 < n ∧ u = b then 1 else 0) = (if 0 < n + 1 ∧ u = b then 1 else 0) := by
              by_cases q : u = b
              · rw [if_pos ⟨by omega, q⟩, if_pos ⟨by omega, q⟩]
              · rw [if_neg (fun h => q h.2), if_neg (fun h => q h.2)]
            have a2 : (if fi ≤ u ∧ u < fi + (n - 1) then 1 else 0) = (if fi ≤ u ∧ u < fi + (n + 1 - 1) then 1 else 0) := by
              by_cases q : fi ≤ u ∧ u < fi + (n - 1)
              · rw [if_pos q, if_pos (by omega)]
              · rw [if_neg q, if_neg (by omega)]
            rw [a1, a2]
            rfl
    refine ⟨⟨altK b nx fi p v 0, lst_mem.mpr ⟨0, by omega, rfl⟩, rfl⟩, fun u h1 h2 => ⟨altK b nx fi p v (u - fi + 1), lst_mem.mpr ⟨_, by omega, rfl⟩, ?_⟩, ?_, fun u hu => ?_⟩
    · rw [hk1, if_neg (by omega)]
      omega
    · rw [hcnt, if_pos ⟨by omega, rfl⟩, if_neg (by omega)]
    · rw [hcnt, if_neg (fun h => hu h.2), Nat.zero_add]
theorem laE_fr {b nx : Nat} {PH TE : Nat → Nat} {l : Nat} : ∀ a, (0 < a → ∃ x ∈ laE b nx (b + 1) PH TE l a, x.1 = b) ∧ (∀ u, b + 1 ≤ u → u < b + 1 + inn PH l a → ∃ x ∈ laE b nx (b + 1) PH TE l a, x.1 = u) ∧ ((laE b nx (b + 1) PH TE l a).filter (fun x => x.1 == b)).length = a ∧ (∀ u, u ≠ b → ((laE b nx (b + 1) PH TE l a).filter (fun x => x.1 == u)).length ≤ if b + 1 ≤ u ∧ u < b + 1 + inn PH l a then 1 else 0)
  | 0 => ⟨fun h => absurd h (Nat.lt_irrefl _), fun u h1 h2 => by have : inn PH l 0 = 0 := rfl; omega, rfl, fun u hu => Nat.zero_le _⟩
  | a + 1 => by
    obtain ⟨i1, i2, i3, i4⟩ := laE_fr (b := b) (nx := nx) (PH := PH) (TE := TE) (l := l) a
    obtain ⟨j1, j2, j3, j4⟩ := altE_fr (b := b) (nx := nx) (fi := b + 1 + inn PH l a) (p := PH (8 * l + a)) (v := TE (8 * l + a)) (by omega)
    have hin : inn PH l (a + 1) = inn PH l a + (plen (PH (8 * l + a)) - 1) := rfl
    unfold laE
    refine ⟨fun _ => ?_, fun u h1 h2 => ?_, ?_, fun u hu => ?_⟩
    · obtain ⟨x, hx, h⟩ := j1
      exact ⟨x, List.mem_append_right _ hx, h⟩
    · by_cases c : u < b + 1 + inn PH l a
      · obtain ⟨x, hx, h⟩ := i2 u h1 c
        exact ⟨x, List.mem_append_left _ hx, h⟩
      · obtain ⟨x, hx, h⟩ := j2 u (by omega) (by omega)
        exact ⟨x, List.mem_append_right _ hx, h⟩
    · rw [List.filter_append, List.length_append, i3, j3]
    · rw [List.filter_append, List.length_append, j4 u hu]
      have := i4 u hu
      by_cases c : b + 1 ≤ u ∧ u < b + 1 + inn PH l a
      · rw [if_pos c] at this
        rw [if_neg (by omega), if_pos (by omega)]
        omega
      · rw [if_neg c] at this
        by_cases c2 : b + 1 + inn PH l a ≤ u ∧ u < b + 1 + inn PH l a + (plen (PH (8 * l + a)) - 1)
        · rw [if_pos c2, if_pos (by omega)]
          omega
        · rw [if_neg c2]
          omega
theorem laE_te2 {b bh nn : Nat} {PH TE : Nat → Nat} {l : Nat} : ∀ a, (∀ j, j < a → 1 ≤ TE (8 * l + j) ∧ (plen (PH (8 * l + j)) = 0 → TE (8 * l + j) = 10)) → (∀ j, j < a → pOK (PH (8 * l + j))) → ∀ x ∈ laE b bh nn PH TE l a, 1 ≤ x.2.2.2 ∧ (x.2.2.1 < 0 → x.2.2.2 = 10)
  | 0, _, _, x, hx => by cases hx
  | a + 1, h, hp, x, hx => by
    unfold laE at hx
    rcases List.mem_append.mp hx with hx | hx
    · exact laE_te2 a (fun j hj => h j (by omega)) (fun j hj => hp j (by omega)) x hx
    · obtain ⟨h1, h2⟩ := h a (by omega)
      unfold altE at hx
      by_cases c : plen (PH (8 * l + a)) = 0
      · rw [if_pos c] at hx
        rw [List.mem_singleton.mp hx]
        exact ⟨h1, fun _ => h2 c⟩
      · rw [if_neg c] at hx
        obtain ⟨k, hk, rfl⟩ := lst_mem.mp hx
        have h3 := hp a (by omega) k hk
        refine ⟨?_, fun h4 => ?_⟩
        · show 1 ≤ if k = 0 then TE (8 * l + a) else 10
          split <;> omega
        · exfalso
          have h4 : ((PH (8 * l + a) / 256 ^ k % 256 : Nat) : Int) - 1 < 0 := h4
          omega
/-- rules that stand: every left has an alternative, no more than eight, tenths of 1 to 10 -/
def RX (LP AL PH TE : Nat → Nat) (le : Nat) : Prop := ∀ l, l < le → (1 ≤ AL l ∧ AL l ≤ 8) ∧ ∀ a, a < AL l → pOK (PH (8 * l + a)) ∧ 1 ≤ TE (8 * l + a) ∧ (plen (PH (8 * l + a)) = 0 → TE (8 * l + a) = 10)
theorem segs_X {LP AL PH TE : Nat → Nat} {le : Nat} {nf : Nat → Nat} {rc : Nat} (h : RX LP AL PH TE le) : ∀ f i b, ∀ s ∈ segs LP AL PH TE le nf rc f i b, sgX s
  | 0, _, _, s, hs => by cases hs
  | f + 1, i, b, s, hs => by
    unfold segs at hs
    by_cases c : i < rc
    · rw [if_pos c] at hs
      rcases List.mem_cons.mp hs with rfl | hs
      · unfold seg
        by_cases c2 : lgs LP le nf i (min 4 (rc - i)) < 0
        · rw [if_pos c2]
          refine ⟨fun v h1 h2 => ⟨_, List.mem_singleton.mpr rfl, ?_⟩, fun v => ?_, fun x hx => ?_⟩
          · have h1 : b ≤ v := h1
            have h2 : v < b + 1 := h2
            show b = v
            omega
          · refine Nat.le_trans (List.length_filter_le _ _) ?_
            show 1 ≤ if v = b then 8 else 1
            split <;> omega
          · rw [List.mem_singleton.mp hx]
            refine ⟨by show 1 ≤ 10; omega, fun _ => rfl⟩
        · rw [if_neg c2]
          obtain ⟨k, _, _, k3, _⟩ := lgs_spec (LP := LP) (le := le) (nf := nf) (at_ := i) (i := min 4 (rc - i)) (by omega)
          obtain ⟨⟨h1, h2⟩, h3⟩ := h _ k3
          obtain ⟨g1, g2, g3, g4⟩ := laE_fr (b := b) (nx := b + 1 + inn PH (lgs LP le nf i (min 4 (rc - i))).toNat (AL (lgs LP le nf i (min 4 (rc - i))).toNat)) (PH := PH) (TE := TE) (l := (lgs LP le nf i (min 4 (rc - i))).toNat) (AL (lgs LP le nf i (min 4 (rc - i))).toNat)
          refine ⟨fun v e1 e2 => ?_, fun v => ?_, laE_te2 _ (fun j hj => (h3 j hj).2) (fun j hj => (h3 j hj).1)⟩
          · have e1 : b ≤ v := e1
            have e2 : v < b + 1 + inn PH (lgs LP le nf i (min 4 (rc - i))).toNat (AL (lgs LP le nf i (min 4 (rc - i))).toNat) := e2
            by_cases c3 : v = b
            · rw [c3]; exact g1 (by omega)
            · exact g2 v (by omega) e2
          · show _ ≤ if v = b then 8 else 1
            by_cases c3 : v = b
            · rw [if_pos c3, c3]
              exact Nat.le_trans (Nat.le_of_eq g3) h2
            · rw [if_neg c3]
              refine Nat.le_trans (g4 v c3) ?_
              split <;> omega
      · exact segs_X h f _ _ s hs
    · rw [if_neg c] at hs
      cases hs
