/-! Sets: all of them -/
def exS (ws : Nat → List Nat) (f : Nat → Nat → Nat) : Nat → Nat → List Nat → List (Nat × Nat) → List Nat → List Nat × List (Nat × Nat) × List Nat × Bool
  | 0, _, L, A, St => (L, A, St, true)
  | n + 1, s, L, A, St => match L[s]? with
    | none => (L, A, St, true)
    | some S => match exW (f S) (ws S) L A with
      | (L', A', true) => exS ws f n (s + 1) L' A' (St ++ [A.length])
      | (L', A', false) => (L', A', St ++ [A.length], false)
theorem exS_end {ws : Nat → List Nat} {f : Nat → Nat → Nat} {s : Nat} {L : List Nat} {A : List (Nat × Nat)} {St : List Nat} (h : L.length ≤ s) : ∀ n, exS ws f n s L A St = (L, A, St, true)
  | 0 => rfl
  | n + 1 => by unfold exS; rw [List.getElem?_eq_none h]
theorem exS_go {ws : Nat → List Nat} {f : Nat → Nat → Nat} {n s S : Nat} {L L' : List Nat} {A A' : List (Nat × Nat)} {St : List Nat} {ok : Bool} (h : L[s]? = some S) (hw : exW (f S) (ws S) L A = (L', A', ok)) : exS ws f (n + 1) s L A St = match ok with | true => exS ws f n (s + 1) L' A' (St ++ [A.length]) | false => (L', A', St ++ [A.length], false) := by
  conv => lhs; unfold exS
  rw [h]
  simp only [hw]
  cases ok <;> rfl
theorem exS_len {ws : Nat → List Nat} {f : Nat → Nat → Nat} : ∀ (n s : Nat) (L : List Nat) (A : List (Nat × Nat)) (St : List Nat), A.length ≤ (exS ws f n s L A St).2.1.length
  | 0, s, L, A, St => Nat.le_refl _
  | n + 1, s, L, A, St => by
    cases h : L[s]? with
    | none => unfold exS; rw [h]; exact Nat.le_refl _
    | some S =>
      obtain ⟨L', A', ok, hw⟩ : ∃ L' A' ok, exW (f S) (ws S) L A = (L', A', ok) := ⟨_, _, _, rfl⟩
      rw [exS_go h hw]
      have h1 := exW_le hw
      cases ok with
      | true => exact Nat.le_trans h1 (exS_len n (s + 1) L' A' _)
      | false => exact h1
theorem exS_le {ws : Nat → List Nat} {f : Nat → Nat → Nat} {n s : Nat} {L L2 St St2 : List Nat} {A A2 : List (Nat × Nat)} {ok : Bool} (h : exS ws f n s L A St = (L2, A2, St2, ok)) : A.length ≤ A2.length := by
  have := exS_len (ws := ws) (f := f) n s L A St
  rw [h] at this
  exact this
theorem exW_spec {f : Nat → Nat} : ∀ {ws L L2 : List Nat} {A A2 : List (Nat × Nat)}, exW f ws L A = (L2, A2, true) → ∃ (M : List Nat) (B : List (Nat × Nat)), L2 = L ++ M ∧ A2 = A ++ B ∧ B.map Prod.fst = ws ∧ ∀ p ∈ B, L2[p.2]? = some (f p.1)
  | [], L, L2, A, A2, h => by
    injection h with h1 h2
    injection h2 with h2 h3
    exact ⟨[], [], by rw [List.append_nil]; exact h1.symm, by rw [List.append_nil]; exact h2.symm, rfl, fun p hp => by cases hp⟩
  | w :: ws, L, L2, A, A2, h => by
    cases hf : fnd (fun k => L[k]? == some (f w)) L.length with
    | some t =>
      rw [exW_hit hf] at h
      obtain ⟨M, B, h1, h2, h3, h4⟩ := exW_spec h
      have hs := fnd_spec hf
      refine ⟨M, (w, t) :: B, h1, by rw [h2, List.append_assoc]; rfl, by rw [List.map_cons, h3], fun p hp => ?_⟩
      rcases List.mem_cons.mp hp with rfl | hp
      · rw [h1, List.getElem?_append_left hs.1]
        simpa using hs.2.1
      · exact h4 p hp
    | none =>
      rw [exW_new hf] at h
      by_cases hl : L.length = 300
      · rw [if_pos hl] at h
        injection h with _ h2
        injection h2 with _ h3
        cases h3
      · rw [if_neg hl] at h
        obtain ⟨M, B, h1, h2, h3, h4⟩ := exW_spec h
        refine ⟨f w :: M, (w, L.length) :: B, by rw [h1, List.append_assoc]; rfl, by rw [h2, List.append_assoc]; rfl, by rw [List.map_cons, h3], fun p hp => ?_⟩
        rcases List.mem_cons.mp hp with rfl | hp
        · rw [h1, List.append_assoc, List.getElem?_append_right (Nat.le_refl _), Nat.sub_self]; rfl
        · exact h4 p hp
def sgA (A : List (Nat × Nat)) (a b : Nat) : List (Nat × Nat) := (A.drop a).take (b - a)
/-- the arcs of set s are those of its words -/
def arcOK (ws : Nat → List Nat) (f : Nat → Nat → Nat) (L : List Nat) (A : List (Nat × Nat)) (P : List Nat) : Prop :=
  ∀ s a b, P[s]? = some a → P[s + 1]? = some b → a ≤ b ∧ b ≤ A.length ∧ ∃ S, L[s]? = some S ∧ (sgA A a b).map Prod.fst = ws S ∧ ∀ p ∈ sgA A a b, L[p.2]? = some (f S p.1)
theorem sgA_app {A B : List (Nat × Nat)} {a b : Nat} (h : b ≤ A.length) : sgA (A ++ B) a b = sgA A a b := by
  unfold sgA
  rcases Nat.lt_or_ge b a with h1 | h1
  · rw [show b - a = 0 by omega]; simp
  · rw [List.drop_append_of_le_length (by omega), List.take_append_of_le_length (by rw [List.length_drop]; omega)]
theorem arcOK_add {ws : Nat → List Nat} {f : Nat → Nat → Nat} {L M St : List Nat} {A B : List (Nat × Nat)} {s S : Nat} (h : arcOK ws f L A (St ++ [A.length])) (hl : St.length = s) (hS : L[s]? = some S) (hB : B.map Prod.fst = ws S) (hT : ∀ p ∈ B, (L ++ M)[p.2]? = some (f S p.1)) : arcOK ws f (L ++ M) (A ++ B) (St ++ [A.length] ++ [(A ++ B).length]) := by
  intro s1 a b h1 h2
  have hll : (St ++ [A.length]).length = s + 1 := by simp [hl]
  by_cases hs : s1 + 1 < s + 1
  · rw [List.getElem?_append_left (by omega)] at h1 h2
    obtain ⟨g1, g2, S1, g3, g4, g5⟩ := h s1 a b h1 h2
    refine ⟨g1, by rw [List.length_append]; omega, S1, ?_, ?_, ?_⟩
    · rw [List.getElem?_append_left (List.getElem?_eq_some_iff.mp g3).1]; exact g3
    · rw [sgA_app g2]; exact g4
    · rw [sgA_app g2]
      intro p hp
      have := g5 p hp
      rw [List.getElem?_append_left (List.getElem?_eq_some_iff.mp this).1]; exact this
  · have h3 := (List.getElem?_eq_some_iff.mp h2).1
    rw [List.length_append, hll] at h3
    simp only [List.length_cons, List.length_nil] at h3
    have e : s1 = s := by omega
    subst e
    rw [List.getElem?_append_left (by omega), ← hl, List.getElem?_append_right (Nat.le_refl _), Nat.sub_self] at h1
    rw [List.getElem?_append_right (by omega), hll, Nat.sub_self] at h2
    simp only [List.getElem?_cons_zero, Option.some.injEq] at h1 h2
    subst h1 h2
    have e2 : sgA (A ++ B) A.length (A ++ B).length = B := by
      unfold sgA
      rw [List.drop_left, List.length_append, show A.length + B.length - A.length = B.length by omega, List.take_length]
    refine ⟨by rw [List.length_append]; omega, Nat.le_refl _, S, ?_, by rw [e2]; exact hB, by rw [e2]; exact hT⟩
    rw [List.getElem?_append_left (List.getElem?_eq_some_iff.mp hS).1]; exact hS
theorem exS_spec {ws : Nat → List Nat} {f : Nat → Nat → Nat} : ∀ {n s : Nat} {L L2 St St2 : List Nat} {A A2 : List (Nat × Nat)}, exS ws f n s L A St = (L2, A2, St2, true) → St.length = s → arcOK ws f L A (St ++ [A.length]) → arcOK ws f L2 A2 (St2 ++ [A2.length])
  | 0, s, L, L2, St, St2, A, A2, h, _, ha => by
    injection h with h1 h2
    injection h2 with h2 h3
    injection h3 with h3 h4
    subst h1 h2 h3
    exact ha
  | n + 1, s, L, L2, St, St2, A, A2, h, hl, ha => by
    cases hS : L[s]? with
    | none =>
      rw [exS_end (List.getElem?_eq_none_iff.mp hS)] at h
      injection h with h1 h2
      injection h2 with h2 h3
      injection h3 with h3 h4
      subst h1 h2 h3
      exact ha
    | some S =>
      obtain ⟨L', A', ok, hw⟩ : ∃ L' A' ok, exW (f S) (ws S) L A = (L', A', ok) := ⟨_, _, _, rfl⟩
      rw [exS_go hS hw] at h
      cases ok with
      | true =>
        obtain ⟨M, B, h1, h2, h3, h4⟩ := exW_spec hw
        subst h1 h2
        exact exS_spec h (by simp [hl]) (arcOK_add ha hl hS h3 h4)
      | false =>
        injection h with h1 h2
        injection h2 with h2 h3
        injection h3 with h3 h4
        cases h4
theorem arcOK_0 (ws : Nat → List Nat) (f : Nat → Nat → Nat) (L : List Nat) : arcOK ws f L [] ([] ++ [([] : List (Nat × Nat)).length]) := by
  intro s a b h1 h2
  simp at h2
theorem clM_gt {sk : Nat → Int} {bo : Nat → Nat} {b : Nat} : ∀ {nm S : Nat}, (∀ m, m < nm → bo m < bo (m + 1)) → (∀ v, S.testBit v = true → b < v) → ∀ v, (clM sk bo nm S).testBit v = true → b < v
  | 0, S, _, h, v, hv => h v hv
  | nm + 1, S, hb, h, v, hv => by
    have ih := clM_gt (sk := sk) (nm := nm) (fun m hm => hb m (by omega)) h
    unfold clM at hv
    split at hv
    · rename_i hc
      rw [tb_or, Bool.or_eq_true, decide_eq_true_eq] at hv
      rcases hv with hv | hv
      · exact ih v hv
      · have := ih _ hc.2
        have := hb nm (by omega)
        omega
    · exact ih v hv
theorem blk_fil (wu : Nat → Nat) : ∀ n i, blk wu n i = ((List.range (64 * n)).map (fun b => 64 * i + b)).filter (fun w => (wu (w / 64)).testBit (w % 64))
  | 0, i => rfl
  | n + 1, i => by
    unfold blk
    rw [blk_fil wu n (i + 1), show 64 * (n + 1) = 64 + 64 * n by omega, List.range_add, List.map_append, List.filter_append]
    congr 1
    · rw [List.filter_map]
      congr 1
      unfold bl
      apply List.filter_congr
      intro b hb
      have := List.mem_range.mp hb
      show (wu i).testBit b = (wu ((64 * i + b) / 64)).testBit ((64 * i + b) % 64)
      rw [show (64 * i + b) / 64 = i by omega, show (64 * i + b) % 64 = b by omega]
    · congr 1
      rw [List.map_map]
      apply List.map_congr_left
      intro b _
      show 64 * (i + 1) + b = 64 * i + (64 + b)
      omega
theorem blk_ws {fr : Nat → Nat} {wo : Nat → Int} {ne S : Nat} {wu : Nat → Nat} {fk nx : Nat → Int} (h : wS wo (fun e => e < ne ∧ S.testBit (fr e) = true) wu fk nx) (hwo : ∀ e, e < ne → wo e < 200) : blk wu 4 0 = wsO fr wo ne S := by
  rw [blk_fil]
  unfold wsO
  rw [show 64 * 4 = 200 + 56 by omega, List.range_add, List.map_append, List.filter_append]
  have hp : ∀ w, w < 256 → ((wu (w / 64)).testBit (w % 64) = (List.range ne).any (fun e => wo e == (w : Int) && S.testBit (fr e))) := by
    intro w hw
    rw [Bool.eq_iff_iff, h.2.1 w hw, List.any_eq_true]
    constructor
    · rintro ⟨e, h1, h2⟩
      exact ⟨e, List.mem_range.mpr h1.1, by simp [h2, h1.2]⟩
    · rintro ⟨e, h1, h2⟩
      rw [Bool.and_eq_true] at h2
      exact ⟨e, ⟨List.mem_range.mp h1, h2.2⟩, by simpa using h2.1⟩
  have e2 : List.filter (fun w => (wu (w / 64)).testBit (w % 64)) (List.map (fun b => 64 * 0 + b) (List.map (fun x => 200 + x) (List.range 56))) = [] := by
    rw [List.filter_eq_nil_iff]
    intro w hw
    rw [List.map_map] at hw
    obtain ⟨b, h1, h2⟩ := List.mem_map.mp hw
    have h3 := List.mem_range.mp h1
    have h4 : w = 200 + b := by rw [← h2]; show 64 * 0 + (200 + b) = _; omega
    intro hb
    obtain ⟨e, h5, h6⟩ := (h.2.1 w (by omega)).mp hb
    have := hwo e h5.1
    omega
  have e3 : (fun b => 64 * 0 + b) = @id Nat := funext fun b => by show 64 * 0 + b = b; omega
  rw [e2, List.append_nil, e3, List.map_id]
  apply List.filter_congr
  intro w hw
  exact hp w (by have := List.mem_range.mp hw; omega)
theorem wsO_len (fr : Nat → Nat) (wo : Nat → Int) (ne S : Nat) : (wsO fr wo ne S).length ≤ 200 := Nat.le_trans (List.length_filter_le _ _) (by rw [List.length_range]; exact Nat.le_refl _)
def fO (fr to : Nat → Nat) (wo : Nat → Int) (ne : Nat) (sk : Nat → Int) (bo : Nat → Nat) (nm S x : Nat) : Nat := clM sk bo nm (tgO fr to wo S x ne)
theorem lwf_fO {fr to : Nat → Nat} {wo : Nat → Int} {ne : Nat} {sk : Nat → Int} {bo : Nat → Nat} {nm S x nn : Nat} (hS0 : ¬ S = 0) (hS : S < 2 ^ nn) (hnn : nn ≤ 401) (hft : ∀ e, e < ne → fr e < to e) (hbm : ∀ m, m < nm → bo m < bo (m + 1)) (h0 : ¬ fO fr to wo ne sk bo nm S x = 0) (hF : fO fr to wo ne sk bo nm S x < 2 ^ nn) : lwf S < lwf (fO fr to wo ne sk bo nm S x) := by
  have hp : ∀ {v : Nat}, v < 2 ^ nn → v < 2 ^ 448 := fun h => Nat.lt_of_lt_of_le h (Nat.pow_le_pow_right (by omega) (by omega))
  have h1 := lwf_low hS0 (hp hS)
  have h2 := lwf_low h0 (hp hF)
  refine clM_gt hbm (fun v hv => ?_) _ h2.1
  obtain ⟨e, g1, g2, g3, g4⟩ := tgO_bit.mp hv
  have := hft e g1
  rcases Nat.lt_or_ge (fr e) (lwf S) with g5 | g5
  · have := h1.2 _ g5
    rw [g3] at this
    cases this
  · omega
/-- what the rows of arcs hold -/
theorem arcs_T {ws : Nat → List Nat} {f : Nat → Nat → Nat} {me aw at_ P : Nat → Nat} {cnt arcs : Nat} (h : arcOK ws f (lsS me cnt) (lsA aw at_ arcs) ((List.range (cnt + 1)).map P)) : ∀ s, s < cnt → P s ≤ P (s + 1) ∧ P (s + 1) ≤ arcs ∧ (∀ k, P s ≤ k → k < P (s + 1) → at_ k < cnt ∧ mS me (at_ k) = f (mS me s) (aw k)) ∧ (List.range (P (s + 1) - P s)).map (fun k => aw (P s + k)) = ws (mS me s) := by
  intro s hs
  obtain ⟨h1, h2, S, h3, h4, h5⟩ := h s (P s) (P (s + 1)) (by rw [List.getElem?_map, List.getElem?_range (by omega)]; rfl) (by rw [List.getElem?_map, List.getElem?_range (by omega)]; rfl)
  rw [lsS_at hs] at h3
  injection h3 with h3
  subst h3
  rw [lsA_len] at h2
  have e : sgA (lsA aw at_ arcs) (P s) (P (s + 1)) = (List.range (P (s + 1) - P s)).map (fun k => (aw (P s + k), at_ (P s + k))) := by
    unfold sgA lsA
    apply List.ext_getElem?
    intro k
    rw [List.getElem?_take, List.getElem?_drop]
    by_cases hk : k < P (s + 1) - P s
    · rw [if_pos hk]
      simp [hk, show P s + k < arcs by omega]
    · rw [if_neg hk]
      simp [hk]
  rw [e] at h4 h5
  refine ⟨h1, h2, fun k g1 g2 => ?_, ?_⟩
  · have := h5 (aw k, at_ k) (List.mem_map.mpr ⟨k - P s, List.mem_range.mpr (by omega), by rw [show P s + (k - P s) = k by omega]⟩)
    dsimp only at this
    have hk := (List.getElem?_eq_some_iff.mp this).1
    rw [lsS_len] at hk
    rw [lsS_at hk] at this
    injection this with this
    exact ⟨hk, this⟩
  · rw [← h4, List.map_map]
    rfl
