/-! THE PICTURE, 10: the heaviest, in both: the walk -/
section
variable {D : List Sg} {P : PT}
/-- an edge: its ends, its tenths, whether it is heavy -/
theorem CP.el (h : CP D P) {e : Nat} (he : e < neD D) : 1 ≤ bD D (toD D e) ∧ teD D e ≤ 10 ∧ ∃ G, ((kD D (frD D e) = kD D (toD D e) + 1 ∧ bD D (frD D e) = G * bD D (toD D e) ∧ teD D e ≤ G ∧ 1 ≤ teD D e ∧ (p_hv P e = true ↔ teD D e = G)) ∨ (kD D (frD D e) = kD D (toD D e) ∧ bD D (frD D e) = bD D (toD D e) ∧ teD D e = 10 ∧ p_hv P e = true)) := by
  have he' : e < p_ne P := by rw [h.ed.1]; exact he
  have h10 := h.gr.2.2.2.2.2.2.2 e he'
  rw [(h.ed.2 e he').2.2.2] at h10
  obtain ⟨s, hs, hx, hv⟩ := flat_ix h.ed.1 h.gr.2.2.2.2.2.2.1 he'
  obtain ⟨k1, k2⟩ := kb_edge D 0 h.C s hs _ hx
  dsimp only at k1 k2
  refine ⟨bD_pos D 0 _ h.C h.X, h10, gtS s, ?_⟩
  by_cases c : frD D e = s.bd
  · refine Or.inl ⟨(k1 c).1, (k1 c).2, (gtE_ge s.es 0).2 _ hx c, ((h.X s hs).2.2 _ hx).1, ?_⟩
    rw [hv, decide_eq_true_eq]
    exact ⟨fun h => h.resolve_left (fun h2 => h2 c), Or.inr⟩
  · refine Or.inr ⟨(k2 c).1, (k2 c).2, ((sgC_mem h.C hs).2.1 _ hx).2.2.2.2.2.2 c, ?_⟩
    rw [hv, decide_eq_true_eq]
    exact Or.inl c
/-- each node below the end has a heavy edge -/
theorem CP.heavy (h : CP D P) {v : Nat} (hv : v < lsB 0 D) : ∃ e, e < neD D ∧ frD D e = v ∧ p_hv P e = true := by
  obtain ⟨x, hx, hxv⟩ := nodeE D 0 h.C h.X v (Nat.zero_le _) hv
  obtain ⟨s, hs, hxs⟩ := List.mem_flatMap.mp hx
  have hX := h.X s hs
  have hS := sgC_mem h.C hs
  have key : ∀ y ∈ s.es, y.1 = v → (y.1 ≠ s.bd ∨ y.2.2.2 = gtS s) → ∃ e, e < neD D ∧ frD D e = v ∧ p_hv P e = true := fun y hy hyv hc => by
    obtain ⟨e, he, e1, e2, e3, e4⟩ := edD_ix (D := D) (List.mem_flatMap.mpr ⟨s, hs, hy⟩)
    refine ⟨e, he, by rw [e1]; exact hyv, ?_⟩
    obtain ⟨s', hs', hx', hv'⟩ := flat_ix h.ed.1 h.gr.2.2.2.2.2.2.1 (by rw [h.ed.1]; exact he)
    rw [hv', decide_eq_true_eq, e1, e4]
    obtain ⟨k1, k2⟩ := kb_edge D 0 h.C s hs _ hy
    obtain ⟨k3, k4⟩ := kb_edge D 0 h.C s' hs' _ hx'
    dsimp only at k3 k4
    rw [e1, e2] at k3 k4
    have hp := bD_pos D 0 y.2.1 h.C h.X
    by_cases c : y.1 = s.bd
    · have g1 := k1 c
      by_cases c2 : y.1 = s'.bd
      · have g3 := k3 c2
        rcases hc with hc | hc
        · exact absurd c hc
        · refine Or.inr ?_
          rw [hc]
          have : gtS s * bD D y.2.1 = gtS s' * bD D y.2.1 := by rw [← g1.2, ← g3.2]
          exact Nat.eq_of_mul_eq_mul_right hp this
      · exact Or.inl c2
    · have g2 := k2 c
      by_cases c2 : y.1 = s'.bd
      · have g3 := k3 c2
        omega
      · exact Or.inl c2
  by_cases c : x.1 = s.bd
  · rcases gtE_at (b := s.bd) s.es 0 with hg | ⟨y, hy, h1, h2⟩
    · have := gtS_pos hS.1 hX
      unfold gtS at this
      omega
    · exact key y hy (by rw [h1, ← c]; exact hxv) (Or.inr h2)
  · exact key x hxs hxv (Or.inl c)
abbrev CP.stH (P : PT) (x : Int) (gH : Nat → Nat) : Nat → Nat := wgG true (p_hv P) (p_fr P) (p_to P) (p_wo P) (p_te P) (p_sk P) (p_ne P) (p_nm P) x gH
abbrev CP.skH (P : PT) (n : Nat) (gH : Nat → Nat) : Nat → Nat := skF (alE true (p_hv P)) (p_fr P) (p_to P) (p_te P) (p_sk P) n gH
theorem CP.jclose (h : CP D P) {M : Nat} (hM : 0 < M) {a aH : Nat → Nat} (j : JW D M a aH) : ∀ n, n ≤ p_nm P → JW D M ((D.take n).foldl cwG a) (CP.skH P n aH)
  | 0, _ => by rw [List.take_zero]; exact j
  | n + 1, hn => by
    have ih := CP.jclose h hM j n (by omega)
    have hl : n < D.length := by rw [← h.nm]; omega
    have hk : D[n]? = some D[n] := List.getElem?_eq_getElem hl
    rw [List.take_add_one, hk, List.foldl_append]
    show JW D M (cwG ((D.take n).foldl cwG a) D[n]) _
    by_cases c : 0 ≤ p_sk P n
    · obtain ⟨e1, e2, e3, _, e5, e6, _⟩ := h.skE hk c
      have he : (p_sk P n).toNat < neD D := by rw [← h.ed.1]; exact e5
      obtain ⟨q1, q2, q3, q4⟩ := h.ed.2 _ e5
      obtain ⟨l1, l2, G, l3⟩ := h.el he
      rw [← q1, ← q2, ← q4, e1, e2, e3] at l3
      rw [← q2, e2] at l1
      refine JW.relax (e := 0) (f := D[n].bd) (t := D[n].nx) (te := 10) (G := G) (hv := p_hv P (p_sk P n).toNat) hM l1 l3 (Nat.le_refl _) ih ih (fun v => ?_) (fun v => ?_)
      · unfold cwG
        rw [if_pos e6]
        rfl
      · show skF _ _ _ _ _ (n + 1) aH v = _
        unfold skF
        rw [if_pos c, e1, e2, e3]
        show alO (!true || _) _ _ _ v = _
        rw [Bool.not_true, Bool.false_or]
        unfold alO
        by_cases c2 : p_hv P (p_sk P n).toNat = true
        · rw [if_pos c2]
          unfold va_up
          by_cases c3 : v = D[n].nx
          · rw [if_pos c3, if_pos ⟨c2, c3⟩, c3]
          · rw [if_neg c3, if_neg (fun h => c3 h.2)]
        · rw [if_neg c2, if_neg (fun h => c2 h.1)]
    · have e0 : cwG ((D.take n).foldl cwG a) D[n] = (D.take n).foldl cwG a := by
        unfold cwG
        rw [if_neg (by rw [h.skN hk c]; decide)]
      have e1 : CP.skH P (n + 1) aH = CP.skH P n aH := by
        exact if_neg c
      rw [e0, e1]
      exact ih
theorem CP.jclose' (h : CP D P) {M : Nat} (hM : 0 < M) {a aH : Nat → Nat} (j : JW D M a aH) : JW D M (D.foldl cwG a) (CP.skH P (p_nm P) aH) := by
  have := h.jclose hM j _ (Nat.le_refl _)
  rw [show D.take (p_nm P) = D by rw [h.nm, List.take_length]] at this
  exact this
theorem CP.jword (h : CP D P) {M : Nat} (hM : 0 < M) {g gH : Nat → Nat} (j : JW D M g gH) (x : Int) : ∀ n, n ≤ neD D → JW D M (mxE (fun e => woD D e == x) (fun e => tnO (g (frD D e)) (teD D e)) (toD D) n) (mxE (fun e => alE true (p_hv P) e && (woD D e == x)) (fun e => tnO (gH (frD D e)) (teD D e)) (toD D) n)
  | 0, _ => JW0 hM
  | n + 1, hn => by
    have ih := CP.jword h hM j x n (by omega)
    obtain ⟨l1, l2, G, l3⟩ := h.el (show n < neD D by omega)
    by_cases c : woD D n = x
    · refine JW.relax (e := 0) hM l1 l3 l2 j ih (fun v => ?_) (fun v => ?_)
      · show (if (woD D n == x) = true ∧ toD D n = v then _ else _) = _
        by_cases c2 : v = toD D n
        · rw [if_pos ⟨beq_iff_eq.mpr c, c2.symm⟩, if_pos c2]
        · rw [if_neg (fun h => c2 h.2.symm), if_neg c2]
      · show (if (alE true (p_hv P) n && (woD D n == x)) = true ∧ toD D n = v then _ else _) = _
        have hal : alE true (p_hv P) n = p_hv P n := by unfold alE; rw [Bool.not_true, Bool.false_or]
        by_cases c2 : p_hv P n = true ∧ v = toD D n
        · rw [if_pos ⟨by rw [hal, c2.1, Bool.true_and]; exact beq_iff_eq.mpr c, c2.2.symm⟩, if_pos c2]
        · rw [if_neg (fun h => c2 ⟨by have := (Bool.and_eq_true_iff.mp h.1).1; rw [hal] at this; exact this, h.2.symm⟩), if_neg c2]
    · have e1 : mxE (fun e => woD D e == x) (fun e => tnO (g (frD D e)) (teD D e)) (toD D) (n + 1) = mxE (fun e => woD D e == x) (fun e => tnO (g (frD D e)) (teD D e)) (toD D) n := by
        funext v
        show (if (woD D n == x) = true ∧ toD D n = v then _ else _) = _
        exact if_neg (fun h => c (beq_iff_eq.mp h.1))
      have e2 : mxE (fun e => alE true (p_hv P) e && (woD D e == x)) (fun e => tnO (gH (frD D e)) (teD D e)) (toD D) (n + 1) = mxE (fun e => alE true (p_hv P) e && (woD D e == x)) (fun e => tnO (gH (frD D e)) (teD D e)) (toD D) n := by
        funext v
        show (if (alE true (p_hv P) n && (woD D n == x)) = true ∧ toD D n = v then _ else _) = _
        exact if_neg (fun h => c (beq_iff_eq.mp (Bool.and_eq_true_iff.mp h.1).2))
      rw [e1, e2]
      exact ih
theorem CP.mxH (h : CP D P) (x : Int) (gH : Nat → Nat) : mxE (fun e => alE true (p_hv P) e && (p_wo P e == x)) (fun e => tnO (gH (p_fr P e)) (p_te P e)) (p_to P) (p_ne P) = mxE (fun e => alE true (p_hv P) e && (woD D e == x)) (fun e => tnO (gH (frD D e)) (teD D e)) (toD D) (neD D) := by
  rw [← h.ed.1]
  refine mxE_ext2 (fun e he => ?_)
  obtain ⟨q1, q2, q3, q4⟩ := h.ed.2 e he
  rw [q1, q2, q3, q4]
  exact ⟨rfl, rfl, rfl⟩
/-- the closing goes on as far as it may -/
theorem CP.hclosed (h : CP D P) (g : Nat → Nat) : ∀ n, n ≤ p_nm P → ∀ (k : Nat) (s : Sg), k < n → D[k]? = some s → 0 ≤ p_sk P k → p_hv P (p_sk P k).toNat = true → 0 < CP.skH P n g s.bd → 0 < CP.skH P n g s.nx
  | 0, _, k, _, hk, _, _, _, _ => absurd hk (Nat.not_lt_zero _)
  | n + 1, hn, k, s, hk, hs, h0, hv, hp => by
    have hl : n < D.length := by rw [← h.nm]; omega
    have hkn : D[n]? = some D[n] := List.getElem?_eq_getElem hl
    have hbx := ((h.seg hkn).1.2).1
    have hstep : ∀ v, CP.skH P (n + 1) g v = if 0 ≤ p_sk P n ∧ p_hv P (p_sk P n).toNat = true ∧ v = D[n].nx then max (CP.skH P n g v) (CP.skH P n g D[n].bd) else CP.skH P n g v := fun v => by
      show skF _ _ _ _ _ (n + 1) g v = _
      unfold skF
      by_cases c : 0 ≤ p_sk P n
      · obtain ⟨e1, e2, e3, _, _, _, _⟩ := h.skE hkn c
        rw [if_pos c, e1, e2, e3]
        show alO (!true || _) _ _ _ v = _
        rw [Bool.not_true, Bool.false_or]
        unfold alO
        by_cases c2 : p_hv P (p_sk P n).toNat = true
        · rw [if_pos c2]
          unfold va_up
          by_cases c3 : v = D[n].nx
          · rw [if_pos c3, if_pos ⟨c, c2, c3⟩, c3]
            rfl
          · rw [if_neg c3, if_neg (fun h => c3 h.2.2)]
        · rw [if_neg c2, if_neg (fun h => c2 h.2.1)]
      · rw [if_neg c, if_neg (fun h => c h.1)]
    have hmono : ∀ v, 0 < CP.skH P n g v → 0 < CP.skH P (n + 1) g v := fun v hv => by
      rw [hstep]
      split <;> omega
    by_cases c : k = n
    · subst c
      have e : s = D[k] := by rw [hkn] at hs; injection hs with hs; exact hs.symm
      subst e
      rw [hstep, if_neg (by omega)] at hp
      rw [hstep, if_pos ⟨h0, hv, rfl⟩]
      omega
    · have hle := sgC_mono h.C (show k ≤ n by omega) hs hkn
      rw [hstep, if_neg (by omega)] at hp
      exact hmono _ (CP.hclosed h g n (by omega) k s (by omega) hs h0 hv hp)
theorem CP.sk0 (h : CP D P) {g : Nat → Nat} (hg : ∀ v, g v = 0) : ∀ n, n ≤ p_nm P → ∀ v, CP.skH P n g v = 0
  | 0, _, v => hg v
  | n + 1, hn, v => by
    have ih := CP.sk0 h hg n (by omega)
    show skF _ _ _ _ _ (n + 1) g v = 0
    unfold skF
    split
    · unfold alO
      split
      · unfold va_up
        split
        · rw [show skF (alE true (p_hv P)) (p_fr P) (p_to P) (p_te P) (p_sk P) n g = CP.skH P n g from rfl, ih, ih, tnO_0]
          rfl
        · exact ih v
      · exact ih v
    · exact ih v
theorem CP.skge (h : CP D P) (g : Nat → Nat) (v : Nat) : ∀ n, g v ≤ CP.skH P n g v
  | 0 => Nat.le_refl _
  | n + 1 => by
    have ih := CP.skge h g v n
    show _ ≤ skF _ _ _ _ _ (n + 1) g v
    unfold skF
    split
    · unfold alO
      split
      · unfold va_up
        split
        · rename_i e
          rw [← e]
          exact Nat.le_trans ih (Nat.le_max_left _ _)
        · exact ih
      · exact ih
    · exact ih
end
theorem grF_ge {be ao g : Nat → Nat} {v : Nat} (hv : 0 < g v) : ∀ {n : Nat}, v < n → g v / 10 ^ be v * ao v ≤ grF be ao g n
  | 0, h => absurd h (Nat.not_lt_zero _)
  | n + 1, h => by
    unfold grF
    by_cases c : v = n
    · subst c
      rw [if_pos hv]
      exact Nat.le_max_right _ _
    · have := grF_ge (be := be) (ao := ao) hv (show v < n by omega)
      split <;> omega
theorem grF_leM {be ao g : Nat → Nat} {M : Nat} : ∀ {n : Nat}, (∀ v, v < n → g v / 10 ^ be v * ao v ≤ M) → grF be ao g n ≤ M
  | 0, _ => Nat.zero_le _
  | n + 1, h => by
    have h1 := grF_leM (be := be) (ao := ao) (g := g) (M := M) (n := n) (fun v hv => h v (by omega))
    have h2 := h n (by omega)
    unfold grF
    split <;> omega
theorem grF_at {be ao g : Nat → Nat} : ∀ {n : Nat}, 0 < grF be ao g n → ∃ v, v < n ∧ 0 < g v ∧ g v / 10 ^ be v * ao v = grF be ao g n
  | 0, h => absurd h (Nat.lt_irrefl _)
  | n + 1, h => by
    unfold grF at h ⊢
    by_cases c : 0 < g n
    · rw [if_pos c] at h ⊢
      by_cases c2 : grF be ao g n ≤ g n / 10 ^ be n * ao n
      · exact ⟨n, by omega, c, by omega⟩
      · obtain ⟨v, h1, h2, h3⟩ := grF_at (be := be) (ao := ao) (g := g) (n := n) (by omega)
        exact ⟨v, by omega, h2, by omega⟩
    · rw [if_neg c] at h ⊢
      obtain ⟨v, h1, h2, h3⟩ := grF_at h
      exact ⟨v, by omega, h2, h3⟩
section
variable {D : List Sg} {P : PT} {m : MS}
theorem PP.mb (h : PP D P m) {k : Nat} (hk : k < m.mnm) : ∃ s, D[k]? = some s ∧ m.mmb k = s.bd := by
  have hk2 : k < D.length := by rw [← h.M.1.1]; exact hk
  have h2 := lst_get (fun k => (m.mma k, m.mmm k, m.mml k, m.mmt k, m.mmb k)) hk
  rw [h.M.2.2.2.2.1, List.getElem?_map, List.getElem?_eq_getElem hk2] at h2
  injection h2 with h2
  injection h2 with e1 h2
  injection h2 with e2 h2
  injection h2 with e3 h2
  injection h2 with e4 e5
  exact ⟨_, List.getElem?_eq_getElem hk2, e5.symm⟩
theorem PP.be (h : PP D P m) {v : Nat} (hv : v < m.mnn) : m.mbe v = kD D v := by
  obtain ⟨k, k1, k2, k3, k4⟩ := h.M.2.2.2.2.2.1 v hv
  rw [k4, h.M.1.1]
  refine (kD_be D 0 k v h.c.C (by rw [← h.M.1.1]; exact k1) (fun j s hj hs => ?_) (fun s hs => ?_)).symm
  · obtain ⟨s', h1, h2⟩ := h.mb (k := j) (by omega)
    rw [hs] at h1
    injection h1 with h1
    rw [h1, ← h2]
    exact k2 j hj
  · have hl : k < D.length := (List.getElem?_eq_some_iff.mp hs).1
    obtain ⟨s', h1, h2⟩ := h.mb (k := k) (by rw [h.M.1.1]; exact hl)
    rw [hs] at h1
    injection h1 with h1
    rw [h1, ← h2]
    exact k3 (by rw [h.M.1.1]; exact hl)
theorem PP.ao (h : PP D P m) {v : Nat} (hv : v < m.mnn) : m.mao v = bD D v := by
  rw [h.M.2.2.2.2.2.2.2.2.2.2.2.2.2 v hv, h.nn']
  have e := ahE_L (D := D) h.M.2.2.1 (fun v => bdB m.mmb m.mnm (lsB 0 D) v) (lsB 0 D) m.mne (Nat.le_refl _) v
  (try dsimp only at e)
  rw [e, Nat.sub_self, List.drop_zero]
  have hn := h.nn
  refine ahL_D D 0 h.c.C h.c.X rfl (fun s hs => ?_) (fun s hs v h1 h2 => ?_) v (Nat.zero_le _) (by omega)
  · obtain ⟨k, hk, he⟩ := List.mem_iff_getElem.mp hs
    obtain ⟨s', q1, q2⟩ := h.mb (k := k) (by rw [h.M.1.1]; exact hk)
    rw [List.getElem?_eq_getElem hk, he] at q1
    injection q1 with q1
    unfold bdB
    rw [Bool.or_eq_true]
    refine Or.inr (List.any_eq_true.mpr ⟨k, List.mem_range.mpr (by rw [h.M.1.1]; exact hk), ?_⟩)
    rw [beq_iff_eq, q2, q1]
  · unfold bdB
    rw [Bool.or_eq_false_iff]
    obtain ⟨k, hk, he⟩ := List.mem_iff_getElem.mp hs
    have hnx := sgC_nx h.c.C (List.getElem?_eq_getElem hk)
    have hle : ∀ j s', D[j]? = some s' → k < j → s.nx ≤ s'.bd := fun j s' hj hkj => by
      rw [he] at hnx
      cases hj2 : D[k + 1]? with
      | none =>
        have := List.getElem?_eq_none_iff.mp hj2
        have := (List.getElem?_eq_some_iff.mp hj).1
        omega
      | some s2 =>
        rw [hj2] at hnx
        have := sgC_mono h.c.C (show k + 1 ≤ j by omega) hj2 hj
        dsimp only at hnx
        omega
    refine ⟨decide_eq_false (fun e2 => ?_), List.any_eq_false.mpr (fun j hj e2 => ?_)⟩
    · have h3 := ((sgC_mem h.c.C hs).2.1)
      have h4 : s.nx ≤ lsB 0 D := by
        rw [he] at hnx
        cases hj2 : D[k + 1]? with
        | none =>
          rw [hj2] at hnx
          dsimp only at hnx
          omega
        | some s2 =>
          rw [hj2] at hnx
          dsimp only at hnx
          have := (sgC_all (q0 := 0) h.c.C).1
          obtain ⟨x, hx, hxb⟩ := (h.c.X s2 (List.mem_of_getElem? hj2)).1 s2.bd (Nat.le_refl _) (sgC_mem h.c.C (List.mem_of_getElem? hj2)).1
          have := this x (List.mem_flatMap.mpr ⟨s2, List.mem_of_getElem? hj2, hx⟩)
          omega
      omega
    · rw [beq_iff_eq] at e2
      obtain ⟨s', q1, q2⟩ := h.mb (k := j) (List.mem_range.mp hj)
      rcases Nat.lt_trichotomy j k with c | c | c
      · have := sgC_mono h.c.C (show j ≤ k by omega) q1 (List.getElem?_eq_getElem hk)
        rw [he] at this
        omega
      · subst c
        rw [List.getElem?_eq_getElem hk, he] at q1
        injection q1 with q1
        rw [← q1] at q2
        omega
      · have := hle j s' q1 c
        omega
theorem PP.gr_le (h : PP D P m) {M : Nat} {g gH : Nat → Nat} (j : JW D M g gH) : grF m.mbe m.mao g m.mnn ≤ M := grF_leM (fun v hv => by rw [h.be hv, h.ao hv]; exact j.le v)
theorem PP.gr_iff (h : PP D P m) {M : Nat} (hM : 0 < M) {g gH : Nat → Nat} (j : JW D M g gH) (hs : ∀ v, 0 < g v → v ≤ lsB 0 D) : M ≤ grF m.mbe m.mao g m.mnn ↔ ∃ v, 0 < gH v := by
  constructor
  · intro h1
    obtain ⟨v, h2, h3, h4⟩ := grF_at (be := m.mbe) (ao := m.mao) (g := g) (n := m.mnn) (by omega)
    rw [h.be h2, h.ao h2] at h4
    exact ⟨v, (j.iff v).mpr (by have := j.le v; omega)⟩
  · rintro ⟨v, hv⟩
    have h1 := (j.iff v).mp hv
    have h2 : 0 < g v := by
      rcases Nat.eq_zero_or_pos (g v) with q | q
      · rw [q, Nat.zero_div, Nat.zero_mul] at h1
        omega
      · exact q
    have h3 : v < m.mnn := by have := hs v h2; have := h.nn; omega
    have h4 := grF_ge (be := m.mbe) (ao := m.mao) h2 h3
    rw [h.be h3, h.ao h3, h1] at h4
    exact h4
/-- a place of the walk -/
def PP.HS (D : List Sg) (P : PT) (M n s : Nat) (g gH : Nat → Nat) : Prop := (s < p_cnt P) ∧ (PP.Rc D P n s) ∧ (JW D M g gH) ∧ (∀ v, 0 < g v → (mS (p_me P) s).testBit v = true) ∧ (∃ v, 0 < gH v) ∧ (∀ (k : Nat) (t : Sg), D[k]? = some t → 0 ≤ p_sk P k → p_hv P (p_sk P k).toNat = true → 0 < gH t.bd → 0 < gH t.nx)
theorem PP.HS.hs {D : List Sg} {P : PT} {M n s : Nat} {g gH : Nat → Nat} (h_ : PP.HS D P M n s g gH) : s < p_cnt P := h_.1
theorem PP.HS.hr {D : List Sg} {P : PT} {M n s : Nat} {g gH : Nat → Nat} (h_ : PP.HS D P M n s g gH) : PP.Rc D P n s := h_.2.1
theorem PP.HS.hj {D : List Sg} {P : PT} {M n s : Nat} {g gH : Nat → Nat} (h_ : PP.HS D P M n s g gH) : JW D M g gH := h_.2.2.1
theorem PP.HS.hu {D : List Sg} {P : PT} {M n s : Nat} {g gH : Nat → Nat} (h_ : PP.HS D P M n s g gH) : ∀ v, 0 < g v → (mS (p_me P) s).testBit v = true := h_.2.2.2.1
theorem PP.HS.hp {D : List Sg} {P : PT} {M n s : Nat} {g gH : Nat → Nat} (h_ : PP.HS D P M n s g gH) : ∃ v, 0 < gH v := h_.2.2.2.2.1
theorem PP.HS.hc {D : List Sg} {P : PT} {M n s : Nat} {g gH : Nat → Nat} (h_ : PP.HS D P M n s g gH) : ∀ (k : Nat) (t : Sg), D[k]? = some t → 0 ≤ p_sk P k → p_hv P (p_sk P k).toNat = true → 0 < gH t.bd → 0 < gH t.nx := h_.2.2.2.2.2
theorem PP.HS.gpos {M n s : Nat} {g gH : Nat → Nat} (H : PP.HS D P M n s g gH) (hM : 0 < M) {v : Nat} (hv : 0 < gH v) : 0 < g v := by
  have h1 := (H.hj.iff v).mp hv
  rcases Nat.eq_zero_or_pos (g v) with q | q
  · rw [q, Nat.zero_div, Nat.zero_mul] at h1
    omega
  · exact q
theorem PP.mxpos {ok : Nat → Bool} {val to : Nat → Nat} {n : Nat} : (∃ v, 0 < mxE ok val to n v) ↔ ∃ e, e < n ∧ ok e = true ∧ 0 < val e := by
  constructor
  · rintro ⟨v, hv⟩
    rcases mxE_at (ok := ok) (val := val) (to := to) (v := v) (n := n) with h0 | ⟨e, he, ho, _, hm⟩
    · omega
    · exact ⟨e, he, ho, by omega⟩
  · rintro ⟨e, he, ho, hv⟩
    exact ⟨to e, Nat.lt_of_lt_of_le hv (mxE_ge he ho)⟩
/-- a word that keeps the weight -/
theorem PP.wpos (h : PP D P m) {M n s : Nat} {g gH : Nat → Nat} (hM : 0 < M) (H : PP.HS D P M n s g gH) (x : Int) : (∃ v, 0 < CP.stH P x gH v) ↔ ∃ e, e < neD D ∧ p_hv P e = true ∧ woD D e = x ∧ 0 < gH (frD D e) := by
  have e0 : CP.stH P x gH = CP.skH P (p_nm P) (mxE (fun e => alE true (p_hv P) e && (woD D e == x)) (fun e => tnO (gH (frD D e)) (teD D e)) (toD D) (neD D)) := by
    show skF _ _ _ _ _ _ _ = skF _ _ _ _ _ _ _
    rw [← h.c.mxH]
  have hal : ∀ e, alE true (p_hv P) e = p_hv P e := fun e => by unfold alE; rw [Bool.not_true, Bool.false_or]
  rw [e0]
  constructor
  · rintro ⟨v, hv⟩
    have h1 : ∃ v, 0 < mxE (fun e => alE true (p_hv P) e && (woD D e == x)) (fun e => tnO (gH (frD D e)) (teD D e)) (toD D) (neD D) v := by
      apply Classical.byContradiction
      intro hn
      have := h.c.sk0 (g := mxE (fun e => alE true (p_hv P) e && (woD D e == x)) (fun e => tnO (gH (frD D e)) (teD D e)) (toD D) (neD D)) (fun v => by
        rcases Nat.eq_zero_or_pos (mxE (fun e => alE true (p_hv P) e && (woD D e == x)) (fun e => tnO (gH (frD D e)) (teD D e)) (toD D) (neD D) v) with q | q
        · exact q
        · exact absurd ⟨v, q⟩ hn) _ (Nat.le_refl _) v
      omega
    obtain ⟨e, he, ho, hp⟩ := PP.mxpos.mp h1
    rw [Bool.and_eq_true, beq_iff_eq, hal] at ho
    refine ⟨e, he, ho.1, ho.2, ?_⟩
    rcases Nat.eq_zero_or_pos (gH (frD D e)) with q | q
    · rw [q, tnO_0] at hp
      omega
    · exact q
  · rintro ⟨e, he, h1, h2, h3⟩
    obtain ⟨l1, l2, G, l3⟩ := h.c.el he
    have h4 := (cand l1 l3 (H.hj.dH (frD D e))).2.2.2.2 h3
    obtain ⟨v, hv⟩ := (PP.mxpos (ok := fun e => alE true (p_hv P) e && (woD D e == x)) (val := fun e => tnO (gH (frD D e)) (teD D e)) (to := toD D) (n := neD D)).mpr ⟨e, he, (show (alE true (p_hv P) e && (woD D e == x)) = true by rw [hal, h1, Bool.true_and, beq_iff_eq]; exact h2), (show 0 < (fun e => tnO (gH (frD D e)) (teD D e)) e from h4)⟩
    exact ⟨v, Nat.lt_of_lt_of_le hv (h.c.skge _ v _)⟩
theorem PP.wgM_D (h : PP D P m) (x : Int) (g : Nat → Nat) : wgM m.mfr m.mto m.mwo m.mte m.mne x g = D.foldl cwG (mxE (fun e => woD D e == x) (fun e => tnO (g (frD D e)) (teD D e)) (toD D) (neD D)) := by
  unfold wgM
  rw [h.clw]
  congr 1
  rw [← h.ed.1]
  refine mxE_ext2 (fun e he => ?_)
  obtain ⟨q1, q2, q3, q4⟩ := h.ed.2 e he
  rw [q1, q2, q3, q4]
  exact ⟨rfl, rfl, rfl⟩
theorem PP.jstep (h : PP D P m) {M : Nat} {g gH : Nat → Nat} (hM : 0 < M) (j : JW D M g gH) (x : Int) : JW D M (wgM m.mfr m.mto m.mwo m.mte m.mne x g) (CP.stH P x gH) := by
  rw [h.wgM_D]
  have := h.c.jclose' hM (h.c.jword hM j x _ (Nat.le_refl _))
  rw [← h.c.mxH] at this
  exact this
theorem PP.HS.next {M n s : Nat} {g gH : Nat → Nat} (h : PP D P m) (hM : 0 < M) (H : PP.HS D P M n s g gH) {p : Nat × Nat} (hp : p ∈ CP.ar P s) (hw : ∃ v, 0 < CP.stH P (p.1 : Int) gH v) : PP.HS D P M (n + 1) p.2 (wgM m.mfr m.mto m.mwo m.mte m.mne (p.1 : Int) g) (CP.stH P (p.1 : Int) gH) :=
  ⟨((h.arc H.hs hp).2),
  (by have hr2 := h.RcS H.hs hp H.hr; exact hr2),
  (h.jstep hM H.hj _),
  (h.supS H.hs H.hu hp),
  (hw),
  (fun k t ht h0 hv hq => h.c.hclosed _ _ (Nat.le_refl _) k t (by rw [h.c.nm]; exact (List.getElem?_eq_some_iff.mp ht).1) ht h0 hv hq)⟩
/-- some word goes on -/
theorem PP.HS.goes {M n s : Nat} {g gH : Nat → Nat} (h : PP D P m) (hM : 0 < M) (H : PP.HS D P M n s g gH) (h0 : gH (lsB 0 D) = 0) : ∃ e, e < neD D ∧ p_hv P e = true ∧ 0 ≤ woD D e ∧ 0 < gH (frD D e) := by
  obtain ⟨v, hv⟩ := H.hp
  have hle : ∀ v, 0 < gH v → v ≤ lsB 0 D := fun v hv => (h.c.au.set H.hs).2.1 v (H.hu v (H.gpos hM hv))
  have key : ∀ d v, lsB 0 D ≤ v + d → 0 < gH v → ∃ e, e < neD D ∧ p_hv P e = true ∧ 0 ≤ woD D e ∧ 0 < gH (frD D e) := by
    intro d
    induction d with
    | zero =>
      intro v h1 h2
      have := hle v h2
      rw [show v = lsB 0 D by omega] at h2
      omega
    | succ d ih =>
      intro v h1 h2
      have h3 := hle v h2
      by_cases c : v = lsB 0 D
      · rw [c] at h2
        omega
      · obtain ⟨e, he, e1, e2⟩ := h.c.heavy (show v < lsB 0 D by omega)
        by_cases c2 : 0 ≤ woD D e
        · exact ⟨e, he, e2, c2, by rw [e1]; exact h2⟩
        · obtain ⟨s', hs', hx', hv'⟩ := flat_ix h.c.ed.1 h.c.gr.2.2.2.2.2.2.1 (by rw [h.c.ed.1]; exact he)
          have hg := (sgC_mem h.c.C hs').2.1 _ hx'
          dsimp only at hg
          have hb := hg.2.2.2.2.2.1 (by omega)
          have ht10 := ((h.c.X s' hs').2.2 _ hx').2 (by dsimp only; omega)
          dsimp only at ht10
          obtain ⟨k, hk, hke⟩ := List.mem_iff_getElem.mp hs'
          have hks : D[k]? = some s' := by rw [List.getElem?_eq_getElem hk, hke]
          have hsk : 0 ≤ p_sk P k := by
            apply Classical.byContradiction
            intro hn
            have := h.c.skN hks hn
            rw [List.any_eq_false] at this
            exact this _ hx' (decide_eq_true (by dsimp only; omega))
          obtain ⟨q1, q2, q3, q4, q5, q6, q7⟩ := h.c.skE hks hsk
          have hhv : p_hv P (p_sk P k).toNat = true := by
            obtain ⟨l1, l2, G, l3⟩ := h.c.el he
            obtain ⟨l1', l2', G', l3'⟩ := h.c.el (e := (p_sk P k).toNat) (by rw [← h.c.ed.1]; exact q5)
            obtain ⟨r1, r2, r3, r4⟩ := h.c.ed.2 _ q5
            rw [← r1, ← r2, ← r4, q1, q2, q3] at l3'
            rw [hb.1, hb.2, ht10] at l3
            have hpos := bD_pos D 0 s'.nx h.c.C h.c.X
            rcases l3' with ⟨a1, a2, a3, a4, a5⟩ | ⟨a1, a2, a3, a4⟩
            · rcases l3 with ⟨b1, b2, b3, b4, b5⟩ | ⟨b1, b2, b3, b4⟩
              · rw [a5]
                have : G * bD D s'.nx = G' * bD D s'.nx := by rw [← b2, ← a2]
                rw [← Nat.eq_of_mul_eq_mul_right hpos this]
                exact b5.mp e2
              · omega
            · exact a4
          have h5 := H.hc k s' hks hsk hhv (by rw [← hb.1, e1]; exact h2)
          exact ih s'.nx (by have := (sgC_mem h.c.C hs').1; rw [← e1, hb.1] at h1; omega) h5
  exact key (lsB 0 D) v (by omega) hv
/-- the class's next word is the reference's -/
theorem PP.HS.same {M n s : Nat} {g gH : Nat → Nat} (h : PP D P m) (hM : 0 < M) (H : PP.HS D P M n s g gH) (h0 : gH (lsB 0 D) = 0) : ∃ j, fnd (fun j => !decide (grF m.mbe m.mao (wgM m.mfr m.mto m.mwo m.mte m.mne ((m.mxw (m.mxf s + j) : Nat) : Int) g) m.mnn < M)) (m.mxf (s + 1) - m.mxf s) = some j ∧ hvL (p_hv P) (p_fr P) (p_wo P) (p_ne P) gH = m.mxw (m.mxf s + j) ∧ PP.HS D P M (n + 1) (m.mxt (m.mxf s + j)) (wgM m.mfr m.mto m.mwo m.mte m.mne ((m.mxw (m.mxf s + j) : Nat) : Int) g) (CP.stH P ((m.mxw (m.mxf s + j) : Nat) : Int) gH) := by
  have hsM : s < m.mns := by rw [h.ns]; exact H.hs
  have hin : ∀ j, j < m.mxf (s + 1) - m.mxf s → (m.mxw (m.mxf s + j), m.mxt (m.mxf s + j)) ∈ CP.ar P s := fun j hj => h.xa hsM (by omega) (by omega)
  have hP : ∀ j, j < m.mxf (s + 1) - m.mxf s → ((!decide (grF m.mbe m.mao (wgM m.mfr m.mto m.mwo m.mte m.mne ((m.mxw (m.mxf s + j) : Nat) : Int) g) m.mnn < M)) = true ↔ ∃ e, e < neD D ∧ p_hv P e = true ∧ woD D e = ((m.mxw (m.mxf s + j) : Nat) : Int) ∧ 0 < gH (frD D e)) := fun j hj => by
    rw [← h.wpos hM H, ← h.gr_iff hM (h.jstep hM H.hj _) (fun v hv => (h.c.au.set (h.arc H.hs (hin j hj)).2).2.1 v (h.supS H.hs H.hu (hin j hj) v hv))]
    rw [Bool.not_eq_true', decide_eq_false_iff_not]
    dsimp only
    omega
  have hmn := lwE_is (ok := fun e => decide (0 < gH (p_fr P e)) && (decide (0 ≤ p_wo P e) && p_hv P e)) (wo := p_wo P) (n := p_ne P) (fun e he ho => by
    rw [Bool.and_eq_true, Bool.and_eq_true, decide_eq_true_eq, decide_eq_true_eq] at ho
    exact ⟨ho.2.1, by have := (h.c.gs.2.2.1 e he).2.2.2.1; exact this⟩)
  have hval : hvL (p_hv P) (p_fr P) (p_wo P) (p_ne P) gH = lwE (fun e => decide (0 < gH (p_fr P e)) && (decide (0 ≤ p_wo P e) && p_hv P e)) (p_wo P) (p_ne P) := rfl
  rw [← hval] at hmn
  obtain ⟨m1, m2, m3⟩ := hmn
  have hQ : ∀ e, e < p_ne P → p_hv P e = true → 0 ≤ p_wo P e → 0 < gH (p_fr P e) → ((hvL (p_hv P) (p_fr P) (p_wo P) (p_ne P) gH : Nat) : Int) ≤ p_wo P e := fun e he h1 h2 h3 => m2 e ⟨he, by rw [Bool.and_eq_true, Bool.and_eq_true, decide_eq_true_eq, decide_eq_true_eq]; exact ⟨h3, h2, h1⟩⟩
  obtain ⟨e, he, hv, hwo, hpos⟩ := H.goes h hM h0
  have hne := h.c.ed.1
  obtain ⟨q1, q2, q3, q4⟩ := h.c.ed.2 e (by rw [hne]; exact he)
  have hlt : hvL (p_hv P) (p_fr P) (p_wo P) (p_ne P) gH < 200 := by
    have h1 := hQ e (by rw [hne]; exact he) hv (by rw [q3]; exact hwo) (by rw [q1]; exact hpos)
    have := (h.c.gs.2.2.1 e (by rw [hne]; exact he)).2.2.2.1
    omega
  obtain ⟨f, ⟨hf, hfo⟩, hfw⟩ := m3.resolve_left (by omega)
  rw [Bool.and_eq_true, Bool.and_eq_true, decide_eq_true_eq, decide_eq_true_eq] at hfo
  obtain ⟨r1, r2, r3, r4⟩ := h.c.ed.2 f hf
  -- the word is an arc's
  have hmem : hvL (p_hv P) (p_fr P) (p_wo P) (p_ne P) gH ∈ wsO (frD D) (woD D) (neD D) (mS m.mse s) := by
    refine List.mem_filter.mpr ⟨List.mem_range.mpr hlt, List.any_eq_true.mpr ⟨f, List.mem_range.mpr (by rw [← hne]; exact hf), ?_⟩⟩
    rw [Bool.and_eq_true, beq_iff_eq, ← r3, ← r1]
    refine ⟨hfw, ?_⟩
    rw [(h.c.au.eq h.auM).2.2.1 s H.hs]
    exact H.hu _ (H.gpos hM hfo.1)
  rw [← h.auM.words hsM] at hmem
  obtain ⟨p, hp, hpw⟩ := List.mem_map.mp hmem
  obtain ⟨k, k1, k2, rfl⟩ := arL_mem hp
  dsimp only at hpw
  have hj : k - m.mxf s < m.mxf (s + 1) - m.mxf s := by omega
  have hjk : m.mxf s + (k - m.mxf s) = k := by omega
  have hgood : ∃ e, e < neD D ∧ p_hv P e = true ∧ woD D e = ((m.mxw (m.mxf s + (k - m.mxf s)) : Nat) : Int) ∧ 0 < gH (frD D e) := ⟨f, by rw [← hne]; exact hf, hfo.2.2, by rw [hjk, hpw, ← r3]; exact hfw, by rw [← r1]; exact hfo.1⟩
  refine ⟨k - m.mxf s, fnd_some hj ((hP _ hj).mpr hgood) (fun i hi => ?_), by rw [hjk, hpw], ?_⟩
  · rw [Bool.eq_false_iff]
    intro hc
    obtain ⟨e2, he2, a1, a2, a3⟩ := (hP i (by omega)).mp hc
    obtain ⟨b1, b2, b3, b4⟩ := h.c.ed.2 e2 (by rw [hne]; exact he2)
    have h1 := hQ e2 (by rw [hne]; exact he2) a1 (by rw [b3, a2]; omega) (by rw [b1]; exact a3)
    have h2 := h.srt s hsM (m.mxf s + i) k (by omega) (by omega) k2
    rw [b3, a2] at h1
    omega
  · exact H.next h hM (hin _ hj) ((h.wpos hM H _).mpr hgood)
theorem PP.hvE (h : PP D P m) {M : Nat} (hM : 0 < M) : ∀ (f n s : Nat) (g gH : Nat → Nat), PP.HS D P M n s g gH → n + f = 64 → hvM m.mxf m.mxw m.mxt (wgM m.mfr m.mto m.mwo m.mte m.mne) (fun g => grF m.mbe m.mao g m.mnn) M (m.mnn - 1) (f + 1) s g = hvP (fun w g => CP.stH P ((w : Nat) : Int) g) (hvL (p_hv P) (p_fr P) (p_wo P) (p_ne P)) (p_nn P - 1) f gH ∧ ∀ x ∈ hvP (fun w g => CP.stH P ((w : Nat) : Int) g) (hvL (p_hv P) (p_fr P) (p_wo P) (p_ne P)) (p_nn P - 1) f gH, x < 200
  | f, n, s, g, gH, H, hn => by
    have hk := kD_end D 0 h.c.C
    have hval : g (lsB 0 D) / 10 ^ kD D (lsB 0 D) * bD D (lsB 0 D) = g (lsB 0 D) := by rw [hk.1, hk.2, Nat.pow_zero, Nat.div_one, Nat.mul_one]
    have hle := H.hj.le (lsB 0 D)
    have hif := H.hj.iff (lsB 0 D)
    rw [hval] at hle hif
    have hPn : p_nn P - 1 = lsB 0 D := by rw [h.c.nn]; rfl
    by_cases c : gH (lsB 0 D) = 0
    · obtain ⟨j, h1, h2, h3⟩ := H.same h hM c
      have hlt : g (lsB 0 D) < M := by
        rcases Nat.lt_or_ge (g (lsB 0 D)) M with q | q
        · exact q
        · have := hif.mpr (by omega)
          omega
      cases f with
      | zero =>
        have := h.Rle h3.hs h3.hr
        have := h.c.ps64
        omega
      | succ f =>
        obtain ⟨i1, i2⟩ := PP.hvE h hM f (n + 1) _ _ _ h3 (by omega)
        have hw2 : m.mxw (m.mxf s + j) < 200 := by
          have := (fnd_spec h1).1
          exact (h.arc H.hs (h.xa (by rw [h.ns]; exact H.hs) (show m.mxf s ≤ m.mxf s + j by omega) (by omega))).1
        rw [hPn, hvP_go c, h2]
        refine ⟨?_, fun x hx => ?_⟩
        · unfold hvM
          rw [h.nn', if_pos hlt, h1]
          dsimp only
          rw [h.nn', hPn] at i1
          rw [i1]
        · rcases List.mem_cons.mp hx with rfl | hx
          · exact hw2
          · exact i2 x (by rw [hPn]; exact hx)
    · have hge : ¬ g (lsB 0 D) < M := by
        have := hif.mp (by omega)
        omega
      rw [hPn, hvP_no c]
      refine ⟨?_, fun x hx => by cases hx⟩
      unfold hvM
      rw [h.nn', if_neg hge]
/-- the beginning -/
theorem PP.wgIJ (h : PP D P m) : 0 < 10000000000000000 / 10 ^ D.length * bD D 0 ∧ JW D (10000000000000000 / 10 ^ D.length * bD D 0) wgI wgI := by
  have hk : kD D 0 = D.length := kD_len D 0 0 h.c.C (Nat.le_refl _)
  have hd : 10 ^ D.length ∣ 10000000000000000 := Nat.pow_dvd_pow 10 h.c.l16
  have hb := bD_pos D 0 0 h.c.C h.c.X
  have hM : 0 < 10000000000000000 / 10 ^ D.length * bD D 0 := Nat.mul_pos (Nat.div_pos (Nat.le_of_dvd (by decide) hd) (Nat.pow_pos (by decide))) hb
  have hdv : ∀ v, 10 ^ kD D v ∣ wgI v := fun v => by
    show 10 ^ kD D v ∣ if v = 0 then 10000000000000000 else 0
    split
    · rename_i e
      rw [e, hk]
      exact hd
    · exact Nat.dvd_zero _
  refine ⟨hM, hdv, hdv, fun v => ?_, fun v => ?_, fun v => ?_⟩
  · show (if v = 0 then 10000000000000000 else 0) / 10 ^ kD D v * bD D v ≤ _
    split
    · rename_i e
      rw [e, hk]
      exact Nat.le_refl _
    · rw [Nat.zero_div, Nat.zero_mul]
      exact Nat.zero_le _
  · show 0 < (if v = 0 then 10000000000000000 else 0) ↔ (if v = 0 then 10000000000000000 else 0) / 10 ^ kD D v * bD D v = _
    split
    · rename_i e
      rw [e, hk]
      exact ⟨fun _ => rfl, fun _ => by decide⟩
    · rw [Nat.zero_div, Nat.zero_mul]
      omega
  · show (if v = 0 then 10000000000000000 else 0) ≤ _
    split <;> omega
theorem PP.HS0 (h : PP D P m) : PP.HS D P (10000000000000000 / 10 ^ D.length * bD D 0) 0 0 (clW m.mfr m.mto m.mwo m.mne wgI) (wg0 true (p_hv P) (p_fr P) (p_to P) (p_te P) (p_sk P) (p_nm P)) :=
  ⟨(h.c.au.pos),
  (AU.Rc0 D _ 0),
  (by
    rw [h.clw]
    exact h.c.jclose' h.wgIJ.1 h.wgIJ.2),
  (h.sup0),
  (⟨0, by
    have h1 := h.c.skge wgI 0 (p_nm P)
    have h2 : 0 < wgI 0 := by show 0 < if 0 = 0 then 10000000000000000 else 0; rw [if_pos rfl]; omega
    exact Nat.lt_of_lt_of_le h2 h1⟩),
  (fun k t ht h0 hv hq => h.c.hclosed _ _ (Nat.le_refl _) k t (by rw [h.c.nm]; exact (List.getElem?_eq_some_iff.mp ht).1) ht h0 hv hq)⟩
theorem PP.grM (h : PP D P m) : grF m.mbe m.mao (clW m.mfr m.mto m.mwo m.mne wgI) m.mnn = 10000000000000000 / 10 ^ D.length * bD D 0 := by
  have H := h.HS0
  have h1 := h.gr_le H.hj
  have h2 := (h.gr_iff h.wgIJ.1 H.hj (fun v hv => (h.c.au.set H.hs).2.1 v (H.hu v hv))).mpr H.hp
  omega
end
