/-! THE REFERENCE: the shape of its graph -/
theorem GM {D : List Sg} {fr to : Nat → Nat} {wo : Nat → Int} {te : Nat → Nat} {ne : Nat} (hE : eL fr to wo te ne = D.flatMap Sg.es) (hC : sgC 0 D) (hl : D.length ≤ 16) : (∀ e, e < ne → (fr e < to e ∧ to e < lsB 0 D + 1) ∧ -2 ≤ wo e ∧ wo e < 200) ∧ ordE fr to ne ∧ ∀ e v, e ≤ ne → plF fr to wo e v ≤ 64 := by
  obtain ⟨h1, h2, q, h3, h4, h5⟩ := sgC_all (q0 := 0) hC
  have hm : ∀ e, e < ne → (fr e, to e, wo e, te e) ∈ D.flatMap Sg.es := fun e he => by rw [← hE]; exact lst_mem.mpr ⟨e, he, rfl⟩
  refine ⟨fun e he => ?_, fun e f he hf hef => ?_, fun e v he => ?_⟩
  · have := h1 _ (hm e he)
    exact ⟨⟨this.2.1, by have := this.2.2.1; dsimp only at this; omega⟩, this.2.2.2.1, this.2.2.2.2⟩
  · rcases Nat.lt_trichotomy e f with h | h | h
    · exact h
    · subst h
      have := (h1 _ (hm e he)).2.1
      dsimp only at this
      omega
    · rw [← hE] at h2
      have := List.pairwise_iff_getElem.mp h2 f e (by rw [lst_len]; omega) (by rw [lst_len]; omega) h
      simp [lst] at this
      exact absurd hef this
  · refine Nat.le_trans (plF_q (q := fun v => if v ≤ lsB 0 D then q v else 0) (fun j hj => ?_) v) ?_
    · have k1 := h1 _ (hm j (by omega))
      have k2 := h5 _ (hm j (by omega))
      dsimp only at k1 k2
      show ((if fr j ≤ lsB 0 D then q (fr j) else 0) + if 0 ≤ wo j then 1 else 0) ≤ if to j ≤ lsB 0 D then q (to j) else 0
      rw [if_pos (show to j ≤ lsB 0 D by omega), if_pos (show fr j ≤ lsB 0 D by omega)]
      exact k2
    · try dsimp only
      split
      · rename_i h6
        have := h4 v (Nat.zero_le _) h6
        omega
      · omega
/-- the closing, edge by edge, and segment by segment -/
def stE (S : Nat) (x : Ed) : Nat := if x.2.2.1 < 0 ∧ S.testBit x.1 = true then S ||| 2 ^ x.2.1 else S
def stS (S : Nat) (s : Sg) : Nat := if s.es.any (fun x => decide (x.2.2.1 < 0)) = true ∧ S.testBit s.bd = true then S ||| 2 ^ s.nx else S
theorem clE_fold (fr to : Nat → Nat) (wo : Nat → Int) (te : Nat → Nat) (S : Nat) : ∀ n, clE fr to wo n S = (eL fr to wo te n).foldl stE S
  | 0 => rfl
  | n + 1 => by
    show _ = (lst (fun e => (fr e, to e, wo e, te e)) (n + 1)).foldl stE S
    rw [lst_succ, List.foldl_append]
    show clE fr to wo (n + 1) S = stE ((eL fr to wo te n).foldl stE S) _
    rw [← clE_fold fr to wo te S n]
    rfl
theorem or_idem {a k : Nat} (h : a.testBit k = true) : a ||| 2 ^ k = a := by
  apply Nat.eq_of_testBit_eq
  intro i
  rw [Nat.testBit_or, Nat.testBit_two_pow]
  by_cases h1 : k = i
  · subst h1; rw [h]; simp
  · rw [decide_eq_false h1, Bool.or_false]
theorem stE_seg {b nx : Nat} (hb : b < nx) : ∀ (es : List Ed) (S : Nat), (∀ x ∈ es, x.2.2.1 < 0 → x.1 = b ∧ x.2.1 = nx) → es.foldl stE S = if es.any (fun x => decide (x.2.2.1 < 0)) = true ∧ S.testBit b = true then S ||| 2 ^ nx else S
  | [], S, _ => by rw [if_neg (fun h => by simp at h)]; rfl
  | x :: es, S, h => by
    have ih := stE_seg hb es (stE S x) (fun y hy => h y (List.mem_cons_of_mem _ hy))
    rw [List.foldl_cons, ih, List.any_cons]
    by_cases h1 : x.2.2.1 < 0
    · have h2 := h x List.mem_cons_self h1
      rw [decide_eq_true h1, Bool.true_or]
      have hst : stE S x = if S.testBit b = true then S ||| 2 ^ nx else S := by
        unfold stE
        rw [h2.1, h2.2]
        by_cases h3 : S.testBit b = true
        · rw [if_pos ⟨h1, h3⟩, if_pos h3]
        · rw [if_neg (fun q => h3 q.2), if_neg h3]
      rw [hst]
      by_cases h3 : S.testBit b = true
      · rw [if_pos h3, if_pos (show true = true ∧ S.testBit b = true from ⟨rfl, h3⟩)]
        have h4 : (S ||| 2 ^ nx).testBit b = true := by rw [Nat.testBit_or, h3]; rfl
        have h5 : (S ||| 2 ^ nx) ||| 2 ^ nx = S ||| 2 ^ nx := or_idem (by rw [Nat.testBit_or, Nat.testBit_two_pow_self, Bool.or_true])
        split
        · exact h5
        · rfl
      · rw [if_neg h3, if_neg (fun q => h3 q.2), if_neg (fun q => h3 q.2)]
    · rw [decide_eq_false h1, Bool.false_or, show stE S x = S from if_neg (fun q => h1 q.1)]
theorem clE_segs : ∀ (D : List Sg) (b S : Nat), sgC b D → (D.flatMap Sg.es).foldl stE S = D.foldl stS S
  | [], _, _, _ => rfl
  | s :: D, b, S, h => by
    rw [List.flatMap_cons, List.foldl_append, List.foldl_cons, stE_seg h.2.1.1 s.es S (fun x hx h1 => (h.2.1.2.1 x hx).2.2.2.2.2.1 h1)]
    exact clE_segs D _ _ h.2.2
theorem sgC_nx : ∀ {D : List Sg} {b k : Nat} {s : Sg}, sgC b D → D[k]? = some s → (match D[k + 1]? with | some s' => s'.bd | none => lsB b D) = s.nx
  | [], _, _, _, _, h => by simp at h
  | t :: D, b, 0, s, hC, h => by
    simp at h
    subst h
    show (match D[0]? with | some s' => s'.bd | none => lsB t.nx D) = t.nx
    cases D with
    | nil => rfl
    | cons u D => exact hC.2.2.1
  | t :: D, b, k + 1, s, hC, h => by
    show (match D[k + 1]? with | some s' => s'.bd | none => lsB t.nx D) = s.nx
    exact sgC_nx hC.2.2 h
theorem clM_segs {D : List Sg} (hC : sgC 0 D) (S : Nat) : ∀ m, m ≤ D.length → clM (skD D) (boD D) m S = (D.take m).foldl stS S
  | 0, _ => rfl
  | m + 1, h => by
    have ih := clM_segs hC S m (by omega)
    have hs : D[m]? = some D[m] := List.getElem?_eq_getElem (by omega)
    have hb : boD D m = D[m].bd := by unfold boD; rw [hs]
    have hn : boD D (m + 1) = D[m].nx := by unfold boD; exact sgC_nx hC hs
    have hk : skD D m = if D[m].es.any (fun x => decide (x.2.2.1 < 0)) then 0 else -2 := by unfold skD; rw [hs]
    rw [List.take_succ, hs, List.foldl_append, ← ih]
    show (if 0 ≤ skD D m ∧ (clM (skD D) (boD D) m S).testBit (boD D m) = true then clM (skD D) (boD D) m S ||| 2 ^ boD D (m + 1) else clM (skD D) (boD D) m S) = stS (clM (skD D) (boD D) m S) D[m]
    unfold stS
    rw [hb, hn, hk]
    have e : (0 ≤ (if D[m].es.any (fun x => decide (x.2.2.1 < 0)) = true then (0 : Int) else -2)) ↔ D[m].es.any (fun x => decide (x.2.2.1 < 0)) = true := by
      split
      · rename_i h1; exact ⟨fun _ => h1, fun _ => Int.le_refl _⟩
      · rename_i h1; exact ⟨fun h2 => absurd h2 (by decide), fun h2 => absurd h2 h1⟩
    simp only [e]
theorem clE_clM {D : List Sg} {fr to : Nat → Nat} {wo : Nat → Int} {te : Nat → Nat} {ne : Nat} (hE : eL fr to wo te ne = D.flatMap Sg.es) (hC : sgC 0 D) (S : Nat) : clE fr to wo ne S = clM (skD D) (boD D) D.length S := by
  rw [clE_fold fr to wo te, hE, clE_segs D 0 S hC, clM_segs hC S D.length (Nat.le_refl _), List.take_length]
theorem exE_D {D : List Sg} {fr to : Nat → Nat} {wo : Nat → Int} {te : Nat → Nat} {ne : Nat} (hE : eL fr to wo te ne = D.flatMap Sg.es) (hC : sgC 0 D) : exS (wsO fr wo ne) (fun S x => clE fr to wo ne (tgO fr to wo S x ne)) 300 0 [clE fr to wo ne 1] [] [] = exD D := by
  obtain ⟨h1, h2⟩ := eL_at hE
  unfold exD
  rw [clE_clM hE hC]
  congr 1
  · funext S
    rw [← h1]
    exact wsO_ext (fun e he => ⟨(h2 e he).1, (h2 e he).2.2.1⟩) S
  · funext S x
    rw [clE_clM hE hC]
    unfold fO
    rw [← h1, tgO_ext (fun e he => ⟨(h2 e he).1, (h2 e he).2.1, (h2 e he).2.2.1⟩)]
theorem pOK_ppk {f : Nat → Nat} {a n : Nat} (h : ∀ j, f j < 200) (hn : n ≤ 4) : pOK (ppk f a n) := by
  intro k hk
  rw [plen_ppk hn (fun j _ => h _)] at hk
  rw [ppk_dig h hk]
  have := h (a + k)
  omega
/-- how many borders lie ahead of a node -/
def bhK (mb : Nat → Nat) (nm q x : Nat) : Prop := ∃ k, k ≤ nm ∧ (∀ j, j < k → mb j < q) ∧ (k < nm → q ≤ mb k) ∧ x = nm - k
def picM (D : List Sg) (nn ne nm ns na np : Nat) (fr to : Nat → Nat) (wo : Nat → Int) (te ma mm : Nat → Nat) (ml : Nat → Int) (mt mb be ao se xf xw xt al co pm : Nat → Nat) (ia : Nat → Bool) (fl : Nat → Nat) : Prop :=
  (nm = D.length ∧ nm ≤ 16 ∧ ne ≤ 512 ∧ nn = lsB 0 D + 1 ∧ nn ≤ 401) ∧ sgC 0 D ∧ eL fr to wo te ne = D.flatMap Sg.es ∧ (∀ e, e < ne → te e ≤ 10) ∧ lst (fun k => (ma k, mm k, ml k, mt k, mb k)) nm = D.map (fun s => (s.at_, s.wd, s.lf, s.al, s.bd)) ∧ (∀ v, v < nn → bhK mb nm v (be v)) ∧
  ((lsS se ns, lsA xw xt na, (List.range ns).map xf, true) = exD D ∧ xf ns = na) ∧ (ns ≤ 300 ∧ ∀ s, s < ns → xf s ≤ xf (s + 1) ∧ xf (s + 1) ≤ 60000 ∧ ∀ k, xf s ≤ k → k < xf (s + 1) → xw k < 200 ∧ xt k < ns) ∧
  (np = plF fr to wo ne (nn - 1) ∧ np ≤ 64) ∧ (∀ q, q < np → pm q = cnA fr to wo ne q ∧ ∀ x, x < 200 → ia (200 * q + x) = atF fr to wo ne q x) ∧ (∀ q, q ≤ np → fl q = spG (fun p => cnA fr to wo ne p) (np - q) q) ∧
  (∀ q s, q ≤ np → s < ns → co (66 * s + q) = cmF (atF fr to wo ne) np (arL xf xw xt) (waE se (nn - 1)) (np - q) s) ∧ (∀ s, s < ns → al s = nA_ (arL xf xw xt) (waE se (nn - 1)) np s) ∧ ∀ v, v < nn → ao v = ahE fr to te (fun e => bdB mb nm (nn - 1) (fr e)) ne (nn - 1) ne v
theorem exS_pos {ws : Nat → List Nat} {f : Nat → Nat → Nat} : ∀ (n s : Nat) (L : List Nat) (A : List (Nat × Nat)) (St : List Nat), L.length ≤ (exS ws f n s L A St).1.length
  | 0, _, _, _, _ => Nat.le_refl _
  | n + 1, s, L, A, St => by
    cases hL : L[s]? with
    | none => unfold exS; rw [hL]; exact Nat.le_refl _
    | some S =>
      obtain ⟨L', A', ok, hw⟩ : ∃ L' A' ok, exW (f S) (ws S) L A = (L', A', ok) := ⟨_, _, _, rfl⟩
      rw [exS_go hL hw]
      have h1 := exW_pre hw
      cases ok with
      | true => exact Nat.le_trans h1 (exS_pos n (s + 1) L' A' _)
      | false => exact h1
/-- the arcs of the sets, out of their making -/
theorem exD_T {D : List Sg} {me aw at_ P : Nat → Nat} {cnt arcs : Nat} (hC : sgC 0 D) (h : (lsS me cnt, lsA aw at_ arcs, (List.range cnt).map P, true) = exD D) (hP : P cnt = arcs) : 0 < cnt ∧ arcs ≤ 60000 ∧ ∀ s, s < cnt → P s ≤ P (s + 1) ∧ P (s + 1) ≤ arcs ∧ (∀ k, P s ≤ k → k < P (s + 1) → (aw k < 200 ∧ at_ k < cnt) ∧ mS me (at_ k) = fO (frD D) (toD D) (woD D) (edD D).length (skD D) (boD D) D.length (mS me s) (aw k)) ∧ (List.range (P (s + 1) - P s)).map (fun k => aw (P s + k)) = wsO (frD D) (woD D) (edD D).length (mS me s) := by
  have h0 := h.symm
  unfold exD at h0
  have hs := exS_spec h0 rfl (arcOK_0 _ _ _)
  have hl : (lsA aw at_ arcs).length = arcs := lsA_len _ _ _
  rw [hl, show (List.range cnt).map P ++ [arcs] = (List.range (cnt + 1)).map P by rw [List.range_succ, List.map_append, ← hP]; rfl] at hs
  have ht := arcs_T hs
  have h1 := exS_pos (ws := wsO (frD D) (woD D) (edD D).length) (f := fO (frD D) (toD D) (woD D) (edD D).length (skD D) (boD D) D.length) 300 0 [clM (skD D) (boD D) D.length 1] [] []
  rw [h0] at h1
  have h2 := exD_len D
  rw [← h] at h2
  refine ⟨by rw [lsS_len] at h1; exact h1, by rw [Nat.zero_add] at h2; rw [← hl]; exact h2, fun s hs2 => ?_⟩
  obtain ⟨t1, t2, t3, t4⟩ := ht s hs2
  refine ⟨t1, t2, fun k k1 k2 => ⟨⟨?_, (t3 k k1 k2).1⟩, (t3 k k1 k2).2⟩, t4⟩
  have : aw k ∈ wsO (frD D) (woD D) (edD D).length (mS me s) := by
    rw [← t4]
    exact List.mem_map.mpr ⟨k - P s, List.mem_range.mpr (by omega), by rw [show P s + (k - P s) = k by omega]⟩
  exact List.mem_range.mp (List.mem_filter.mp this).1
