/-! THE PICTURE, 7: weights -/
def cwE (g : Nat → Nat) (x : Ed) : Nat → Nat := fun v => if v = x.2.1 ∧ x.2.2.1 < 0 then max (g v) (g x.1) else g v
def cwG (g : Nat → Nat) (s : Sg) : Nat → Nat := if s.es.any (fun x => decide (x.2.2.1 < 0)) = true then (fun v => if v = s.nx then max (g v) (g s.bd) else g v) else g
theorem clW_fold (fr to : Nat → Nat) (wo : Nat → Int) (te : Nat → Nat) (g : Nat → Nat) : ∀ n, clW fr to wo n g = (eL fr to wo te n).foldl cwE g
  | 0 => rfl
  | n + 1 => by
    show _ = (lst (fun e => (fr e, to e, wo e, te e)) (n + 1)).foldl cwE g
    rw [lst_succ, List.foldl_append]
    show clW fr to wo (n + 1) g = cwE ((eL fr to wo te n).foldl cwE g) _
    rw [← clW_fold fr to wo te g n]
    rfl
theorem cwE_seg {b nx : Nat} (hb : b < nx) : ∀ (es : List Ed) (g : Nat → Nat), (∀ x ∈ es, x.2.2.1 < 0 → x.1 = b ∧ x.2.1 = nx) → es.foldl cwE g = if es.any (fun x => decide (x.2.2.1 < 0)) = true then (fun v => if v = nx then max (g v) (g b) else g v) else g
  | [], g, _ => rfl
  | x :: es, g, h => by
    rw [List.foldl_cons, cwE_seg hb es _ (fun y hy => h y (List.mem_cons_of_mem _ hy)), List.any_cons]
    by_cases c : x.2.2.1 < 0
    · obtain ⟨h1, h2⟩ := h x List.mem_cons_self c
      have e0 : cwE g x = fun v => if v = nx then max (g v) (g b) else g v := by
        funext v
        show (if v = x.2.1 ∧ x.2.2.1 < 0 then max (g v) (g x.1) else g v) = _
        rw [h1, h2]
        by_cases c2 : v = nx
        · rw [if_pos ⟨c2, c⟩, if_pos c2]
        · rw [if_neg (fun h => c2 h.1), if_neg c2]
      rw [decide_eq_true c, Bool.true_or, if_pos rfl, e0]
      split
      · funext v
        dsimp only
        rw [if_neg (show ¬ b = nx by omega)]
        by_cases c2 : v = nx
        · rw [if_pos c2, if_pos c2]
          omega
        · rw [if_neg c2, if_neg c2]
      · rfl
    · have e0 : cwE g x = g := by
        funext v
        exact if_neg (fun h => c h.2)
      rw [decide_eq_false c, Bool.false_or, e0]
theorem cwE_segs : ∀ (D : List Sg) (b : Nat) (g : Nat → Nat), sgC b D → (D.flatMap Sg.es).foldl cwE g = D.foldl cwG g
  | [], _, _, _ => rfl
  | s :: D, b, g, h => by
    rw [List.flatMap_cons, List.foldl_append, List.foldl_cons, cwE_seg h.2.1.1 s.es g (fun x hx h1 => (h.2.1.2.1 x hx).2.2.2.2.2.1 h1)]
    exact cwE_segs D _ _ h.2.2
theorem clW_D {D : List Sg} {fr to : Nat → Nat} {wo : Nat → Int} {te : Nat → Nat} {ne : Nat} (hE : eL fr to wo te ne = D.flatMap Sg.es) (hC : sgC 0 D) (g : Nat → Nat) : clW fr to wo ne g = D.foldl cwG g := by
  rw [clW_fold fr to wo te g ne, hE, cwE_segs D 0 g hC]
theorem mxE_ext2 {ok ok' : Nat → Bool} {val val' to to' : Nat → Nat} : ∀ {n : Nat}, (∀ e, e < n → ok' e = ok e ∧ val' e = val e ∧ to' e = to e) → mxE ok' val' to' n = mxE ok val to n
  | 0, _ => rfl
  | n + 1, h => by
    obtain ⟨h1, h2, h3⟩ := h n (by omega)
    funext v
    unfold mxE
    rw [mxE_ext2 (fun e he => h e (by omega)), h1, h2, h3]
section
variable {D : List Sg} {P : PT}
theorem CP.seg (h : CP D P) {k : Nat} {s : Sg} (hk : D[k]? = some s) : (s ∈ D ∧ sgS s.bd s.nx s.es) ∧ sgX s := ⟨⟨List.mem_of_getElem? hk, sgC_mem h.C (List.mem_of_getElem? hk)⟩, h.X s (List.mem_of_getElem? hk)⟩
/-- the empty edge of a match: from its border to the next, tenths 10 -/
theorem CP.skE (h : CP D P) {k : Nat} {s : Sg} (hk : D[k]? = some s) (h0 : 0 ≤ p_sk P k) : p_fr P (p_sk P k).toNat = s.bd ∧ p_to P (p_sk P k).toNat = s.nx ∧ p_te P (p_sk P k).toNat = 10 ∧ p_wo P (p_sk P k).toNat < 0 ∧ (p_sk P k).toNat < p_ne P ∧ s.es.any (fun x => decide (x.2.2.1 < 0)) = true ∧ (p_fr P (p_sk P k).toNat, p_to P (p_sk P k).toNat, p_wo P (p_sk P k).toNat, p_te P (p_sk P k).toNat) ∈ s.es := by
  obtain ⟨e, h1, h2, h3, h4⟩ := (h.gr.2.2.2.2.2.1 k s hk).2 h0
  rw [h1]
  obtain ⟨⟨_, g1⟩, g2⟩ := h.seg hk
  have g3 := (g1.2.1 _ h3).2.2.2.2.2.1 h4
  have g4 := (g2.2.2 _ h3).2 h4
  refine ⟨g3.1, g3.2, g4, h4, h2, ?_, h3⟩
  rw [List.any_eq_true]
  exact ⟨_, h3, decide_eq_true h4⟩
theorem CP.skN (h : CP D P) {k : Nat} {s : Sg} (hk : D[k]? = some s) (h0 : ¬ 0 ≤ p_sk P k) : s.es.any (fun x => decide (x.2.2.1 < 0)) = false := by
  rw [List.any_eq_false]
  intro x hx
  have := ((h.gr.2.2.2.2.2.1 k s hk).1 (by omega)).2 x hx
  rw [decide_eq_true_eq]
  omega
theorem CP.skF_D (h : CP D P) (g : Nat → Nat) : ∀ n, n ≤ p_nm P → skF (alE false (p_hv P)) (p_fr P) (p_to P) (p_te P) (p_sk P) n g = (D.take n).foldl cwG g
  | 0, _ => by rw [List.take_zero]; rfl
  | n + 1, hn => by
    have ih := CP.skF_D h g n (by omega)
    have hl : n < D.length := by rw [← h.nm]; omega
    have hk : D[n]? = some D[n] := List.getElem?_eq_getElem hl
    rw [List.take_add_one, hk, List.foldl_append]
    unfold skF
    rw [ih]
    show _ = cwG ((D.take n).foldl cwG g) D[n]
    by_cases c : 0 ≤ p_sk P n
    · obtain ⟨e1, e2, e3, _, _, e6, _⟩ := h.skE hk c
      rw [if_pos c, e1, e2, e3]
      unfold cwG
      rw [if_pos e6]
      show alO (!false || _) _ _ _ = _
      unfold alO
      rw [Bool.not_false, Bool.true_or, if_pos rfl]
      funext v
      unfold va_up
      show (if v = D[n].nx then max _ (tnO _ 10) else _) = if v = D[n].nx then max _ _ else _
      by_cases c2 : v = D[n].nx
      · rw [if_pos c2, if_pos c2, c2]
        rfl
      · rw [if_neg c2, if_neg c2]
    · rw [if_neg c]
      unfold cwG
      rw [if_neg (by rw [h.skN hk c]; decide)]
theorem CP.skF_a (h : CP D P) (g : Nat → Nat) : skF (alE false (p_hv P)) (p_fr P) (p_to P) (p_te P) (p_sk P) (p_nm P) g = D.foldl cwG g := by
  rw [h.skF_D g _ (Nat.le_refl _), h.nm, List.take_length]
end
section
variable {D : List Sg} {P : PT} {m : MS}
theorem PP.clw (h : PP D P m) (g : Nat → Nat) : clW m.mfr m.mto m.mwo m.mne g = D.foldl cwG g := clW_D h.M.2.2.1 h.c.C g
theorem PP.wg0_ (h : PP D P m) : wg0 false (p_hv P) (p_fr P) (p_to P) (p_te P) (p_sk P) (p_nm P) = clW m.mfr m.mto m.mwo m.mne wgI := by
  rw [h.clw]
  exact h.c.skF_a _
theorem PP.wgG_ (h : PP D P m) (x : Int) (g : Nat → Nat) : wgG false (p_hv P) (p_fr P) (p_to P) (p_wo P) (p_te P) (p_sk P) (p_ne P) (p_nm P) x g = wgM m.mfr m.mto m.mwo m.mte m.mne x g := by
  unfold wgG wgM
  rw [h.c.skF_a, h.clw]
  congr 1
  rw [h.ne]
  refine (mxE_ext2 (fun e he => ?_)).symm
  obtain ⟨e1, e2, e3, e4⟩ := h.edP e he
  exact ⟨by rw [e3]; rfl, by rw [e1, e4], e2⟩
theorem PP.wgF_ (h : PP D P m) : ∀ (l : List Int) (g : Nat → Nat), wgF false (p_hv P) (p_fr P) (p_to P) (p_wo P) (p_te P) (p_sk P) (p_ne P) (p_nm P) l g = wgL (wgM m.mfr m.mto m.mwo m.mte m.mne) l g
  | [], _ => rfl
  | x :: l, g => by
    show wgF _ _ _ _ _ _ _ _ _ l _ = wgL _ l _
    rw [h.wgG_ x g, PP.wgF_ h l]
/-- where a weight stands the set has the node -/
theorem PP.cwG_pos {s : Sg} {g : Nat → Nat} {S : Nat} (h : ∀ v, 0 < g v → S.testBit v = true) : ∀ v, 0 < cwG g s v → (stS S s).testBit v = true := fun v hv => by
  unfold cwG at hv
  unfold stS
  by_cases c : s.es.any (fun x => decide (x.2.2.1 < 0)) = true
  · rw [if_pos c] at hv
    (try dsimp only at hv)
    by_cases c2 : v = s.nx
    · rw [if_pos c2] at hv
      by_cases c3 : 0 < g s.bd
      · rw [if_pos ⟨c, h _ c3⟩, tb_or, c2]
        simp
      · have := h v (by omega)
        split
        · rw [tb_or, this]; rfl
        · exact this
    · rw [if_neg c2] at hv
      have := h v hv
      split
      · rw [tb_or, this]; rfl
      · exact this
  · rw [if_neg c] at hv
    rw [if_neg (fun h => c h.1)]
    exact h v hv
theorem PP.cw_pos : ∀ (D : List Sg) {g : Nat → Nat} {S : Nat}, (∀ v, 0 < g v → S.testBit v = true) → ∀ v, 0 < D.foldl cwG g v → (D.foldl stS S).testBit v = true
  | [], _, _, h => h
  | s :: D, _, _, h => PP.cw_pos D (PP.cwG_pos h)
theorem PP.sup0 (h : PP D P m) : ∀ v, 0 < clW m.mfr m.mto m.mwo m.mne wgI v → (mS (p_me P) 0).testBit v = true := by
  rw [h.clw, h.c.au.S0, clD_fold h.c.C]
  refine PP.cw_pos D (fun v hv => ?_)
  have : v = 0 := by
    by_cases c : v = 0
    · exact c
    · have : wgI v = 0 := if_neg c
      omega
  subst this
  decide
theorem PP.supS (h : PP D P m) {s : Nat} (hs : s < p_cnt P) {g : Nat → Nat} (hg : ∀ v, 0 < g v → (mS (p_me P) s).testBit v = true) {p : Nat × Nat} (hp : p ∈ CP.ar P s) : ∀ v, 0 < wgM m.mfr m.mto m.mwo m.mte m.mne (p.1 : Int) g v → (mS (p_me P) p.2).testBit v = true := by
  rw [(h.c.au.arc hs hp).2, clD_fold h.c.C]
  unfold wgM
  rw [h.clw]
  refine PP.cw_pos D (fun v hv => ?_)
  rcases mxE_at (ok := fun e => m.mwo e == (p.1 : Int)) (val := fun e => tnO (g (m.mfr e)) (m.mte e)) (to := m.mto) (v := v) (n := m.mne) with h0 | ⟨e, he, ho, ht, hm⟩
  · rw [show mxW m.mfr m.mto m.mwo m.mte (p.1 : Int) g m.mne v = 0 from h0] at hv
    omega
  · obtain ⟨e1, e2, e3, e4⟩ := h.ed.2 e he
    rw [beq_iff_eq] at ho
    refine tgO_bit.mpr ⟨e, by rw [← h.ed.1]; exact he, by rw [← e3]; exact ho, ?_, by rw [← e2]; exact ht⟩
    rw [← e1]
    refine hg _ ?_
    rw [show mxW m.mfr m.mto m.mwo m.mte (p.1 : Int) g m.mne v = _ from hm] at hv
    by_cases c : 0 < g (m.mfr e)
    · exact c
    · have : g (m.mfr e) = 0 := by omega
      rw [this, tnO_0] at hv
      omega
theorem PP.lkR_ge {af : Nat → Int → Option Nat} {en : Nat → Nat} : ∀ {l : List Int} {o : Option Nat} {k : Nat} {r : Nat × Nat}, r.1 ≤ k → r.1 ≤ (lkR af en l o k r).1
  | [], _, k, r, h => Nat.le_refl _
  | x :: xs, none, k, r, h => by rw [lkR_none]; exact Nat.le_refl _
  | x :: xs, some s, k, r, h => by
    rw [lkR_some]
    cases af s x with
    | none => rw [lkR_none]; exact Nat.le_refl _
    | some t =>
      dsimp only
      by_cases c : en t = 1
      · rw [if_pos c]
        have := PP.lkR_ge (af := af) (en := en) (l := xs) (o := some t) (k := k + 1) (r := (k + 1, r.2 + 1)) (Nat.le_refl _)
        dsimp only at this
        omega
      · rw [if_neg c]
        exact PP.lkR_ge (by omega)
/-- a hit's weight: the reference goes on to the end of the document, the class to the last word of the longest -/
theorem PP.hw (h : PP D P m) : ∀ (l : List Int) (s k : Nat) (g : Nat → Nat) (b : Nat) (r : Nat × Nat), s < p_cnt P → (∀ v, 0 < g v → (mS (p_me P) s).testBit v = true) → r.1 ≤ k → hwT (afO m.mxf m.mxw m.mxt) (waE m.mse (m.mnn - 1)) (wgM m.mfr m.mto m.mwo m.mte m.mne) (m.mnn - 1) l (some s) g b = hwF false (p_hv P) (p_fr P) (p_to P) (p_wo P) (p_te P) (p_sk P) (p_ne P) (p_nm P) (p_nn P - 1) (l.take ((lkR (afO (p_as_ P) (p_aw P) (p_at_ P)) (waE (p_me P) (p_ln P)) l (some s) k r).1 - k)) g b
  | [], s, k, g, b, r, hs, hg, hr => by
    rw [List.take_nil]
    rfl
  | x :: l, s, k, g, b, r, hs, hg, hr => by
    rw [lkR_some]
    unfold hwT
    rw [h.afE hs]
    cases hx : afO (p_as_ P) (p_aw P) (p_at_ P) s x with
    | none =>
      rw [lkR_none]
      show b = hwF _ _ _ _ _ _ _ _ _ _ (List.take (r.1 - k) (x :: l)) g b
      rw [show r.1 - k = 0 by omega, List.take_zero]
      rfl
    | some t =>
      obtain ⟨w, hw1, ht, ht2⟩ := h.c.au.afT hs hx
      have hg2 := h.supS hs hg ht
      dsimp only at hg2
      rw [← hw1] at hg2
      dsimp only
      have hz : ¬ waE (p_me P) (p_ln P) t = 1 → wgM m.mfr m.mto m.mwo m.mte m.mne x g (m.mnn - 1) = 0 := fun hn => by
        by_cases c : 0 < wgM m.mfr m.mto m.mwo m.mte m.mne x g (m.mnn - 1)
        · exfalso
          apply hn
          have := hg2 _ c
          rw [h.nn'] at this
          rw [h.c.ln, h.c.au.ends, if_pos this]
        · omega
      have hr2 : (if waE (p_me P) (p_ln P) t = 1 then (k + 1, r.2 + 1) else r).1 ≤ k + 1 := by
        split
        · exact Nat.le_refl _
        · omega
      have ih := PP.hw h l t (k + 1) (wgM m.mfr m.mto m.mwo m.mte m.mne x g) (if waE m.mse (m.mnn - 1) t = 1 then max b (wgM m.mfr m.mto m.mwo m.mte m.mne x g (m.mnn - 1)) else b) _ ht2 hg2 hr2
      rw [ih, h.enE ht2]
      have hge := PP.lkR_ge (af := afO (p_as_ P) (p_aw P) (p_at_ P)) (en := waE (p_me P) (p_ln P)) (l := l) (o := some t) hr2
      generalize lkR (afO (p_as_ P) (p_aw P) (p_at_ P)) (waE (p_me P) (p_ln P)) l (some t) (k + 1) (if waE (p_me P) (p_ln P) t = 1 then (k + 1, r.2 + 1) else r) = R at hge ⊢
      by_cases c : k + 1 ≤ R.1
      · rw [show R.1 - k = (R.1 - (k + 1)) + 1 by omega, List.take_succ_cons]
        show _ = hwF _ _ _ _ _ _ _ _ _ _ _ (wgG _ _ _ _ _ _ _ _ _ x g) (max b (wgG _ _ _ _ _ _ _ _ _ x g (p_nn P - 1)))
        rw [h.wgG_, ← h.nnP]
        congr 1
        by_cases c2 : waE (p_me P) (p_ln P) t = 1
        · rw [if_pos c2]
        · rw [if_neg c2, hz c2]
          omega
      · rw [show R.1 - (k + 1) = 0 by omega, show R.1 - k = 0 by omega, List.take_zero, List.take_zero]
        show (if _ then _ else b) = b
        by_cases c2 : waE (p_me P) (p_ln P) t = 1
        · rw [if_pos c2] at hge
          dsimp only at hge
          omega
        · rw [if_neg c2]
end
