/-! THE PICTURE, 3: every set, its ways -/
theorem exW_all {f : Nat → Nat} {Q : Nat → Prop} : ∀ {ws L L2 : List Nat} {A A2 : List (Nat × Nat)} {ok : Bool}, exW f ws L A = (L2, A2, ok) → (∀ x ∈ L, Q x) → (∀ w ∈ ws, Q (f w)) → ∀ x ∈ L2, Q x
  | [], L, L2, A, A2, ok, h, hL, _ => by
    injection h with h1 h2
    rw [← h1]
    exact hL
  | w :: ws, L, L2, A, A2, ok, h, hL, hf => by
    cases hfd : fnd (fun k => L[k]? == some (f w)) L.length with
    | some t =>
      rw [exW_hit hfd] at h
      exact exW_all h hL (fun x hx => hf x (List.mem_cons_of_mem _ hx))
    | none =>
      rw [exW_new hfd] at h
      by_cases hl : L.length = 300
      · rw [if_pos hl] at h
        injection h with h1 h2
        rw [← h1]
        exact hL
      · rw [if_neg hl] at h
        refine exW_all h (fun x hx => ?_) (fun x hx => hf x (List.mem_cons_of_mem _ hx))
        rcases List.mem_append.mp hx with hx | hx
        · exact hL x hx
        · rw [List.mem_singleton.mp hx]
          exact hf w List.mem_cons_self
theorem exS_all {ws : Nat → List Nat} {f : Nat → Nat → Nat} {Q : Nat → Prop} (hf : ∀ S, Q S → ∀ w ∈ ws S, Q (f S w)) : ∀ {n s : Nat} {L L2 St St2 : List Nat} {A A2 : List (Nat × Nat)} {ok : Bool}, exS ws f n s L A St = (L2, A2, St2, ok) → (∀ x ∈ L, Q x) → ∀ x ∈ L2, Q x
  | 0, s, L, L2, St, St2, A, A2, ok, h, hL => by
    injection h with h1 h2
    rw [← h1]
    exact hL
  | n + 1, s, L, L2, St, St2, A, A2, ok, h, hL => by
    cases hS : L[s]? with
    | none =>
      rw [exS_end (List.getElem?_eq_none_iff.mp hS)] at h
      injection h with h1 h2
      rw [← h1]
      exact hL
    | some S =>
      obtain ⟨L', A', ok', hw⟩ : ∃ L' A' ok', exW (f S) (ws S) L A = (L', A', ok') := ⟨_, _, _, rfl⟩
      have hL' := exW_all (Q := Q) hw hL (hf S (hL S (List.mem_of_getElem? hS)))
      rw [exS_go hS hw] at h
      cases ok' with
      | true => exact exS_all hf h hL'
      | false =>
        injection h with h1 h2
        rw [← h1]
        exact hL'
theorem exS_pre {ws : Nat → List Nat} {f : Nat → Nat → Nat} : ∀ {n s : Nat} {L L2 St St2 : List Nat} {A A2 : List (Nat × Nat)}, exS ws f n s L A St = (L2, A2, St2, true) → ∃ M, L2 = L ++ M
  | 0, s, L, L2, St, St2, A, A2, h => by
    injection h with h1 h2
    exact ⟨[], by rw [List.append_nil]; exact h1.symm⟩
  | n + 1, s, L, L2, St, St2, A, A2, h => by
    cases hS : L[s]? with
    | none =>
      rw [exS_end (List.getElem?_eq_none_iff.mp hS)] at h
      injection h with h1 h2
      exact ⟨[], by rw [List.append_nil]; exact h1.symm⟩
    | some S =>
      obtain ⟨L', A', ok', hw⟩ : ∃ L' A' ok', exW (f S) (ws S) L A = (L', A', ok') := ⟨_, _, _, rfl⟩
      rw [exS_go hS hw] at h
      cases ok' with
      | true =>
        obtain ⟨M, h1⟩ := exS_pre h
        obtain ⟨M2, B, h2, _⟩ := exW_spec hw
        exact ⟨M2 ++ M, by rw [h1, h2, List.append_assoc]⟩
      | false =>
        injection h with h1 h2
        injection h2 with h2 h3
        injection h3 with h3 h4
        cases h4
theorem nodeE : ∀ (D : List Sg) (b : Nat), sgC b D → (∀ s ∈ D, sgX s) → ∀ v, b ≤ v → v < lsB b D → ∃ x ∈ edD D, x.1 = v
  | [], b, _, _, v, h1, h2 => absurd h2 (by show ¬ v < b; omega)
  | s :: D, b, hC, hX, v, h1, h2 => by
    rw [edD_cons]
    by_cases c : v < s.nx
    · obtain ⟨x, hx, hv⟩ := (hX s List.mem_cons_self).1 v (by have := hC.1; omega) c
      exact ⟨x, List.mem_append_left _ hx, hv⟩
    · obtain ⟨x, hx, hv⟩ := nodeE D s.nx hC.2.2 (fun t ht => hX t (List.mem_cons_of_mem _ ht)) v (by omega) h2
      exact ⟨x, List.mem_append_right _ hx, hv⟩
theorem edD_ix {D : List Sg} {x : Ed} (h : x ∈ edD D) : ∃ e, e < neD D ∧ frD D e = x.1 ∧ toD D e = x.2.1 ∧ woD D e = x.2.2.1 ∧ teD D e = x.2.2.2 := by
  obtain ⟨e, he, h1⟩ := List.mem_iff_getElem.mp h
  refine ⟨e, he, ?_⟩
  unfold frD toD woD teD
  rw [List.getElem?_eq_getElem he, h1]
  exact ⟨rfl, rfl, rfl, rfl⟩
theorem edD_at {D : List Sg} {e : Nat} (h : e < neD D) : (frD D e, toD D e, woD D e, teD D e) ∈ edD D := by
  unfold frD toD woD teD
  rw [List.getElem?_eq_getElem h]
  exact List.getElem_mem h
def QD (D : List Sg) (x : Nat) : Prop := (∃ v, v ≤ lsB 0 D ∧ x.testBit v = true) ∧ (∀ v, x.testBit v = true → v ≤ lsB 0 D) ∧ ∀ e, e < neD D → woD D e < 0 → x.testBit (frD D e) = true → x.testBit (toD D e) = true
theorem clE_le {fr to : Nat → Nat} {wo : Nat → Int} {T B : Nat} (hT : ∀ v, T.testBit v = true → v ≤ B) : ∀ {n : Nat}, (∀ e, e < n → to e ≤ B) → ∀ v, (clE fr to wo n T).testBit v = true → v ≤ B
  | 0, _, v, h => hT v h
  | n + 1, hb, v, h => by
    unfold clE at h
    split at h
    · rw [tb_or, Bool.or_eq_true, decide_eq_true_eq] at h
      rcases h with h | h
      · exact clE_le hT (fun e he => hb e (by omega)) v h
      · rw [← h]
        exact hb n (by omega)
    · exact clE_le hT (fun e he => hb e (by omega)) v h
theorem QD_cl {D : List Sg} (C : sgC 0 D) (l16 : D.length ≤ 16) {T : Nat} (h1 : ∃ v, v ≤ lsB 0 D ∧ T.testBit v = true) (h2 : ∀ v, T.testBit v = true → v ≤ lsB 0 D) : QD D (clD D T) := by
  have g := GM (eL_D D) C l16
  obtain ⟨v, hv, ht⟩ := h1
  exact ⟨⟨v, hv, clE_mono (n := 0) ht (Nat.zero_le _)⟩, clE_le h2 (fun e he => by have := (g.1 e he).1.2; omega), fun e he hw hf => clE_closed g.2.1 he hw hf⟩
theorem QD_f {D : List Sg} (C : sgC 0 D) (l16 : D.length ≤ 16) {S w : Nat} (hw : w ∈ wsO (frD D) (woD D) (neD D) S) : QD D (clD D (tgD D S w)) := by
  have g := GM (eL_D D) C l16
  refine QD_cl C l16 ?_ (fun v hv => ?_)
  · obtain ⟨_, h2⟩ := List.mem_filter.mp hw
    rw [List.any_eq_true] at h2
    obtain ⟨e, he, h3⟩ := h2
    rw [Bool.and_eq_true, beq_iff_eq] at h3
    exact ⟨toD D e, by have := (g.1 e (List.mem_range.mp he)).1.2; omega, tgO_bit.mpr ⟨e, List.mem_range.mp he, h3.1, h3.2, rfl⟩⟩
  · obtain ⟨e, he, _, _, rfl⟩ := tgO_bit.mp hv
    have := (g.1 e he).1.2
    omega
section
variable {D : List Sg} {me as_ aw at_ : Nat → Nat} {cnt arcs : Nat}
theorem AU.set (A : AU D me as_ aw at_ cnt arcs) {s : Nat} (hs : s < cnt) : QD D (mS me s) := by
  have h0 := A.h.symm
  unfold exD at h0
  refine exS_all (Q := QD D) (fun S _ w hw => ?_) h0 (fun x hx => ?_) (mS me s) (List.mem_map.mpr ⟨s, List.mem_range.mpr hs, rfl⟩)
  · show QD D (clM _ _ _ _)
    rw [← clE_clM (eL_D D) A.C]
    exact QD_f A.C A.l16 hw
  · rw [List.mem_singleton.mp hx, ← clE_clM (eL_D D) A.C]
    refine QD_cl A.C A.l16 ⟨0, Nat.zero_le _, by decide⟩ (fun v hv => ?_)
    cases v with
    | zero => exact Nat.zero_le _
    | succ v => simp [Nat.testBit_succ] at hv
theorem AU.S0 (A : AU D me as_ aw at_ cnt arcs) : mS me 0 = clD D 1 := by
  have h0 := A.h.symm
  unfold exD at h0
  obtain ⟨M, h1⟩ := exS_pre h0
  have h2 := lsS_at (me := me) A.pos
  rw [h1] at h2
  have h3 : clM (skD D) (boD D) D.length 1 = mS me 0 := by simpa using h2
  rw [← h3]
  exact (clE_clM (eL_D D) A.C _).symm
theorem AU.end_ (A : AU D me as_ aw at_ cnt arcs) (hX : ∀ s ∈ D, sgX s) {s : Nat} (hs : s < cnt) (h0 : arL as_ aw at_ s = []) : (mS me s).testBit (lsB 0 D) = true := by
  obtain ⟨⟨v, hv, h1⟩, _, hc⟩ := A.set hs
  have hw := A.words hs
  rw [h0] at hw
  have key : ∀ d v, lsB 0 D ≤ v + d → v ≤ lsB 0 D → (mS me s).testBit v = true → (mS me s).testBit (lsB 0 D) = true := by
    intro d
    induction d with
    | zero => intro v h1 h2 h3; rw [show lsB 0 D = v by omega]; exact h3
    | succ d ih =>
      intro v h1 h2 h3
      by_cases c : v = lsB 0 D
      · rw [← c]; exact h3
      · obtain ⟨x, hx, hxv⟩ := nodeE D 0 A.C hX v (Nat.zero_le _) (by omega)
        obtain ⟨e, he, e1, e2, e3, _⟩ := edD_ix hx
        have g := A.gm.1 e he
        by_cases c2 : woD D e < 0
        · exact ih (toD D e) (by omega) (by omega) (hc e he c2 (by rw [e1, hxv]; exact h3))
        · exfalso
          have : (woD D e).toNat ∈ wsO (frD D) (woD D) (neD D) (mS me s) := by
            refine List.mem_filter.mpr ⟨List.mem_range.mpr (by omega), ?_⟩
            rw [List.any_eq_true]
            refine ⟨e, List.mem_range.mpr he, ?_⟩
            rw [Bool.and_eq_true, beq_iff_eq, e1, hxv]
            exact ⟨by omega, h3⟩
          rw [← hw] at this
          cases this
  exact key (lsB 0 D) v (by omega) hv h1
theorem AU.fwpos (A : AU D me as_ aw at_ cnt arcs) (hX : ∀ s ∈ D, sgX s) {fa fw : Nat → Nat} (hf : ∀ s, s < cnt → (fa s, fw s) = ((arL as_ aw at_ s).map Prod.snd).foldl (stF fa fw) (0, waE me (lsB 0 D) s)) : ∀ d s, s < cnt → fa s < d → 0 < fw s
  | 0, s, hs, hd => absurd hd (by omega)
  | d + 1, s, hs, hd => by
    obtain ⟨f1, f2, f3, f4⟩ := stF_fold fa fw ((arL as_ aw at_ s).map Prod.snd) (0, waE me (lsB 0 D) s)
    rw [← hf s hs] at f1 f2 f3 f4
    dsimp only at f1 f2 f3 f4
    cases h0 : arL as_ aw at_ s with
    | nil =>
      have : (fa s, fw s) = (0, waE me (lsB 0 D) s) := by rw [hf s hs, h0]; rfl
      injection this with e1 e2
      rw [e2, A.ends, if_pos (A.end_ hX hs h0)]
      exact Nat.one_pos
    | cons p l =>
      have hp := f2 p.2 (List.mem_map.mpr ⟨p, by rw [h0]; exact List.mem_cons_self, rfl⟩)
      rcases f4 with f4 | ⟨t, ht, f4⟩
      · omega
      · obtain ⟨q, hq, rfl⟩ := List.mem_map.mp ht
        have ih := AU.fwpos A hX hf d q.2 (A.arc hs hq).1.2 (by omega)
        have hm := sumMem (f := fun t => if fa t + 1 = fa s then fw t else 0) ht
        (try dsimp only at hm)
        rw [if_pos f4] at hm
        omega
theorem AU.most (A : AU D me as_ aw at_ cnt arcs) (hX : ∀ s ∈ D, sgX s) {wy fa fw : Nat → Nat} (hw : ∀ s, s < cnt → wy s = waE me (lsB 0 D) s + ((arL as_ aw at_ s).map (fun p => wy p.2)).sum) (hf : ∀ s, s < cnt → (fa s, fw s) = ((arL as_ aw at_ s).map Prod.snd).foldl (stF fa fw) (0, waE me (lsB 0 D) s)) : ∀ d s, s < cnt → fa s < d → wy s ≤ bs (mS me s) (hB D) (lsB 0 D + 1)
  | 0, s, hs, hd => absurd hd (by omega)
  | d + 1, s, hs, hd => by
    obtain ⟨f1, f2, f3, f4⟩ := stF_fold fa fw ((arL as_ aw at_ s).map Prod.snd) (0, waE me (lsB 0 D) s)
    rw [← hf s hs] at f2
    dsimp only at f2
    refine Nat.le_trans ?_ (set_step A.C hX (mS me s))
    rw [hw s hs, A.ends, ← A.words hs, List.map_map]
    refine Nat.add_le_add_left (sumLe (fun p hp => ?_)) _
    have h2 := f2 p.2 (List.mem_map.mpr ⟨p, hp, rfl⟩)
    refine Nat.le_trans (AU.most A hX hw hf d p.2 (A.arc hs hp).1.2 (by omega)) ?_
    rw [(A.arc hs hp).2]
    exact Nat.le_refl _
theorem AU.wy_le (A : AU D me as_ aw at_ cnt arcs) (hX : ∀ s ∈ D, sgX s) {wy fa fw : Nat → Nat} (hw : ∀ s, s < cnt → wy s = waE me (lsB 0 D) s + ((arL as_ aw at_ s).map (fun p => wy p.2)).sum) (hf : ∀ s, s < cnt → (fa s, fw s) = ((arL as_ aw at_ s).map Prod.snd).foldl (stF fa fw) (0, waE me (lsB 0 D) s)) {s : Nat} (hs : s < cnt) : wy s ≤ 835943732695786721 := by
  refine Nat.le_trans (AU.most A hX hw hf (fa s + 1) s hs (by omega)) (Nat.le_trans (bs_most (M := 2084647712458321) (fun v => Nat.le_trans (hB_le D v) (Nat.le_trans (S9_mono A.l16) (by decide))) _) ?_)
  exact Nat.le_trans (Nat.mul_le_mul_right _ A.n4) (by decide)
end
