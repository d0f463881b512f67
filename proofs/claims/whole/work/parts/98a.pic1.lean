/-! THE PICTURE, 1: the sets of a list of segments, their words -/
theorem eL_D (D : List Sg) : eL (frD D) (toD D) (woD D) (teD D) (edD D).length = D.flatMap Sg.es := by
  refine List.ext_getElem? (fun i => ?_)
  show (lst (fun e => (frD D e, toD D e, woD D e, teD D e)) (edD D).length)[i]? = (edD D)[i]?
  by_cases h : i < (edD D).length
  · rw [lst_get _ h]
    unfold frD toD woD teD
    rw [List.getElem?_eq_getElem h]
    rfl
  · rw [List.getElem?_eq_none (by rw [lst_len]; omega), List.getElem?_eq_none (by omega)]
theorem sumA {α : Type} (f g : α → Nat) : ∀ l : List α, (l.map (fun x => f x + g x)).sum = (l.map f).sum + (l.map g).sum
  | [] => rfl
  | a :: l => by
    rw [List.map_cons, List.map_cons, List.map_cons, List.sum_cons, List.sum_cons, List.sum_cons, sumA f g l]
    omega
theorem sumE {α : Type} {f g : α → Nat} : ∀ {l : List α}, (∀ x ∈ l, f x = g x) → (l.map f).sum = (l.map g).sum
  | [], _ => rfl
  | a :: l, h => by
    rw [List.map_cons, List.map_cons, List.sum_cons, List.sum_cons, h a List.mem_cons_self, sumE (fun x hx => h x (List.mem_cons_of_mem _ hx))]
theorem sumLe {α : Type} {f g : α → Nat} : ∀ {l : List α}, (∀ x ∈ l, f x ≤ g x) → (l.map f).sum ≤ (l.map g).sum
  | [], _ => Nat.le_refl _
  | a :: l, h => by
    rw [List.map_cons, List.map_cons, List.sum_cons, List.sum_cons]
    exact Nat.add_le_add (h a List.mem_cons_self) (sumLe (fun x hx => h x (List.mem_cons_of_mem _ hx)))
theorem sum0 {α : Type} {f : α → Nat} {l : List α} (h : ∀ x ∈ l, f x = 0) : (l.map f).sum = 0 := by
  rw [sumE (g := fun _ => 0) h]
  induction l with
  | nil => rfl
  | cons a l ih => rw [List.map_cons, List.sum_cons, ih (fun x hx => h x (List.mem_cons_of_mem _ hx))]
theorem sumPos {α : Type} {f : α → Nat} : ∀ {l : List α}, 0 < (l.map f).sum → ∃ x ∈ l, 0 < f x
  | [], h => by simp at h
  | a :: l, h => by
    rw [List.map_cons, List.sum_cons] at h
    by_cases ha : 0 < f a
    · exact ⟨a, List.mem_cons_self, ha⟩
    · obtain ⟨x, hx, h2⟩ := sumPos (f := f) (l := l) (by omega)
      exact ⟨x, List.mem_cons_of_mem _ hx, h2⟩
theorem sumMem {α : Type} {f : α → Nat} : ∀ {l : List α} {x : α}, x ∈ l → f x ≤ (l.map f).sum
  | a :: l, x, h => by
    rw [List.map_cons, List.sum_cons]
    rcases List.mem_cons.mp h with rfl | h
    · omega
    · have := sumMem (f := f) h
      omega
theorem nA_s (ar : Nat → List (Nat × Nat)) (en : Nat → Nat) (s : Nat) : ∀ k, nA_ ar en (k + 1) s = en s + ((ar s).map (fun p => nA_ ar en k p.2)).sum
  | 0 => rfl
  | k + 1 => by
    show nA_ ar en (k + 1) s + nK ar en (k + 2) s = _
    rw [nA_s ar en s k, show nK ar en (k + 2) s = ((ar s).map (fun p => nK ar en (k + 1) p.2)).sum from rfl, Nat.add_assoc, ← sumA]
    rfl
theorem waS_sum (wy : Nat → Nat) : ∀ (l : List Nat) (e : Nat), waS wy e l = e + (l.map wy).sum
  | [], e => rfl
  | a :: l, e => by
    show waS wy (e + wy a) l = _
    rw [waS_sum wy l, List.map_cons, List.sum_cons]
    omega
theorem tl_arL (as_ aw at_ : Nat → Nat) (s : Nat) : tl as_ at_ s = (arL as_ aw at_ s).map Prod.snd := by
  unfold tl arL
  rw [List.map_map]
  rfl
theorem stF_fold (fa fw : Nat → Nat) : ∀ (l : List Nat) (p : Nat × Nat), p.1 ≤ (l.foldl (stF fa fw) p).1 ∧ (∀ t ∈ l, fa t + 1 ≤ (l.foldl (stF fa fw) p).1) ∧ (l.foldl (stF fa fw) p).2 = (if p.1 = (l.foldl (stF fa fw) p).1 then p.2 else 0) + (l.map (fun t => if fa t + 1 = (l.foldl (stF fa fw) p).1 then fw t else 0)).sum ∧ ((l.foldl (stF fa fw) p).1 = p.1 ∨ ∃ t ∈ l, fa t + 1 = (l.foldl (stF fa fw) p).1)
  | [], p => ⟨Nat.le_refl _, fun t h => (by cases h), (by simp), Or.inl rfl⟩
  | t :: l, p => by
    rw [List.foldl_cons]
    have ih := stF_fold fa fw l (stF fa fw p t)
    generalize hr : l.foldl (stF fa fw) (stF fa fw p t) = r at ih ⊢
    obtain ⟨h1, h2, h3, h4⟩ := ih
    rw [List.map_cons, List.sum_cons]
    have hc : (p.1 < fa t + 1 ∧ stF fa fw p t = (fa t + 1, fw t)) ∨ (fa t + 1 = p.1 ∧ stF fa fw p t = (p.1, p.2 + fw t)) ∨ (fa t + 1 < p.1 ∧ stF fa fw p t = p) := by
      unfold stF
      by_cases c1 : p.1 < fa t + 1
      · exact Or.inl ⟨c1, if_pos c1⟩
      · rw [if_neg c1]
        by_cases c2 : fa t + 1 = p.1
        · exact Or.inr (Or.inl ⟨c2, if_pos c2⟩)
        · exact Or.inr (Or.inr ⟨by omega, if_neg c2⟩)
    have hm : ∀ u ∈ t :: l, fa t + 1 ≤ r.1 → fa u + 1 ≤ r.1 := fun u hu ht => by
      rcases List.mem_cons.mp hu with rfl | hu
      · exact ht
      · exact h2 u hu
    have h4' : r.1 = (stF fa fw p t).1 ∨ ∃ u ∈ t :: l, fa u + 1 = r.1 := h4.imp id (fun ⟨u, h5, h6⟩ => ⟨u, List.mem_cons_of_mem _ h5, h6⟩)
    rcases hc with ⟨c, e⟩ | ⟨c, e⟩ | ⟨c, e⟩
    · rw [e] at h1 h3 h4'
      dsimp only at h1 h3 h4'
      refine ⟨by omega, fun u hu => hm u hu h1, ?_, Or.inr (h4'.elim (fun h => ⟨t, List.mem_cons_self, h.symm⟩) id)⟩
      rw [h3, if_neg (show ¬ p.1 = r.1 by omega)]
      omega
    · rw [e] at h1 h3 h4'
      dsimp only at h1 h3 h4'
      refine ⟨h1, fun u hu => hm u hu (by omega), ?_, h4'⟩
      rw [h3]
      by_cases c3 : p.1 = r.1
      · rw [if_pos c3, if_pos c3, if_pos (by omega)]
        omega
      · rw [if_neg c3, if_neg c3, if_neg (by omega)]
        omega
    · rw [e] at h1 h3 h4'
      refine ⟨h1, fun u hu => hm u hu (by omega), ?_, h4'⟩
      rw [h3, if_neg (show ¬ fa t + 1 = r.1 by omega)]
      omega
/-- the longest, their number, the number of all: out of the words of each length -/
theorem nK_all {ar : Nat → List (Nat × Nat)} {en wy fa fw : Nat → Nat} {cnt : Nat} (hr : ∀ s, s < cnt → ∀ p ∈ ar s, p.2 < cnt) (hw : ∀ s, s < cnt → wy s = en s + ((ar s).map (fun p => wy p.2)).sum) (hf : ∀ s, s < cnt → (fa s, fw s) = ((ar s).map Prod.snd).foldl (stF fa fw) (0, en s)) :
    ∀ d s, s < cnt → fa s < d → (∀ k, fa s < k → nK ar en k s = 0) ∧ fw s = nK ar en (fa s) s ∧ ∀ K, fa s ≤ K → nA_ ar en K s = wy s
  | 0, s, hs, hd => absurd hd (by omega)
  | d + 1, s, hs, hd => by
    obtain ⟨f1, f2, f3, _⟩ := stF_fold fa fw ((ar s).map Prod.snd) (0, en s)
    rw [← hf s hs] at f1 f2 f3
    dsimp only at f1 f2 f3
    have f2' : ∀ p ∈ ar s, fa p.2 + 1 ≤ fa s := fun p hp => f2 p.2 (List.mem_map.mpr ⟨p, hp, rfl⟩)
    have ih : ∀ p ∈ ar s, (∀ k, fa p.2 < k → nK ar en k p.2 = 0) ∧ fw p.2 = nK ar en (fa p.2) p.2 ∧ ∀ K, fa p.2 ≤ K → nA_ ar en K p.2 = wy p.2 := fun p hp => nK_all hr hw hf d p.2 (hr s hs p hp) (by have := f2' p hp; omega)
    refine ⟨fun k hk => ?_, ?_, fun K hK => ?_⟩
    · cases k with
      | zero => omega
      | succ k =>
        refine sum0 (fun p hp => ?_)
        have := f2' p hp
        exact (ih p hp).1 k (by omega)
    · rw [f3, List.map_map]
      cases h0 : ar s with
      | nil =>
        have : (fa s, fw s) = (0, en s) := by rw [hf s hs, h0]; rfl
        injection this with e1 e2
        rw [e1]
        show (if 0 = 0 then en s else 0) + 0 = en s
        simp
      | cons p l =>
        have hpos := f2' p (by rw [h0]; exact List.mem_cons_self)
        rw [if_neg (show ¬ 0 = fa s by omega), Nat.zero_add, ← h0]
        obtain ⟨m, hm⟩ : ∃ m, fa s = m + 1 := ⟨fa s - 1, by omega⟩
        rw [hm]
        show _ = ((ar s).map (fun p => nK ar en m p.2)).sum
        refine sumE (fun q hq => ?_)
        show (if fa q.2 + 1 = m + 1 then fw q.2 else 0) = _
        have hq2 := f2' q hq
        by_cases c : fa q.2 = m
        · rw [if_pos (by omega), (ih q hq).2.1, c]
        · rw [if_neg (by omega)]
          exact ((ih q hq).1 m (by omega)).symm
    · cases K with
      | zero =>
        cases h0 : ar s with
        | nil =>
          rw [hw s hs, h0]
          rfl
        | cons p l =>
          have hpos := f2' p (by rw [h0]; exact List.mem_cons_self)
          omega
      | succ K =>
        rw [nA_s, hw s hs]
        congr 1
        refine sumE (fun p hp => ?_)
        have := f2' p hp
        exact (ih p hp).2.2 K (by omega)
/-- the sets' rows, out of the segments -/
def AU (D : List Sg) (me as_ aw at_ : Nat → Nat) (cnt arcs : Nat) : Prop := (sgC 0 D) ∧ (D.length ≤ 16) ∧ (lsB 0 D + 1 ≤ 401) ∧ ((lsS me cnt, lsA aw at_ arcs, (List.range cnt).map as_, true) = exD D) ∧ (as_ cnt = arcs) ∧ (∀ j, me j < 18446744073709551616)
theorem AU.C {D : List Sg} {me as_ aw at_ : Nat → Nat} {cnt arcs : Nat} (h_ : AU D me as_ aw at_ cnt arcs) : sgC 0 D := h_.1
theorem AU.l16 {D : List Sg} {me as_ aw at_ : Nat → Nat} {cnt arcs : Nat} (h_ : AU D me as_ aw at_ cnt arcs) : D.length ≤ 16 := h_.2.1
theorem AU.n4 {D : List Sg} {me as_ aw at_ : Nat → Nat} {cnt arcs : Nat} (h_ : AU D me as_ aw at_ cnt arcs) : lsB 0 D + 1 ≤ 401 := h_.2.2.1
theorem AU.h {D : List Sg} {me as_ aw at_ : Nat → Nat} {cnt arcs : Nat} (h_ : AU D me as_ aw at_ cnt arcs) : (lsS me cnt, lsA aw at_ arcs, (List.range cnt).map as_, true) = exD D := h_.2.2.2.1
theorem AU.hP {D : List Sg} {me as_ aw at_ : Nat → Nat} {cnt arcs : Nat} (h_ : AU D me as_ aw at_ cnt arcs) : as_ cnt = arcs := h_.2.2.2.2.1
theorem AU.me64 {D : List Sg} {me as_ aw at_ : Nat → Nat} {cnt arcs : Nat} (h_ : AU D me as_ aw at_ cnt arcs) : ∀ j, me j < 18446744073709551616 := h_.2.2.2.2.2
abbrev neD (D : List Sg) : Nat := (edD D).length
abbrev PLD (D : List Sg) : Nat → Nat := plF (frD D) (toD D) (woD D) (neD D)
abbrev clD (D : List Sg) (S : Nat) : Nat := clE (frD D) (toD D) (woD D) (neD D) S
abbrev tgD (D : List Sg) (S w : Nat) : Nat := tgO (frD D) (toD D) (woD D) S w (neD D)
theorem PLD_e {D : List Sg} (C : sgC 0 D) (l16 : D.length ≤ 16) {e : Nat} (he : e < neD D) : PLD D (frD D e) + (if 0 ≤ woD D e then 1 else 0) ≤ PLD D (toD D e) := plF_fix (GM (eL_D D) C l16).2.1 he
theorem clE_from {fr to PL : Nat → Nat} {wo : Nat → Int} {T v : Nat} : ∀ {n : Nat}, (∀ e, e < n → wo e < 0 → PL (fr e) ≤ PL (to e)) → (clE fr to wo n T).testBit v = true → ∃ u, T.testBit u = true ∧ PL u ≤ PL v
  | 0, _, h => ⟨v, h, Nat.le_refl _⟩
  | n + 1, hp, h => by
    unfold clE at h
    by_cases c : wo n < 0 ∧ (clE fr to wo n T).testBit (fr n) = true
    · rw [if_pos c, tb_or, Bool.or_eq_true, decide_eq_true_eq] at h
      rcases h with h | h
      · exact clE_from (fun e he => hp e (by omega)) h
      · obtain ⟨u, h1, h2⟩ := clE_from (fun e he => hp e (by omega)) c.2
        exact ⟨u, h1, by have := hp n (by omega) c.1; rw [← h]; omega⟩
    · rw [if_neg c] at h
      exact clE_from (fun e he => hp e (by omega)) h
theorem clE_mono {fr to : Nat → Nat} {wo : Nat → Int} {T v n : Nat} (h : (clE fr to wo n T).testBit v = true) : ∀ {m : Nat}, n ≤ m → (clE fr to wo m T).testBit v = true
  | 0, hm => by rw [show n = 0 by omega] at h; exact h
  | m + 1, hm => by
    by_cases c : n = m + 1
    · rw [← c]; exact h
    · have := clE_mono h (m := m) (by omega)
      unfold clE
      split
      · rw [tb_or, this]; rfl
      · exact this
theorem clE_back {fr to : Nat → Nat} {wo : Nat → Int} {T e : Nat} : ∀ {m : Nat}, (∀ f, e ≤ f → f < m → to f ≠ fr e) → e ≤ m → (clE fr to wo m T).testBit (fr e) = true → (clE fr to wo e T).testBit (fr e) = true
  | 0, _, hm, h => by rw [show e = 0 by omega] at h ⊢; exact h
  | m + 1, hf, hm, h => by
    by_cases c : e = m + 1
    · rw [← c] at h; exact h
    · refine clE_back (m := m) (fun f h1 h2 => hf f h1 (by omega)) (by omega) ?_
      unfold clE at h
      split at h
      · rw [tb_or, Bool.or_eq_true, decide_eq_true_eq] at h
        exact h.resolve_right (hf m (by omega) (by omega))
      · exact h
theorem clE_closed {fr to : Nat → Nat} {wo : Nat → Int} {T ne e : Nat} (ho : ordE fr to ne) (he : e < ne) (hw : wo e < 0) (h : (clE fr to wo ne T).testBit (fr e) = true) : (clE fr to wo ne T).testBit (to e) = true := by
  have h1 := clE_back (m := ne) (fun f h1 h2 h3 => by have := ho f e h2 he h3; omega) (by omega) h
  refine clE_mono (n := e + 1) ?_ (by omega)
  unfold clE
  rw [if_pos ⟨hw, h1⟩, tb_or]
  simp
theorem arL_mem {as_ aw at_ : Nat → Nat} {s : Nat} {p : Nat × Nat} (h : p ∈ arL as_ aw at_ s) : ∃ k, as_ s ≤ k ∧ k < as_ (s + 1) ∧ p = (aw k, at_ k) := by
  obtain ⟨k, hk, rfl⟩ := List.mem_map.mp h
  have := List.mem_range.mp hk
  exact ⟨as_ s + k, by omega, by omega, rfl⟩
theorem arL_in {as_ aw at_ : Nat → Nat} {s k : Nat} (h1 : as_ s ≤ k) (h2 : k < as_ (s + 1)) : (aw k, at_ k) ∈ arL as_ aw at_ s :=
  List.mem_map.mpr ⟨k - as_ s, List.mem_range.mpr (by omega), by rw [show as_ s + (k - as_ s) = k by omega]⟩
section
variable {D : List Sg} {me as_ aw at_ : Nat → Nat} {cnt arcs : Nat}
theorem AU.gm (A : AU D me as_ aw at_ cnt arcs) : (∀ e, e < neD D → (frD D e < toD D e ∧ toD D e < lsB 0 D + 1) ∧ -2 ≤ woD D e ∧ woD D e < 200) ∧ ordE (frD D) (toD D) (neD D) ∧ ∀ e v, e ≤ neD D → plF (frD D) (toD D) (woD D) e v ≤ 64 := GM (eL_D D) A.C A.l16
theorem AU.pos (A : AU D me as_ aw at_ cnt arcs) : 0 < cnt := (exD_T A.C A.h A.hP).1
theorem AU.arc (A : AU D me as_ aw at_ cnt arcs) {s : Nat} (hs : s < cnt) {p : Nat × Nat} (hp : p ∈ arL as_ aw at_ s) : (p.1 < 200 ∧ p.2 < cnt) ∧ mS me p.2 = clD D (tgD D (mS me s) p.1) := by
  obtain ⟨k, h1, h2, rfl⟩ := arL_mem hp
  have := ((exD_T A.C A.h A.hP).2.2 s hs).2.2.1 k h1 h2
  refine ⟨this.1, ?_⟩
  rw [this.2]
  exact (clE_clM (eL_D D) A.C _).symm
theorem AU.words (A : AU D me as_ aw at_ cnt arcs) {s : Nat} (hs : s < cnt) : (arL as_ aw at_ s).map Prod.fst = wsO (frD D) (woD D) (neD D) (mS me s) := by
  rw [← ((exD_T A.C A.h A.hP).2.2 s hs).2.2.2]
  unfold arL
  rw [List.map_map]
  rfl
theorem AU.ends (A : AU D me as_ aw at_ cnt arcs) (s : Nat) : waE me (lsB 0 D) s = if (mS me s).testBit (lsB 0 D) = true then 1 else 0 := by
  have := A.n4
  unfold waE
  rw [sB_mS A.me64 s (by omega)]
theorem AU.arcE (A : AU D me as_ aw at_ cnt arcs) {s v : Nat} (hs : s < cnt) {p : Nat × Nat} (hp : p ∈ arL as_ aw at_ s) (hv : (mS me p.2).testBit v = true) : ∃ e, e < neD D ∧ woD D e = (p.1 : Int) ∧ (mS me s).testBit (frD D e) = true ∧ PLD D (frD D e) + 1 ≤ PLD D v := by
  rw [(A.arc hs hp).2] at hv
  obtain ⟨u, h1, h2⟩ := clE_from (PL := PLD D) (fun e he hw => by have := PLD_e A.C A.l16 he; omega) hv
  obtain ⟨e, he, hw, hf, ht⟩ := tgO_bit.mp h1
  refine ⟨e, he, hw, hf, ?_⟩
  have := PLD_e A.C A.l16 he
  rw [if_pos (by omega), ht] at this
  omega
theorem AU.deep (A : AU D me as_ aw at_ cnt arcs) : ∀ (k s : Nat), s < cnt → 0 < nK (arL as_ aw at_) (waE me (lsB 0 D)) k s → ∃ v, (mS me s).testBit v = true ∧ PLD D v + k ≤ PLD D (lsB 0 D)
  | 0, s, hs, h => by
    have h1 : 0 < waE me (lsB 0 D) s := h
    rw [A.ends] at h1
    by_cases c : (mS me s).testBit (lsB 0 D) = true
    · exact ⟨_, c, Nat.le_refl _⟩
    · rw [if_neg c] at h1
      omega
  | k + 1, s, hs, h => by
    obtain ⟨p, hp, h1⟩ := sumPos (l := arL as_ aw at_ s) (f := fun p : Nat × Nat => nK (arL as_ aw at_) (waE me (lsB 0 D)) k p.2) h
    obtain ⟨v, h2, h3⟩ := AU.deep A k p.2 (A.arc hs hp).1.2 h1
    obtain ⟨e, _, _, h4, h5⟩ := A.arcE hs hp h2
    exact ⟨_, h4, by omega⟩
/-- the words that a prefix of n words may still have -/
def AU.Rc (D : List Sg) (me : Nat → Nat) (n s : Nat) : Prop := ∀ v, (mS me s).testBit v = true → n ≤ PLD D v
theorem AU.Rc0 (D : List Sg) (me : Nat → Nat) (s : Nat) : AU.Rc D me 0 s := fun _ _ => Nat.zero_le _
theorem AU.RcS (A : AU D me as_ aw at_ cnt arcs) {n s : Nat} (hs : s < cnt) {p : Nat × Nat} (hp : p ∈ arL as_ aw at_ s) (h : AU.Rc D me n s) : AU.Rc D me (n + 1) p.2 := fun v hv => by
  obtain ⟨e, _, _, h4, h5⟩ := A.arcE hs hp hv
  have := h _ h4
  omega
theorem AU.far (A : AU D me as_ aw at_ cnt arcs) {n s k : Nat} (hs : s < cnt) (h : AU.Rc D me n s) (hk : 0 < nK (arL as_ aw at_) (waE me (lsB 0 D)) k s) : n + k ≤ PLD D (lsB 0 D) := by
  obtain ⟨v, h1, h2⟩ := A.deep k s hs hk
  have := h v h1
  omega
theorem AU.stands (A : AU D me as_ aw at_ cnt arcs) {n s k : Nat} (hs : s < cnt) (h : AU.Rc D me n s) {p : Nat × Nat} (hp : p ∈ arL as_ aw at_ s) (hk : 0 < nK (arL as_ aw at_) (waE me (lsB 0 D)) k p.2) (hn : n + (k + 1) = PLD D (lsB 0 D)) : atF (frD D) (toD D) (woD D) (neD D) n p.1 = true := by
  obtain ⟨v, h1, h2⟩ := A.deep k p.2 (A.arc hs hp).1.2 hk
  obtain ⟨e, he, hw, h4, h5⟩ := A.arcE hs hp h1
  have := h _ h4
  unfold atF
  rw [List.any_eq_true]
  refine ⟨e, List.mem_range.mpr he, ?_⟩
  rw [Bool.and_eq_true, beq_iff_eq, beq_iff_eq]
  refine ⟨hw, ?_⟩
  rw [← plF_at A.gm.2.1 he]
  show PLD D (frD D e) = n
  omega
theorem AU.cm (A : AU D me as_ aw at_ cnt arcs) : ∀ (j s : Nat), s < cnt → j ≤ PLD D (lsB 0 D) → AU.Rc D me (PLD D (lsB 0 D) - j) s → cmF (atF (frD D) (toD D) (woD D) (neD D)) (PLD D (lsB 0 D)) (arL as_ aw at_) (waE me (lsB 0 D)) j s = nK (arL as_ aw at_) (waE me (lsB 0 D)) j s
  | 0, s, _, _, _ => rfl
  | j + 1, s, hs, hj, h => by
    refine sumE (fun p hp => ?_)
    have hR := A.RcS hs hp h
    rw [show PLD D (lsB 0 D) - (j + 1) + 1 = PLD D (lsB 0 D) - j by omega] at hR
    have ih := AU.cm A j p.2 (A.arc hs hp).1.2 (by omega) hR
    by_cases c : 0 < nK (arL as_ aw at_) (waE me (lsB 0 D)) j p.2
    · rw [if_pos (A.stands hs h hp c (by omega))]
      exact ih
    · split
      · exact ih
      · omega
end
