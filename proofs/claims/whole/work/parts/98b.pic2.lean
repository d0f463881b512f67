/-! THE PICTURE, 2: how many words there may be -/
def S9 : Nat → Nat
  | 0 => 1
  | k + 1 => S9 k + 9 ^ (k + 1)
theorem S9_8 : ∀ k, 8 * S9 k + 1 = 9 ^ (k + 1)
  | 0 => rfl
  | k + 1 => by
    have := S9_8 k
    show 8 * (S9 k + 9 ^ (k + 1)) + 1 = 9 ^ (k + 1 + 1)
    rw [Nat.pow_succ 9 (k + 1)]
    omega
theorem S9_mono : ∀ {a b : Nat}, a ≤ b → S9 a ≤ S9 b
  | a, 0, h => by rw [show a = 0 by omega]; exact Nat.le_refl _
  | a, b + 1, h => by
    by_cases c : a = b + 1
    · rw [c]; exact Nat.le_refl _
    · exact Nat.le_trans (S9_mono (show a ≤ b by omega)) (Nat.le_add_right _ _)
def hB : List Sg → Nat → Nat
  | [], _ => 1
  | s :: D, v => if v ≤ s.bd then 9 ^ (D.length + 1) else if v < s.nx then S9 D.length else hB D v
def HB : List Sg → Nat → Nat
  | [], _ => 1
  | s :: D, v => if v ≤ s.bd then S9 (D.length + 1) else if v < s.nx then S9 D.length else HB D v
theorem HB_bd : ∀ {D : List Sg} {b : Nat}, sgC b D → HB D b = S9 D.length
  | [], _, _ => rfl
  | s :: D, b, h => by
    unfold HB
    rw [if_pos (by rw [h.1]; exact Nat.le_refl _)]
    rfl
theorem hB_le : ∀ (D : List Sg) (v : Nat), hB D v ≤ S9 D.length
  | [], _ => Nat.le_refl _
  | s :: D, v => by
    unfold hB
    have h1 : 9 ^ (D.length + 1) ≤ S9 (D.length + 1) := Nat.le_add_left _ _
    have h2 : S9 D.length ≤ S9 (D.length + 1) := Nat.le_add_right _ _
    split
    · exact h1
    · split
      · exact h2
      · exact Nat.le_trans (hB_le D v) h2
/-- what else each segment of the rules has: every node below its end has an edge, few begin at one node; tenths -/
def sgX (s : Sg) : Prop := (∀ v, s.bd ≤ v → v < s.nx → ∃ x ∈ s.es, x.1 = v) ∧ (∀ v, (s.es.filter (fun x => x.1 == v)).length ≤ if v = s.bd then 8 else 1) ∧ ∀ x ∈ s.es, 1 ≤ x.2.2.2 ∧ (x.2.2.1 < 0 → x.2.2.2 = 10)
theorem edD_cons (s : Sg) (D : List Sg) : edD (s :: D) = s.es ++ edD D := List.flatMap_cons
theorem sum_le_len {α : Type} {f : α → Nat} {M : Nat} : ∀ {l : List α}, (∀ x ∈ l, f x ≤ M) → (l.map f).sum ≤ l.length * M
  | [], _ => by simp
  | a :: l, h => by
    rw [List.map_cons, List.sum_cons, List.length_cons, Nat.add_mul, Nat.one_mul, Nat.add_comm]
    exact Nat.add_le_add (sum_le_len (fun x hx => h x (List.mem_cons_of_mem _ hx))) (h a List.mem_cons_self)
theorem hB_N : ∀ (D : List Sg) (b : Nat), sgC b D → (∀ s ∈ D, sgX s) → ∀ v, b ≤ v → v ≤ lsB b D → (((edD D).filter (fun x => x.1 == v && decide (0 ≤ x.2.2.1))).map (fun x => HB D x.2.1)).sum + (if v = lsB b D then 1 else 0) ≤ hB D v
  | [], b, _, _, v, h1, h2 => by
    show 0 + (if v = b then 1 else 0) ≤ 1
    split <;> omega
  | s :: D, b, hC, hX, v, h1, h2 => by
    have hC' := hC.2.2
    have hge := lsB_ge hC'
    have hbx := hC.2.1.1
    have hb := hC.1
    rw [edD_cons, List.filter_append, List.map_append, List.sum_append]
    show _ + _ + (if v = lsB s.nx D then 1 else 0) ≤ _
    have h2' : v ≤ lsB s.nx D := h2
    by_cases c : v < s.nx
    · have e0 : (edD D).filter (fun x => x.1 == v && decide (0 ≤ x.2.2.1)) = [] := by
        rw [List.filter_eq_nil_iff]
        intro x hx
        have := ((sgC_all (q0 := 0) hC').1 x hx).1
        rw [Bool.and_eq_true, beq_iff_eq]
        omega
      rw [e0, if_neg (by omega)]
      show _ + 0 + 0 ≤ _
      have hlen : (s.es.filter (fun x => x.1 == v && decide (0 ≤ x.2.2.1))).length ≤ if v = s.bd then 8 else 1 := by
        refine Nat.le_trans ?_ ((hX s List.mem_cons_self).2.1 v)
        refine Nat.le_trans (Nat.le_of_eq (congrArg List.length ?_)) (List.length_filter_le (fun x => decide (0 ≤ x.2.2.1)) (s.es.filter (fun x => x.1 == v)))
        rw [List.filter_filter]
        exact List.filter_congr (fun x _ => Bool.and_comm _ _)
      have hsum := sum_le_len (l := s.es.filter (fun x => x.1 == v && decide (0 ≤ x.2.2.1))) (f := fun x => HB (s :: D) x.2.1) (M := S9 D.length) (fun x hx => by
        obtain ⟨hx1, hx2⟩ := List.mem_filter.mp hx
        rw [Bool.and_eq_true, beq_iff_eq] at hx2
        have h3 := hC.2.1.2.1 x hx1
        show HB (s :: D) x.2.1 ≤ _
        unfold HB
        rw [if_neg (by omega)]
        split
        · exact Nat.le_refl _
        · rw [show x.2.1 = s.nx by omega, HB_bd hC']
          exact Nat.le_refl _)
      refine Nat.le_trans (show _ ≤ _ by exact hsum) ?_
      refine Nat.le_trans (Nat.mul_le_mul_right _ hlen) ?_
      unfold hB
      by_cases c2 : v = s.bd
      · rw [if_pos c2, if_pos (by omega)]
        have := S9_8 D.length
        omega
      · rw [if_neg c2, if_neg (by omega), if_pos c, Nat.one_mul]
        exact Nat.le_refl _
    · have e0 : s.es.filter (fun x => x.1 == v && decide (0 ≤ x.2.2.1)) = [] := by
        rw [List.filter_eq_nil_iff]
        intro x hx
        have := hC.2.1.2.1 x hx
        rw [Bool.and_eq_true, beq_iff_eq]
        omega
      rw [e0]
      show 0 + _ + _ ≤ _
      rw [Nat.zero_add]
      have ih := hB_N D s.nx hC' (fun t ht => hX t (List.mem_cons_of_mem _ ht)) v (by omega) h2'
      have e1 : hB (s :: D) v = hB D v := by
        show (if v ≤ s.bd then _ else if v < s.nx then _ else _) = _
        rw [if_neg (by omega), if_neg c]
      rw [e1]
      refine Nat.le_trans (Nat.le_of_eq ?_) ih
      congr 1
      refine sumE (fun x hx => ?_)
      obtain ⟨hx1, hx2⟩ := List.mem_filter.mp hx
      rw [Bool.and_eq_true, beq_iff_eq] at hx2
      have h3 := (sgC_all (q0 := 0) hC').1 x hx1
      show (if x.2.1 ≤ s.bd then _ else if x.2.1 < s.nx then _ else _) = _
      rw [if_neg (by omega), if_neg (by omega)]
/-- a sum over a set's nodes -/
def bs (S : Nat) (f : Nat → Nat) : Nat → Nat
  | 0 => 0
  | n + 1 => bs S f n + (if S.testBit n = true then f n else 0)
theorem bs_gain {S b c : Nat} {f g : Nat → Nat} (hfg : ∀ v, f v ≤ g v) : ∀ {n : Nat}, (S.testBit b = true → b < n → f b + c ≤ g b) → bs S f n + (if S.testBit b = true ∧ b < n then c else 0) ≤ bs S g n
  | 0, _ => by
    rw [if_neg (by omega)]
    exact Nat.le_refl _
  | n + 1, h => by
    have ih := bs_gain hfg (n := n) (b := b) (c := c) (S := S) (fun h1 h2 => h h1 (by omega))
    show bs S f n + (if S.testBit n = true then f n else 0) + _ ≤ bs S g n + (if S.testBit n = true then g n else 0)
    by_cases hb : b = n
    · subst hb
      rw [if_neg (show ¬ (S.testBit b = true ∧ b < b) by omega)] at ih
      by_cases c1 : S.testBit b = true
      · have := h c1 (by omega)
        rw [if_pos c1, if_pos c1, if_pos ⟨c1, by omega⟩]
        omega
      · rw [if_neg c1, if_neg c1, if_neg (fun h => c1 h.1)]
        omega
    · have hh : (if S.testBit b = true ∧ b < n + 1 then c else 0) = (if S.testBit b = true ∧ b < n then c else 0) := by
        by_cases c1 : S.testBit b = true ∧ b < n
        · rw [if_pos c1, if_pos ⟨c1.1, by omega⟩]
        · rw [if_neg c1, if_neg (fun h => c1 ⟨h.1, by omega⟩)]
      rw [hh]
      have := hfg n
      split <;> omega
theorem bs_mono {S n : Nat} {f g : Nat → Nat} (hfg : ∀ v, f v ≤ g v) : bs S f n ≤ bs S g n := by
  have := bs_gain (b := 0) (c := 0) (S := S) (n := n) hfg (fun _ _ => hfg 0)
  omega
theorem bs_or {S k : Nat} {f : Nat → Nat} : ∀ {n : Nat}, bs (S ||| 2 ^ k) f n ≤ bs S f n + (if k < n then f k else 0)
  | 0 => Nat.zero_le _
  | n + 1 => by
    have ih := bs_or (S := S) (k := k) (f := f) (n := n)
    show bs (S ||| 2 ^ k) f n + (if (S ||| 2 ^ k).testBit n = true then f n else 0) ≤ bs S f n + (if S.testBit n = true then f n else 0) + _
    rw [tb_or]
    by_cases c : k = n
    · subst c
      rw [if_neg (show ¬ k < k by omega)] at ih
      rw [if_pos (show k < k + 1 by omega)]
      have : (if (S.testBit k || decide (k = k)) = true then f k else 0) ≤ f k := by split <;> omega
      omega
    · rw [decide_eq_false c, Bool.or_false]
      by_cases c2 : k < n
      · rw [if_pos c2] at ih
        rw [if_pos (show k < n + 1 by omega)]
        omega
      · rw [if_neg c2] at ih
        rw [if_neg (show ¬ k < n + 1 by omega)]
        omega
theorem bs_most {S M : Nat} {f : Nat → Nat} (h : ∀ v, f v ≤ M) : ∀ n, bs S f n ≤ n * M
  | 0 => by rw [Nat.zero_mul]; exact Nat.le_refl _
  | n + 1 => by
    have ih := bs_most (S := S) h n
    have := h n
    show bs S f n + _ ≤ _
    rw [Nat.add_mul, Nat.one_mul]
    split <;> omega
theorem bs_cl : ∀ (D : List Sg) (b : Nat) (S n : Nat) (φ : Nat → Nat), sgC b D → (∀ v, b ≤ v → φ v = hB D v) → bs (D.foldl stS S) φ n ≤ bs S (fun v => if v < b then φ v else HB D v) n
  | [], b, S, n, φ, _, h => by
    refine bs_mono (fun v => ?_)
    show φ v ≤ if v < b then φ v else 1
    split
    · exact Nat.le_refl _
    · rw [h v (by omega)]
      exact Nat.le_refl _
  | s :: D, b, S, n, φ, hC, h => by
    rw [List.foldl_cons]
    have hb := hC.1
    have hbx := hC.2.1.1
    have h9 : S9 (D.length + 1) = S9 D.length + 9 ^ (D.length + 1) := rfl
    refine Nat.le_trans (bs_cl D s.nx (stS S s) n φ hC.2.2 (fun v hv => ?_)) ?_
    · rw [h v (by omega)]
      show (if v ≤ s.bd then _ else if v < s.nx then _ else _) = _
      rw [if_neg (by omega), if_neg (by omega)]
    · have hpt : ∀ v, (if v < s.nx then φ v else HB D v) ≤ (if v < b then φ v else HB (s :: D) v) := fun v => by
        by_cases c1 : v < b
        · rw [if_pos c1, if_pos (by omega)]
          exact Nat.le_refl _
        · rw [if_neg c1]
          show _ ≤ (if v ≤ s.bd then S9 (D.length + 1) else if v < s.nx then S9 D.length else HB D v)
          by_cases c2 : v ≤ s.bd
          · rw [if_pos c2, if_pos (by omega), h v (by omega)]
            show (if v ≤ s.bd then 9 ^ (D.length + 1) else _) ≤ _
            rw [if_pos c2]
            omega
          · rw [if_neg c2]
            by_cases c3 : v < s.nx
            · rw [if_pos c3, if_pos c3, h v (by omega)]
              show (if v ≤ s.bd then _ else if v < s.nx then S9 D.length else _) ≤ _
              rw [if_neg c2, if_pos c3]
              exact Nat.le_refl _
            · rw [if_neg c3, if_neg c3]
              exact Nat.le_refl _
      unfold stS
      by_cases c : s.es.any (fun x => decide (x.2.2.1 < 0)) = true ∧ S.testBit s.bd = true
      · rw [if_pos c]
        refine Nat.le_trans bs_or ?_
        have hg := bs_gain (S := S) (b := s.bd) (c := S9 D.length) (n := n) hpt (fun _ _ => by
          rw [if_pos hbx, h s.bd (by omega)]
          show (if s.bd ≤ s.bd then 9 ^ (D.length + 1) else _) + _ ≤ if s.bd < b then _ else (if s.bd ≤ s.bd then S9 (D.length + 1) else _)
          rw [if_pos (Nat.le_refl _), if_neg (by omega), if_pos (Nat.le_refl _)]
          omega)
        by_cases c2 : s.nx < n
        · rw [if_pos ⟨c.2, by omega⟩] at hg
          rw [if_pos c2, if_neg (show ¬ s.nx < s.nx by omega), HB_bd hC.2.2]
          exact hg
        · rw [if_neg c2]
          rw [Nat.add_zero]
          exact bs_mono hpt
      · rw [if_neg c]
        exact bs_mono hpt
theorem bs_tg {fr to f : Nat → Nat} {wo : Nat → Int} {S w n : Nat} : ∀ m, bs (tgO fr to wo S w m) f n ≤ ((List.range m).map (fun e => if wo e = (w : Int) ∧ S.testBit (fr e) = true then f (to e) else 0)).sum
  | 0 => by
    have h0 : ∀ n, bs 0 f n = 0 := fun n => by
      induction n with
      | zero => rfl
      | succ n ih =>
        show bs 0 f n + _ = 0
        rw [ih]
        simp
    show bs 0 f n ≤ 0
    rw [h0]
    exact Nat.le_refl _
  | m + 1 => by
    have ih := bs_tg (fr := fr) (to := to) (wo := wo) (S := S) (w := w) (f := f) (n := n) m
    rw [List.range_succ, List.map_append, List.sum_append]
    unfold tgO
    by_cases c : wo m = (w : Int) ∧ S.testBit (fr m) = true
    · rw [if_pos c]
      refine Nat.le_trans bs_or ?_
      show _ ≤ _ + ((if wo m = (w : Int) ∧ S.testBit (fr m) = true then f (to m) else 0) + 0)
      rw [if_pos c]
      split <;> omega
    · rw [if_neg c]
      exact Nat.le_trans ih (Nat.le_add_right _ _)
theorem sum_swap {α β : Type} (g : α → β → Nat) : ∀ (l : List α) (r : List β), (l.map (fun a => (r.map (fun b => g a b)).sum)).sum = (r.map (fun b => (l.map (fun a => g a b)).sum)).sum
  | [], r => by
    show 0 = (r.map (fun _ => 0)).sum
    exact (sum0 (fun _ _ => rfl)).symm
  | a :: l, r => by
    rw [List.map_cons, List.sum_cons, sum_swap g l r, ← sumA]
    rfl
theorem sum_once {z : Int} {B : Prop} [Decidable B] {c : Nat} : ∀ {ws : List Nat}, ws.Nodup → (ws.map (fun w => if z = ((w : Nat) : Int) ∧ B then c else 0)).sum ≤ if 0 ≤ z ∧ B then c else 0
  | [], _ => Nat.zero_le _
  | w :: ws, h => by
    rw [List.map_cons, List.sum_cons]
    by_cases c1 : z = ((w : Nat) : Int) ∧ B
    · rw [if_pos c1, if_pos ⟨by omega, c1.2⟩, sum0 (fun x hx => ?_)]
      · exact Nat.le_refl _
      · refine if_neg (fun h2 => ?_)
        have : x = w := by omega
        subst this
        exact (List.nodup_cons.mp h).1 hx
    · rw [if_neg c1, Nat.zero_add]
      exact sum_once (List.nodup_cons.mp h).2
theorem bs_ed {S n : Nat} {F : Nat → Nat} : ∀ {E : List Ed}, (∀ x ∈ E, x.1 < n) → (E.map (fun x => if 0 ≤ x.2.2.1 ∧ S.testBit x.1 = true then F x.2.1 else 0)).sum ≤ bs S (fun v => ((E.filter (fun x => x.1 == v && decide (0 ≤ x.2.2.1))).map (fun x => F x.2.1)).sum) n
  | [], _ => Nat.zero_le _
  | x :: E, h => by
    have ih := bs_ed (S := S) (F := F) (E := E) (fun y hy => h y (List.mem_cons_of_mem _ hy))
    rw [List.map_cons, List.sum_cons]
    have hx := h x List.mem_cons_self
    have hc : ∀ v, ((((x :: E).filter (fun x => x.1 == v && decide (0 ≤ x.2.2.1))).map (fun x => F x.2.1)).sum) = (if x.1 = v ∧ 0 ≤ x.2.2.1 then F x.2.1 else 0) + ((E.filter (fun x => x.1 == v && decide (0 ≤ x.2.2.1))).map (fun x => F x.2.1)).sum := fun v => by
      by_cases c : x.1 = v ∧ 0 ≤ x.2.2.1
      · rw [List.filter_cons_of_pos (by simp [c.1, c.2]), if_pos c, List.map_cons, List.sum_cons]
      · rw [List.filter_cons_of_neg (by rw [Bool.and_eq_true, beq_iff_eq, decide_eq_true_eq]; exact c), if_neg c, Nat.zero_add]
    have hg := bs_gain (S := S) (b := x.1) (c := if 0 ≤ x.2.2.1 then F x.2.1 else 0) (n := n) (f := fun v => ((E.filter (fun x => x.1 == v && decide (0 ≤ x.2.2.1))).map (fun x => F x.2.1)).sum) (g := fun v => (((x :: E).filter (fun x => x.1 == v && decide (0 ≤ x.2.2.1))).map (fun x => F x.2.1)).sum) (fun v => by rw [hc v]; exact Nat.le_add_left _ _) (fun _ _ => by
      rw [hc x.1]
      by_cases c : 0 ≤ x.2.2.1
      · rw [if_pos c, if_pos ⟨rfl, c⟩]
        omega
      · rw [if_neg c, if_neg (fun h => c h.2)]
        omega)
    refine Nat.le_trans ?_ hg
    have e1 : (if 0 ≤ x.2.2.1 ∧ S.testBit x.1 = true then F x.2.1 else 0) = (if S.testBit x.1 = true ∧ x.1 < n then (if 0 ≤ x.2.2.1 then F x.2.1 else 0) else 0) := by
      by_cases c1 : S.testBit x.1 = true
      · rw [if_pos (show S.testBit x.1 = true ∧ x.1 < n from ⟨c1, hx⟩)]
        by_cases c2 : 0 ≤ x.2.2.1
        · rw [if_pos ⟨c2, c1⟩, if_pos c2]
        · rw [if_neg (fun h => c2 h.1), if_neg c2]
      · rw [if_neg (fun h => c1 h.2), if_neg (fun h => c1 h.1)]
    rw [e1]
    omega
theorem map_rng {α : Type} (l : List Ed) (G : Nat → Nat → Int → α) : (List.range l.length).map (fun e => G ((l[e]?.getD (0, 0, 0, 0)).1) ((l[e]?.getD (0, 0, 0, 0)).2.1) ((l[e]?.getD (0, 0, 0, 0)).2.2.1)) = l.map (fun x => G x.1 x.2.1 x.2.2.1) := by
  refine List.ext_getElem? (fun i => ?_)
  rw [List.getElem?_map, List.getElem?_map]
  by_cases h : i < l.length
  · rw [List.getElem?_range h, List.getElem?_eq_getElem h]
    simp [List.getElem?_eq_getElem h]
  · rw [List.getElem?_eq_none (by rw [List.length_range]; omega), List.getElem?_eq_none (by omega)]
    rfl
theorem clD_fold {D : List Sg} (C : sgC 0 D) (S : Nat) : clD D S = D.foldl stS S := by
  show clE _ _ _ _ S = _
  rw [clE_fold _ _ _ (teD D), eL_D, clE_segs D 0 S C]
theorem set_step {D : List Sg} (C : sgC 0 D) (hX : ∀ s ∈ D, sgX s) (S : Nat) : (if S.testBit (lsB 0 D) = true then 1 else 0) + ((wsO (frD D) (woD D) (neD D) S).map (fun w => bs (clD D (tgD D S w)) (hB D) (lsB 0 D + 1))).sum ≤ bs S (hB D) (lsB 0 D + 1) := by
  have hE := (sgC_all (q0 := 0) C).1
  have h1 : ((wsO (frD D) (woD D) (neD D) S).map (fun w => bs (clD D (tgD D S w)) (hB D) (lsB 0 D + 1))).sum ≤ ((edD D).map (fun x => if 0 ≤ x.2.2.1 ∧ S.testBit x.1 = true then HB D x.2.1 else 0)).sum := by
    refine Nat.le_trans (sumLe (fun w _ => Nat.le_trans (by rw [clD_fold C]; exact bs_cl D 0 _ _ (hB D) C (fun _ _ => rfl)) (Nat.le_trans (bs_mono (g := HB D) (fun v => by rw [if_neg (by omega)]; exact Nat.le_refl _)) (bs_tg (neD D))))) ?_
    rw [sum_swap]
    refine Nat.le_trans (sumLe (fun e _ => sum_once (List.Pairwise.filter _ List.nodup_range))) ?_
    exact Nat.le_of_eq (congrArg List.sum (map_rng (edD D) (fun a b z => if 0 ≤ z ∧ S.testBit a = true then HB D b else 0)))
  have h2 := bs_ed (S := S) (n := lsB 0 D + 1) (F := HB D) (E := edD D) (fun x hx => by have := hE x hx; omega)
  have h3 := bs_gain (S := S) (b := lsB 0 D) (c := 1) (n := lsB 0 D + 1) (f := fun v => if v ≤ lsB 0 D then (((edD D).filter (fun x => x.1 == v && decide (0 ≤ x.2.2.1))).map (fun x => HB D x.2.1)).sum else 0) (g := hB D) (fun v => by
    by_cases c : v ≤ lsB 0 D
    · rw [if_pos c]
      exact Nat.le_trans (Nat.le_add_right _ _) (hB_N D 0 C hX v (Nat.zero_le _) c)
    · rw [if_neg c]
      exact Nat.zero_le _) (fun _ _ => by
      rw [if_pos (Nat.le_refl _)]
      have := hB_N D 0 C hX (lsB 0 D) (Nat.zero_le _) (Nat.le_refl _)
      rw [if_pos rfl] at this
      exact this)
  have h4 : bs S (fun v => (((edD D).filter (fun x => x.1 == v && decide (0 ≤ x.2.2.1))).map (fun x => HB D x.2.1)).sum) (lsB 0 D + 1) ≤ bs S (fun v => if v ≤ lsB 0 D then (((edD D).filter (fun x => x.1 == v && decide (0 ≤ x.2.2.1))).map (fun x => HB D x.2.1)).sum else 0) (lsB 0 D + 1) := by
    refine bs_mono (fun v => ?_)
    by_cases c : v ≤ lsB 0 D
    · rw [if_pos c]
      exact Nat.le_refl _
    · rw [if_neg c]
      refine Nat.le_of_eq (sum0 (fun x hx => ?_))
      obtain ⟨hx1, hx2⟩ := List.mem_filter.mp hx
      rw [Bool.and_eq_true, beq_iff_eq] at hx2
      have := hE x hx1
      omega
  have h5 : (if S.testBit (lsB 0 D) = true ∧ lsB 0 D < lsB 0 D + 1 then 1 else 0) = (if S.testBit (lsB 0 D) = true then 1 else 0) := by
    by_cases c : S.testBit (lsB 0 D) = true
    · rw [if_pos c, if_pos ⟨c, by omega⟩]
    · rw [if_neg c, if_neg (fun h => c h.1)]
  rw [h5] at h3
  omega
