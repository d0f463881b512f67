/-! THE PICTURE, 6: laid flat -/
theorem sum_one {c x : Nat} : ∀ {K : List Nat}, K.Nodup → x ∈ K → (K.map (fun w => if x = w then c else 0)).sum = c
  | [], _, h => by cases h
  | a :: K, hd, h => by
    rw [List.map_cons, List.sum_cons]
    obtain ⟨h1, h2⟩ := List.nodup_cons.mp hd
    by_cases e : x = a
    · subst e
      rw [if_pos rfl, sum0 (fun w hw => if_neg (fun e2 => h1 (by rw [e2]; exact hw)))]
      rfl
    · rw [if_neg e, sum_one h2 ((List.mem_cons.mp h).resolve_left e), Nat.zero_add]
def lkV (f : Nat × Nat → Nat) (l : List (Nat × Nat)) (w : Nat) : Nat := match l.find? (fun p => p.1 == w) with
  | some p => f p
  | none => 0
theorem lkV_cons (f : Nat × Nat → Nat) (p : Nat × Nat) (l : List (Nat × Nat)) (h : p.1 ∉ l.map Prod.fst) (w : Nat) : lkV f (p :: l) w = (if p.1 = w then f p else 0) + lkV f l w := by
  unfold lkV
  by_cases c : p.1 = w
  · rw [List.find?_cons_of_pos (by rw [beq_iff_eq]; exact c), if_pos c]
    have : l.find? (fun q => q.1 == w) = none := by
      rw [List.find?_eq_none]
      intro q hq e
      rw [beq_iff_eq] at e
      exact h (by rw [c, ← e]; exact List.mem_map.mpr ⟨q, hq, rfl⟩)
    rw [this]
    rfl
  · rw [List.find?_cons_of_neg (by rw [beq_iff_eq]; exact c), if_neg c, Nat.zero_add]
theorem lkV_sum (f : Nat × Nat → Nat) {K : List Nat} (hK : K.Nodup) : ∀ {l : List (Nat × Nat)}, (l.map Prod.fst).Nodup → (∀ p ∈ l, p.1 ∈ K) → (K.map (lkV f l)).sum = (l.map f).sum
  | [], _, _ => sum0 (fun _ _ => rfl)
  | p :: l, hd, hm => by
    rw [List.map_cons] at hd
    obtain ⟨h1, h2⟩ := List.nodup_cons.mp hd
    rw [show K.map (lkV f (p :: l)) = K.map (fun w => (if p.1 = w then f p else 0) + lkV f l w) from List.map_congr_left (fun w _ => lkV_cons f p l h1 w), sumA, sum_one hK (hm p List.mem_cons_self), List.map_cons, List.sum_cons, lkV_sum f hK h2 (fun q hq => hm q (List.mem_cons_of_mem _ hq))]
theorem afO_find (as_ aw at_ : Nat → Nat) (s w : Nat) : afO as_ aw at_ s (w : Int) = ((arL as_ aw at_ s).find? (fun p => p.1 == w)).map Prod.snd := by
  unfold afO arL
  rw [List.find?_map, Option.map_map]
  have : fnd (fun k => ((aw (as_ s + k) : Nat) : Int) == (w : Int)) (as_ (s + 1) - as_ s) = (List.range (as_ (s + 1) - as_ s)).find? ((fun p => p.1 == w) ∘ fun k => (aw (as_ s + k), at_ (as_ s + k))) := by
    show fnd _ _ = fnd _ _
    refine fnd_congr (fun j _ => ?_)
    show (((aw (as_ s + j) : Nat) : Int) == (w : Int)) = (aw (as_ s + j) == w)
    rw [Bool.eq_iff_iff, beq_iff_eq, beq_iff_eq]
    omega
  rw [this]
  rfl
theorem sum_filter {B : Nat → Bool} {G : Nat → Nat} : ∀ (l : List Nat), ((l.filter B).map G).sum = (l.map (fun w => if B w = true then G w else 0)).sum
  | [] => rfl
  | a :: l => by
    rw [List.map_cons, List.sum_cons, ← sum_filter l]
    by_cases c : B a = true
    · rw [List.filter_cons_of_pos c, if_pos c, List.map_cons, List.sum_cons]
    · rw [List.filter_cons_of_neg c, if_neg c, Nat.zero_add]
theorem wsO_nodup (fr : Nat → Nat) (wo : Nat → Int) (ne S : Nat) : (wsO fr wo ne S).Nodup := List.Pairwise.filter _ List.nodup_range
theorem AU.sumW {D : List Sg} {me as_ aw at_ : Nat → Nat} {cnt arcs : Nat} (A : AU D me as_ aw at_ cnt arcs) {s : Nat} (hs : s < cnt) (B : Nat → Bool) (F : Nat → Nat) : ((arL as_ aw at_ s).map (fun p => if B p.1 = true then F p.2 else 0)).sum = (((List.range 200).filter B).map (fun w : Nat => match afO as_ aw at_ s (w : Int) with | some t => F t | none => 0)).sum := by
  rw [sum_filter, ← lkV_sum (fun p => if B p.1 = true then F p.2 else 0) (K := List.range 200) List.nodup_range (by rw [A.words hs]; exact wsO_nodup _ _ _ _) (fun p hp => List.mem_range.mpr (A.arc hs hp).1.1)]
  refine sumE (fun w _ => ?_)
  rw [afO_find]
  unfold lkV
  cases hf : (arL as_ aw at_ s).find? (fun p => p.1 == w) with
  | none =>
    show 0 = if B w = true then 0 else 0
    split <;> rfl
  | some p =>
    have := List.find?_some hf
    rw [beq_iff_eq] at this
    show (if B p.1 = true then F p.2 else 0) = if B w = true then F p.2 else 0
    rw [this]
theorem tmF_most (c n : Nat) : tmF c n ≤ c * n := by
  unfold tmF
  split
  · rename_i h
    have := (Nat.div_lt_iff_lt_mul h.1).mp h.2
    omega
  · exact Nat.le_refl _
theorem tmF_ge {c n x : Nat} (h1 : x ≤ c * n) (h2 : x ≤ 4000000000000000000) : x ≤ tmF c n := by
  unfold tmF
  split
  · exact h2
  · exact h1
theorem sum_subs {c : Nat} {g : Nat → Nat} : ∀ (l : List Nat), c * l.length ≤ (l.map (fun w => c - g w)).sum + (l.map g).sum
  | [] => Nat.zero_le _
  | a :: l => by
    have := sum_subs (c := c) (g := g) l
    rw [List.map_cons, List.map_cons, List.sum_cons, List.sum_cons, List.length_cons, Nat.mul_add, Nat.mul_one]
    omega
section
variable {D : List Sg} {P : PT} {m : MS}
theorem PP.sp_s (h : PP D P m) {p : Nat} (hp : p < p_ps P) : p_sp P p = tmF (p_sp P (p + 1)) (CP.wl D p).length := by
  rw [h.c.sp (by omega), h.c.sp (show p + 1 ≤ p_ps P by omega), show p_ps P - p = (p_ps P - (p + 1)) + 1 by omega]
  rfl
theorem PP.bt_s (h : PP D P m) {p s : Nat} (hs : s < p_cnt P) (hp : p < p_ps P) (hr : PP.Rc D P p s) : PP.bt P p s = ((CP.wl D p).map (fun w : Nat => btM (PP.bt P) (p + 1) (afO (p_as_ P) (p_aw P) (p_at_ P) s (w : Int)))).sum := by
  have e : PLD D (lsB 0 D) = p_ps P := h.c.fr_.symm
  have h1 := h.c.bt hs hr
  rw [show PP.bt P p s = _ from h1, ← h.c.au.cm (p_ps P - p) s hs (by omega) (by rw [e, show p_ps P - (p_ps P - p) = p by omega]; exact hr), show p_ps P - p = (p_ps P - (p + 1)) + 1 by omega]
  show (((CP.ar P) s).map (fun q => if PP.A D (PLD D (lsB 0 D) - (p_ps P - (p + 1) + 1)) q.1 = true then cmF (PP.A D) (PLD D (lsB 0 D)) (CP.ar P) (waE (p_me P) (lsB 0 D)) (p_ps P - (p + 1)) q.2 else 0)).sum = _
  rw [e, show p_ps P - (p_ps P - (p + 1) + 1) = p by omega, h.c.au.sumW hs (PP.A D p)]
  refine sumE (fun w hw => ?_)
  cases ha : afO (p_as_ P) (p_aw P) (p_at_ P) s (w : Int) with
  | none => rfl
  | some t =>
    obtain ⟨w', hw', ht, ht2⟩ := h.c.au.afT hs ha
    have hr2 := h.RcS hs ht hr
    show cmF _ _ _ _ _ t = PP.bt P (p + 1) t
    rw [show PP.bt P (p + 1) t = _ from h.c.bt ht2 hr2, ← e]
    refine h.c.au.cm _ t ht2 (by omega) ?_
    rw [show PLD D (lsB 0 D) - (PLD D (lsB 0 D) - (p + 1)) = p + 1 by omega]
    exact hr2
theorem PP.bt_sp (h : PP D P m) : ∀ (d p s : Nat), s < p_cnt P → p + d = p_ps P → PP.Rc D P p s → PP.bt P p s ≤ p_sp P p
  | 0, p, s, hs, hp, hr => by
    rw [show PP.bt P p s = _ from h.c.bt hs hr, h.c.sp (by omega), show p_ps P - p = 0 by omega]
    show waE _ _ _ ≤ 1
    unfold waE
    split <;> omega
  | d + 1, p, s, hs, hp, hr => by
    have hmost : PP.bt P p s ≤ 4000000000000000000 := by
      have h1 := h.c.bt_le (n := p) hs
      have h2 := h.c.wy_le hs
      exact Nat.le_trans h1 (by omega)
    rw [h.sp_s (by omega)]
    refine tmF_ge ?_ hmost
    rw [h.bt_s hs (by omega) hr]
    refine Nat.le_trans (sum_le_len (M := p_sp P (p + 1)) (fun w hw => ?_)) (Nat.le_of_eq (Nat.mul_comm _ _))
    cases ha : afO (p_as_ P) (p_aw P) (p_at_ P) s (w : Int) with
    | none => exact Nat.zero_le _
    | some t =>
      obtain ⟨w', hw', ht, ht2⟩ := h.c.au.afT hs ha
      have hr2 := h.RcS hs ht hr
      exact PP.bt_sp h d (p + 1) t ht2 (by omega) hr2
theorem PP.bt_le (h : PP D P m) {p s : Nat} (hs : s < p_cnt P) (hr : PP.Rc D P p s) : PP.bt P p s ≤ p_sp P p := h.bt_sp (p_ps P - p) p s hs (by have := h.Rle hs hr; omega) hr
/-- what is besides: what may come is all told -/
theorem PP.hbv (h : PP D P m) {p : Nat} {o : Option Nat} (hp : p < p_ps P) (ho : ∀ s, o = some s → s < p_cnt P ∧ PP.Rc D P p s) : p_sp P p - btM (PP.bt P) p o ≤ ((CP.wl D p).map (fun w : Nat => p_sp P (p + 1) - btM (PP.bt P) (p + 1) (o.bind (fun s => afO (p_as_ P) (p_aw P) (p_at_ P) s (w : Int))))).sum := by
  have h1 := sum_subs (c := p_sp P (p + 1)) (g := fun w : Nat => btM (PP.bt P) (p + 1) (o.bind (fun s => afO (p_as_ P) (p_aw P) (p_at_ P) s (w : Int)))) (CP.wl D p)
  have h2 := tmF_most (p_sp P (p + 1)) (CP.wl D p).length
  rw [← h.sp_s hp] at h2
  have h3 : ((CP.wl D p).map (fun w : Nat => btM (PP.bt P) (p + 1) (o.bind (fun s => afO (p_as_ P) (p_aw P) (p_at_ P) s (w : Int))))).sum = btM (PP.bt P) p o := by
    cases o with
    | none => exact sum0 (fun _ _ => rfl)
    | some s => exact (h.bt_s (ho s rfl).1 hp (ho s rfl).2).symm
  omega
theorem PP.afc (h : PP D P m) : ∀ s, s < p_cnt P → ∀ x t, afO (p_as_ P) (p_aw P) (p_at_ P) s x = some t → t < p_cnt P := fun s hs x t ht => by
  obtain ⟨_, _, _, h2⟩ := h.c.au.afT hs ht
  exact h2
theorem PP.Rca (h : PP D P m) {n s t : Nat} {x : Int} (hs : s < p_cnt P) (hr : PP.Rc D P n s) (ht : afO (p_as_ P) (p_aw P) (p_at_ P) s x = some t) : PP.Rc D P (n + 1) t := by
  obtain ⟨w, _, h2, _⟩ := h.c.au.afT hs ht
  have hr2 := h.RcS hs h2 hr
  exact hr2
theorem PP.hr_F (h : PP D P m) (p : Nat) (o : Option Nat) : hrF (p_ps P) (p_fa P) (p_fw P) (p_sp P) p o = p_sp P p - btM (PP.bt P) p o := by
  cases o <;> rfl
theorem PP.spF_l (h : PP D P m) (o : Option Nat) (ho : o = none ∨ o = some 0) {q : Nat} (hq : q < p_sp P 0 - btM (PP.bt P) 0 o) : (spF (wlA (p_sv P) (p_wd P)) (afO (p_as_ P) (p_aw P) (p_at_ P)) (hrF (p_ps P) (p_fa P) (p_fw P) (p_sp P)) (p_ps P) 0 o q).length = p_ps P := by
  refine spF_full (ps := p_ps P) (I := fun p o => ∀ s, o = some s → s < p_cnt P ∧ PP.Rc D P p s) (fun p o hp hi => ⟨?_, fun w hw s hs => ?_⟩) (p_ps P) 0 o q (by omega) (fun s hs => ?_) (by rw [h.hr_F]; exact hq)
  · rw [h.hr_F, h.c.wla hp]
    refine Nat.le_trans (h.hbv hp hi) (Nat.le_of_eq (sumE (fun w _ => ?_)))
    rw [h.hr_F]
  · cases o with
    | none => cases hs
    | some t =>
      have ht := hi t rfl
      exact ⟨h.afc t ht.1 _ s hs, h.Rca ht.1 ht.2 hs⟩
  · rcases ho with rfl | rfl
    · cases hs
    · injection hs with hs
      rw [← hs]
      exact ⟨h.c.au.pos, AU.Rc0 D _ 0⟩
theorem PP.spP_l (h : PP D P m) (en : Nat → Nat → Bool) (hr : Nat → Nat → Nat) (q : Nat) : (spP (CP.ar P) en hr 65 0 0 q).length ≤ 64 ∧ ∀ x ∈ spP (CP.ar P) en hr 65 0 0 q, x < 200 := by
  have := spP_all (ar := CP.ar P) (en := en) (hr := hr) (cnt := p_cnt P) (B := 64) (R := PP.Rc D P) (Q := fun x => x < 200) (fun i s hs hr => by have := h.Rle hs hr; have := h.c.ps64; omega) (fun i s hs hr p hp => ⟨(h.arc hs hp).2, h.RcS hs hp hr, (h.arc hs hp).1⟩) 65 0 0 q h.c.au.pos (AU.Rc0 D _ 0)
  exact ⟨by omega, this.2⟩
theorem PP.bw (h : PP D P m) {s : Nat} (hs : s < p_cnt P) (x : Int) : bwO m.mal m.mxf m.mxw m.mxt s x = bwO (p_wy P) (p_as_ P) (p_aw P) (p_at_ P) s x := by
  obtain ⟨_, _, _, e4, e5⟩ := h.c.au.eq h.auM
  have hT := (exD_T h.c.C h.c.au.h h.c.au.hP).2.2 s hs
  unfold bwO
  rw [e4 s (by omega), e4 (s + 1) (by omega)]
  have : ∀ k, k ≤ p_as_ P (s + 1) - p_as_ P s → bwS m.mal m.mxf m.mxw m.mxt s x k = bwS (p_wy P) (p_as_ P) (p_aw P) (p_at_ P) s x k := by
    intro k
    induction k with
    | zero => intro _; rfl
    | succ k ih =>
      intro hk
      obtain ⟨a, b⟩ := e5 (p_as_ P s + k) (by omega)
      have ht := (hT.2.2.1 (p_as_ P s + k) (by omega) (by omega)).1.2
      unfold bwS
      rw [ih (by omega), e4 s (by omega), a, b, h.al ht]
  exact this _ (Nat.le_refl _)
theorem PP.nb (h : PP D P m) (l : List Int) : nbR (afO m.mxf m.mxw m.mxt) (waE m.mse (m.mnn - 1)) (bwO m.mal m.mxf m.mxw m.mxt) l 0 0 = nbR (afO (p_as_ P) (p_aw P) (p_at_ P)) (waE (p_me P) (p_ln P)) (bwO (p_wy P) (p_as_ P) (p_aw P) (p_at_ P)) l 0 0 :=
  nbR_ext (cnt := p_cnt P) (fun s hs x => h.afE hs x) (fun s hs => h.enE hs) (fun s hs x => h.bw hs x) h.afc l 0 0 h.c.au.pos
theorem PP.lk (h : PP D P m) (l : List Int) : lkR (afO m.mxf m.mxw m.mxt) (waE m.mse (m.mnn - 1)) l (some 0) 0 (0, 0) = lkR (afO (p_as_ P) (p_aw P) (p_at_ P)) (waE (p_me P) (p_ln P)) l (some 0) 0 (0, 0) :=
  lkR_ext (cnt := p_cnt P) (fun s hs x => h.afE hs x) (fun s hs => h.enE hs) h.afc l (some 0) 0 (0, 0) (fun s hs => by injection hs with hs; rw [← hs]; exact h.c.au.pos)
theorem PP.srt (h : PP D P m) : ∀ s, s < m.mns → ∀ i j, m.mxf s ≤ i → i < j → j < m.mxf (s + 1) → m.mxw i < m.mxw j := fun s hs i j h1 h2 h3 => by
  have hw := h.auM.words hs
  have hp : (wsO (frD D) (woD D) (neD D) (mS m.mse s)).Pairwise (· < ·) := List.Pairwise.filter _ List.pairwise_lt_range
  rw [← hw] at hp
  have hl : ((arL m.mxf m.mxw m.mxt s).map Prod.fst).length = m.mxf (s + 1) - m.mxf s := by
    unfold arL
    rw [List.length_map, List.length_map, List.length_range]
  have := List.pairwise_iff_getElem.mp hp (i - m.mxf s) (j - m.mxf s) (by omega) (by omega) (by omega)
  simp [arL] at this
  rw [show m.mxf s + (i - m.mxf s) = i by omega, show m.mxf s + (j - m.mxf s) = j by omega] at this
  exact this
end
