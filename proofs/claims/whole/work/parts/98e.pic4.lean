/-! THE PICTURE, 4: the class's, all that its answers stand on -/
def CP (D : List Sg) (P : PT) : Prop := (picR D P) ∧ (picA P) ∧ (∀ s ∈ D, sgX s)
theorem CP.R {D : List Sg} {P : PT} (h_ : CP D P) : picR D P := h_.1
theorem CP.A {D : List Sg} {P : PT} (h_ : CP D P) : picA P := h_.2.1
theorem CP.X {D : List Sg} {P : PT} (h_ : CP D P) : ∀ s ∈ D, sgX s := h_.2.2
section
variable {D : List Sg} {P : PT}
theorem CP.gr (h : CP D P) : gR D (p_fr P) (p_to P) (p_wo P) (p_te P) (p_hv P) (p_fo P) (p_no P) (p_mb P) (p_mw P) (p_ml P) (p_ma P) (p_sk P) (p_bo P) (p_nn P) (p_ne P) (p_nm P) := h.R.1
theorem CP.gs (h : CP D P) : gS (p_fr P) (p_to P) (p_wo P) (p_te P) (p_fo P) (p_no P) (p_sk P) (p_bo P) (p_nn P) (p_ne P) (p_nm P) := h.R.2.1
theorem CP.C (h : CP D P) : sgC 0 D := h.R.2.2.1
theorem CP.nm (h : CP D P) : p_nm P = D.length := h.gr.1
theorem CP.l16 (h : CP D P) : D.length ≤ 16 := by rw [← h.nm]; exact h.gs.1.2.2.1
theorem CP.bo (h : CP D P) : (∀ m, m ≤ p_nm P → p_bo P m = boD D m) ∧ ∀ m, m < p_nm P → (0 ≤ p_sk P m ↔ 0 ≤ skD D m) := gR_bo h.gr h.C h.gs.1.2.2.2.2.2
theorem CP.nn (h : CP D P) : p_nn P = lsB 0 D + 1 := by
  rw [h.gs.1.2.2.2.2.1, h.bo.1 _ (Nat.le_refl _), h.nm]
  unfold boD
  rw [List.getElem?_eq_none (Nat.le_refl _)]
theorem CP.ed (h : CP D P) : p_ne P = neD D ∧ ∀ e, e < p_ne P → p_fr P e = frD D e ∧ p_to P e = toD D e ∧ p_wo P e = woD D e ∧ p_te P e = teD D e := eL_at h.gr.2.1
theorem CP.ln (h : CP D P) : p_ln P = lsB 0 D := by rw [h.R.2.2.2.2.2.2.2.1, h.nn]; rfl
theorem CP.au (h : CP D P) : AU D (p_me P) (p_as_ P) (p_aw P) (p_at_ P) (p_cnt P) (p_arcs P) :=
  ⟨(h.C),
  (h.l16),
  (by rw [← h.nn]; exact h.gs.1.2.1),
  (h.R.2.2.2.1),
  (h.R.2.2.2.2.1.1),
  (h.A.1)⟩
abbrev CP.ar (P : PT) : Nat → List (Nat × Nat) := arL (p_as_ P) (p_aw P) (p_at_ P)
abbrev CP.en (P : PT) : Nat → Nat := waE (p_me P) (p_ln P)
theorem CP.hw (h : CP D P) : ∀ s, s < p_cnt P → p_wy P s = waE (p_me P) (lsB 0 D) s + ((CP.ar P s).map (fun p => p_wy P p.2)).sum := fun s hs => by
  have := (h.R.2.2.2.2.2.2.1 s hs).1
  rw [waS_sum, tl_arL (p_as_ P) (p_aw P), List.map_map, h.ln] at this
  exact this
theorem CP.hf (h : CP D P) : ∀ s, s < p_cnt P → (p_fa P s, p_fw P s) = ((CP.ar P s).map Prod.snd).foldl (stF (p_fa P) (p_fw P)) (0, waE (p_me P) (lsB 0 D) s) := fun s hs => by
  have := (h.R.2.2.2.2.2.2.1 s hs).2.1
  rw [tl_arL (p_as_ P) (p_aw P), h.ln] at this
  exact this
theorem CP.nk (h : CP D P) {s : Nat} (hs : s < p_cnt P) : (∀ k, p_fa P s < k → nK (CP.ar P) (waE (p_me P) (lsB 0 D)) k s = 0) ∧ p_fw P s = nK (CP.ar P) (waE (p_me P) (lsB 0 D)) (p_fa P s) s ∧ ∀ K, p_fa P s ≤ K → nA_ (CP.ar P) (waE (p_me P) (lsB 0 D)) K s = p_wy P s :=
  nK_all (fun s hs p hp => (h.au.arc hs hp).1.2) h.hw h.hf (p_fa P s + 1) s hs (by omega)
theorem CP.fw (h : CP D P) {s : Nat} (hs : s < p_cnt P) : 0 < p_fw P s := h.au.fwpos h.X h.hf (p_fa P s + 1) s hs (by omega)
theorem CP.fr_ (h : CP D P) : p_ps P = PLD D (lsB 0 D) := by
  rw [h.R.2.2.2.2.2.2.2.2.1, h.nn]
  show plF _ _ _ _ (lsB 0 D) = _
  have hx : ∀ n, n ≤ p_ne P → ∀ v, plF (p_fr P) (p_to P) (p_wo P) n v = plF (frD D) (toD D) (woD D) n v := by
    intro n
    induction n with
    | zero => intro _ v; rfl
    | succ n ih =>
      intro hn v
      obtain ⟨e1, e2, e3, _⟩ := h.ed.2 n (by omega)
      unfold plF
      rw [ih (by omega), ih (by omega), e1, e2, e3]
  rw [hx _ (Nat.le_refl _), h.ed.1]
theorem CP.pl (h : CP D P) : ∀ n, n ≤ p_ne P → ∀ v, plF (p_fr P) (p_to P) (p_wo P) n v = plF (frD D) (toD D) (woD D) n v := by
  intro n
  induction n with
  | zero => intro _ v; rfl
  | succ n ih =>
    intro hn v
    obtain ⟨e1, e2, e3, _⟩ := h.ed.2 n (by omega)
    unfold plF
    rw [ih (by omega), ih (by omega), e1, e2, e3]
theorem CP.ps64 (h : CP D P) : p_ps P ≤ 64 := by
  rw [h.fr_]
  exact h.au.gm.2.2 _ _ (Nat.le_refl _)
theorem CP.fa_le (h : CP D P) {n s : Nat} (hs : s < p_cnt P) (hr : AU.Rc D (p_me P) n s) : n + p_fa P s ≤ p_ps P := by
  rw [h.fr_]
  refine h.au.far hs hr ?_
  rw [← (h.nk hs).2.1]
  exact h.fw hs
theorem CP.wy_nA (h : CP D P) {s : Nat} (hs : s < p_cnt P) : nA_ (CP.ar P) (waE (p_me P) (lsB 0 D)) (p_ps P) s = p_wy P s := (h.nk hs).2.2 _ (by have := h.fa_le hs (AU.Rc0 D (p_me P) s); omega)
theorem CP.wy_le (h : CP D P) {s : Nat} (hs : s < p_cnt P) : p_wy P s ≤ 835943732695786721 := h.au.wy_le h.X h.hw h.hf hs
theorem CP.fw_le (h : CP D P) {s : Nat} (hs : s < p_cnt P) : p_fw P s ≤ p_wy P s := by
  have h1 := (h.nk hs).2.2 (p_fa P s) (Nat.le_refl _)
  rw [(h.nk hs).2.1, ← h1]
  cases p_fa P s with
  | zero => exact Nat.le_refl _
  | succ k => exact Nat.le_add_left _ _
theorem CP.hW (h : CP D P) : ∀ t, t < p_cnt P → p_wy P t < 4611686018427387904 ∧ p_fw P t ≤ p_wy P t ∧ p_fa P t ≤ 1000 := fun t ht => ⟨by have := h.wy_le ht; omega, h.fw_le ht, by have := h.fa_le ht (AU.Rc0 D (p_me P) t); have := h.ps64; omega⟩
theorem CP.bt (h : CP D P) {n s : Nat} (hs : s < p_cnt P) (hr : AU.Rc D (p_me P) n s) : btO (p_ps P) (p_fa P) (p_fw P) n s = nK (CP.ar P) (waE (p_me P) (lsB 0 D)) (p_ps P - n) s := by
  have h1 := h.fa_le hs hr
  unfold btO
  by_cases c : n + p_fa P s = p_ps P
  · rw [if_pos c, (h.nk hs).2.1, show p_ps P - n = p_fa P s by omega]
  · rw [if_neg c, (h.nk hs).1 _ (by omega)]
theorem CP.bt_le (h : CP D P) {n s : Nat} (hs : s < p_cnt P) : btO (p_ps P) (p_fa P) (p_fw P) n s ≤ p_wy P s := btO_le (h.fw_le hs)
theorem CP.sT_ (h : CP D P) : sT (p_cnt P) (p_as_ P) (p_aw P) (p_at_ P) (p_nA P) := by
  have h1 := exD_T h.C h.R.2.2.2.1 h.R.2.2.2.2.1.1
  have h2 := h.R.2.2.2.2.1.2
  refine ⟨h1.1, h.R.2.2.2.2.2.1.2.1, by have := h.A.2.2; omega, fun s hs => ?_⟩
  have h3 := h1.2.2 s hs
  exact ⟨h3.1, by omega, fun k k1 k2 => (h3.2.2.1 k k1 k2).1⟩
theorem CP.ln401 (h : CP D P) : p_ln P < 401 := by
  rw [h.ln]
  have := h.au.n4
  omega
/-- the words of a place, laid flat -/
abbrev CP.wl (D : List Sg) (q : Nat) : List Nat := (List.range 200).filter (atF (frD D) (toD D) (woD D) (neD D) q)
theorem CP.wpl (h : CP D P) (q : Nat) : wpL (p_fr P) (p_to P) (p_wo P) (p_ne P) q = CP.wl D q := by
  rw [wpL_at]
  apply List.filter_congr
  intro w _
  unfold atF
  rw [h.ed.1]
  rw [Bool.eq_iff_iff, List.any_eq_true, List.any_eq_true]
  constructor
  · rintro ⟨e, he, h1⟩
    refine ⟨e, he, ?_⟩
    have hl := List.mem_range.mp he
    obtain ⟨e1, e2, e3, _⟩ := h.ed.2 e (by rw [h.ed.1]; exact hl)
    rw [h.pl e (by rw [h.ed.1]; omega), e1, e3] at h1
    exact h1
  · rintro ⟨e, he, h1⟩
    refine ⟨e, he, ?_⟩
    have hl := List.mem_range.mp he
    obtain ⟨e1, e2, e3, _⟩ := h.ed.2 e (by rw [h.ed.1]; exact hl)
    rw [h.pl e (by rw [h.ed.1]; omega), e1, e3]
    exact h1
theorem CP.wLs_get {f : Nat → List Nat} {wd : Nat → Nat} : ∀ {n : Nat}, (List.range (wLs f n).length).map wd = wLs f n → ∀ q, q < n → (List.range ((wLs f (q + 1)).length - (wLs f q).length)).map (fun k => wd ((wLs f q).length + k)) = f q
  | 0, _, q, hq => absurd hq (Nat.not_lt_zero _)
  | n + 1, h, q, hq => by
    rw [wLs_succ, List.length_append, List.range_add, List.map_append] at h
    obtain ⟨h1, h2⟩ := List.append_inj h (by rw [List.length_map, List.length_range])
    by_cases c : q = n
    · subst c
      rw [wLs_succ, List.length_append, Nat.add_sub_cancel_left]
      rw [List.map_map] at h2
      exact h2
    · exact CP.wLs_get h1 q (by omega)
theorem CP.wla (h : CP D P) {q : Nat} (hq : q < p_ps P) : wlA (p_sv P) (p_wd P) q = CP.wl D q := by
  obtain ⟨_, f2, f3, _⟩ := h.R.2.2.2.2.2.2.2.2
  unfold wlA
  rw [f2 q (by omega), f2 (q + 1) (by omega), CP.wLs_get f3 q hq, h.wpl]
theorem CP.sv (h : CP D P) : ∀ q, q < p_ps P → p_sv P q ≤ p_sv P (q + 1) ∧ p_sv P (q + 1) ≤ 512 := fun q hq => by
  obtain ⟨_, f2, f3, _⟩ := h.R.2.2.2.2.2.2.2.2
  rw [f2 q (by omega), f2 (q + 1) (by omega)]
  refine ⟨wLs_mono _ (by omega), Nat.le_trans (wLs_most _ _ _ _ _) h.gs.1.1⟩
theorem CP.wl_len (h : CP D P) {q : Nat} (hq : q < p_ps P) : p_sv P (q + 1) - p_sv P q = (CP.wl D q).length := by
  rw [← h.wla hq]
  unfold wlA
  rw [List.length_map, List.length_range]
theorem CP.wd (h : CP D P) : ∀ q, q < p_ps P → ∀ j, p_sv P q ≤ j → j < p_sv P (q + 1) → p_wd P j < 200 := fun q hq j h1 h2 => by
  have := wlA_mem (wd := p_wd P) h1 h2
  rw [h.wla hq] at this
  exact List.mem_range.mp (List.mem_filter.mp this).1
theorem CP.sp (h : CP D P) {q : Nat} (hq : q ≤ p_ps P) : p_sp P q = spG (fun p => (CP.wl D p).length) (p_ps P - q) q := by
  obtain ⟨_, _, _, f4⟩ := h.R.2.2.2.2.2.2.2.2
  rw [f4 q hq]
  exact spG_ext (fun p _ _ => by rw [h.wpl])
theorem CP.sp_le (h : CP D P) : ∀ q, q ≤ p_ps P → p_sp P q ≤ 4000000000000000000 := fun q hq => by
  rw [h.sp hq]
  exact spG_le _ _
end
/-- the rows of two explorations of the same segments -/
theorem map_inj {α : Type} {f g : Nat → α} : ∀ {n : Nat}, (List.range n).map f = (List.range n).map g → ∀ k, k < n → f k = g k := fun h => lst_inj h
theorem AU.eq {D : List Sg} {me as_ aw at_ me' as' aw' at' : Nat → Nat} {cnt arcs cnt' arcs' : Nat} (A : AU D me as_ aw at_ cnt arcs) (B : AU D me' as' aw' at' cnt' arcs') : cnt' = cnt ∧ arcs' = arcs ∧ (∀ s, s < cnt → mS me' s = mS me s) ∧ (∀ s, s ≤ cnt → as' s = as_ s) ∧ ∀ k, k < arcs → aw' k = aw k ∧ at' k = at_ k := by
  have h := B.h.trans A.h.symm
  injection h with h1 h2
  injection h2 with h2 h3
  injection h3 with h3 _
  have e1 : cnt' = cnt := by have := congrArg List.length h1; rw [lsS_len, lsS_len] at this; exact this
  have e2 : arcs' = arcs := by have := congrArg List.length h2; rw [lsA_len, lsA_len] at this; exact this
  subst e1 e2
  refine ⟨rfl, rfl, map_inj h1, fun s hs => ?_, fun k hk => ?_⟩
  · by_cases c : s = cnt'
    · rw [c, A.hP, B.hP]
    · exact map_inj h3 s (by omega)
  · have := map_inj h2 k hk
    injection this with a b
    exact ⟨a, b⟩
theorem AU.arE {D : List Sg} {me as_ aw at_ me' as' aw' at' : Nat → Nat} {cnt arcs cnt' arcs' : Nat} (A : AU D me as_ aw at_ cnt arcs) (B : AU D me' as' aw' at' cnt' arcs') {s : Nat} (hs : s < cnt) : arL as' aw' at' s = arL as_ aw at_ s := by
  obtain ⟨_, e2, _, e4, e5⟩ := A.eq B
  have h1 := (exD_T A.C A.h A.hP).2.2 s hs
  unfold arL
  rw [e4 s (by omega), e4 (s + 1) (by omega)]
  refine List.map_congr_left (fun k hk => ?_)
  have := List.mem_range.mp hk
  obtain ⟨a, b⟩ := e5 (as_ s + k) (by omega)
  rw [a, b]
theorem AU.afE {D : List Sg} {me as_ aw at_ me' as' aw' at' : Nat → Nat} {cnt arcs cnt' arcs' : Nat} (A : AU D me as_ aw at_ cnt arcs) (B : AU D me' as' aw' at' cnt' arcs') {s : Nat} (hs : s < cnt) (x : Int) : afO as' aw' at' s x = afO as_ aw at_ s x := by
  obtain ⟨_, e2, _, e4, e5⟩ := A.eq B
  have h1 := (exD_T A.C A.h A.hP).2.2 s hs
  unfold afO
  rw [e4 s (by omega), e4 (s + 1) (by omega)]
  have hc : fnd (fun k => ((aw' (as_ s + k) : Nat) : Int) == x) (as_ (s + 1) - as_ s) = fnd (fun k => ((aw (as_ s + k) : Nat) : Int) == x) (as_ (s + 1) - as_ s) := fnd_congr (fun j hj => by rw [(e5 (as_ s + j) (by omega)).1])
  rw [hc]
  cases hf : fnd (fun k => ((aw (as_ s + k) : Nat) : Int) == x) (as_ (s + 1) - as_ s) with
  | none => rfl
  | some k =>
    have := (fnd_spec hf).1
    show some (at' (as_ s + k)) = some (at_ (as_ s + k))
    rw [(e5 (as_ s + k) (by omega)).2]
theorem AU.enE {D : List Sg} {me as_ aw at_ me' as' aw' at' : Nat → Nat} {cnt arcs cnt' arcs' : Nat} (A : AU D me as_ aw at_ cnt arcs) (B : AU D me' as' aw' at' cnt' arcs') {s : Nat} (hs : s < cnt) : waE me' (lsB 0 D) s = waE me (lsB 0 D) s := by
  rw [A.ends, B.ends, (A.eq B).2.2.1 s hs]
theorem AU.afT {D : List Sg} {me as_ aw at_ : Nat → Nat} {cnt arcs : Nat} (A : AU D me as_ aw at_ cnt arcs) {s t : Nat} {x : Int} (hs : s < cnt) (h : afO as_ aw at_ s x = some t) : ∃ w : Nat, x = (w : Int) ∧ (w, t) ∈ arL as_ aw at_ s ∧ t < cnt := by
  unfold afO at h
  cases hf : fnd (fun k => ((aw (as_ s + k) : Nat) : Int) == x) (as_ (s + 1) - as_ s) with
  | none => rw [hf] at h; cases h
  | some k =>
    rw [hf] at h
    injection h with h
    have h : at_ (as_ s + k) = t := h
    obtain ⟨h1, h2, _⟩ := fnd_spec hf
    rw [beq_iff_eq] at h2
    have hm := arL_in (aw := aw) (at_ := at_) (show as_ s ≤ as_ s + k by omega) (show as_ s + k < as_ (s + 1) by omega)
    have := (A.arc hs hm).1.2
    dsimp only at this
    rw [h] at hm this
    exact ⟨aw (as_ s + k), h2.symm, hm, this⟩
theorem nK_ext {ar ar' : Nat → List (Nat × Nat)} {en en' : Nat → Nat} {cnt : Nat} (ha : ∀ s, s < cnt → ar' s = ar s) (he : ∀ s, s < cnt → en' s = en s) (hc : ∀ s, s < cnt → ∀ p ∈ ar s, p.2 < cnt) : ∀ k s, s < cnt → nK ar' en' k s = nK ar en k s
  | 0, s, hs => he s hs
  | k + 1, s, hs => by
    show ((ar' s).map _).sum = _
    rw [ha s hs]
    exact sumE (fun p hp => nK_ext ha he hc k p.2 (hc s hs p hp))
theorem nA_ext {ar ar' : Nat → List (Nat × Nat)} {en en' : Nat → Nat} {cnt : Nat} (ha : ∀ s, s < cnt → ar' s = ar s) (he : ∀ s, s < cnt → en' s = en s) (hc : ∀ s, s < cnt → ∀ p ∈ ar s, p.2 < cnt) : ∀ k s, s < cnt → nA_ ar' en' k s = nA_ ar en k s
  | 0, s, hs => he s hs
  | k + 1, s, hs => by
    show nA_ ar' en' k s + nK ar' en' (k + 1) s = _
    rw [nA_ext ha he hc k s hs, nK_ext ha he hc (k + 1) s hs]
    rfl
theorem cmF_ext {B : Nat → Nat → Bool} {ps : Nat} {ar ar' : Nat → List (Nat × Nat)} {en en' : Nat → Nat} {cnt : Nat} (ha : ∀ s, s < cnt → ar' s = ar s) (he : ∀ s, s < cnt → en' s = en s) (hc : ∀ s, s < cnt → ∀ p ∈ ar s, p.2 < cnt) : ∀ k s, s < cnt → cmF B ps ar' en' k s = cmF B ps ar en k s
  | 0, s, hs => he s hs
  | k + 1, s, hs => by
    show ((ar' s).map _).sum = _
    rw [ha s hs]
    refine sumE (fun p hp => ?_)
    rw [cmF_ext ha he hc k p.2 (hc s hs p hp)]
theorem cmF_B {B B' : Nat → Nat → Bool} {ps : Nat} {ar : Nat → List (Nat × Nat)} {en : Nat → Nat} (hB : B = B') (k s : Nat) : cmF B ps ar en k s = cmF B' ps ar en k s := by rw [hB]
