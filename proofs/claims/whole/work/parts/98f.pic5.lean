/-! THE PICTURE, 5: the class's and the reference's -/
def PP (D : List Sg) (P : PT) (m : MS) : Prop := (CP D P) ∧ (picM D m.mnn m.mne m.mnm m.mns m.mna m.mnp m.mfr m.mto m.mwo m.mte m.mma m.mmm m.mml m.mmt m.mmb m.mbe m.mao m.mse m.mxf m.mxw m.mxt m.mal m.mco m.mpm m.mia m.mfl) ∧ (∀ j, m.mse j < 18446744073709551616)
theorem PP.c {D : List Sg} {P : PT} {m : MS} (h_ : PP D P m) : CP D P := h_.1
theorem PP.M {D : List Sg} {P : PT} {m : MS} (h_ : PP D P m) : picM D m.mnn m.mne m.mnm m.mns m.mna m.mnp m.mfr m.mto m.mwo m.mte m.mma m.mmm m.mml m.mmt m.mmb m.mbe m.mao m.mse m.mxf m.mxw m.mxt m.mal m.mco m.mpm m.mia m.mfl := h_.2.1
theorem PP.se {D : List Sg} {P : PT} {m : MS} (h_ : PP D P m) : ∀ j, m.mse j < 18446744073709551616 := h_.2.2
theorem atF_ext {fr fr' to to' : Nat → Nat} {wo wo' : Nat → Int} {ne : Nat} (h : ∀ e, e < ne → fr' e = fr e ∧ to' e = to e ∧ wo' e = wo e) : atF fr' to' wo' ne = atF fr to wo ne := by
  have hp : ∀ n, n ≤ ne → ∀ v, plF fr' to' wo' n v = plF fr to wo n v := by
    intro n
    induction n with
    | zero => intro _ v; rfl
    | succ n ih =>
      intro hn v
      obtain ⟨e1, e2, e3⟩ := h n (by omega)
      unfold plF
      rw [ih (by omega), ih (by omega), e1, e2, e3]
  funext q w
  unfold atF
  rw [Bool.eq_iff_iff, List.any_eq_true, List.any_eq_true]
  constructor
  · rintro ⟨e, he, h1⟩
    have hl := List.mem_range.mp he
    obtain ⟨e1, e2, e3⟩ := h e hl
    rw [hp e (by omega), e1, e3] at h1
    exact ⟨e, he, h1⟩
  · rintro ⟨e, he, h1⟩
    have hl := List.mem_range.mp he
    obtain ⟨e1, e2, e3⟩ := h e hl
    exact ⟨e, he, by rw [hp e (by omega), e1, e3]; exact h1⟩
theorem plF_ext {fr fr' to to' : Nat → Nat} {wo wo' : Nat → Int} {ne : Nat} (h : ∀ e, e < ne → fr' e = fr e ∧ to' e = to e ∧ wo' e = wo e) : ∀ n, n ≤ ne → ∀ v, plF fr' to' wo' n v = plF fr to wo n v := by
  intro n
  induction n with
  | zero => intro _ v; rfl
  | succ n ih =>
    intro hn v
    obtain ⟨e1, e2, e3⟩ := h n (by omega)
    unfold plF
    rw [ih (by omega), ih (by omega), e1, e2, e3]
section
variable {D : List Sg} {P : PT} {m : MS}
abbrev PP.bt (P : PT) : Nat → Nat → Nat := btO (p_ps P) (p_fa P) (p_fw P)
abbrev PP.Rc (D : List Sg) (P : PT) : Nat → Nat → Prop := AU.Rc D (p_me P)
abbrev PP.A (D : List Sg) : Nat → Nat → Bool := atF (frD D) (toD D) (woD D) (neD D)
theorem PP.nn (h : PP D P m) : m.mnn = lsB 0 D + 1 := h.M.1.2.2.2.1
theorem PP.nn' (h : PP D P m) : m.mnn - 1 = lsB 0 D := by rw [h.nn]; rfl
theorem PP.nnP (h : PP D P m) : m.mnn = p_nn P := by rw [h.nn, h.c.nn]
theorem PP.nn4 (h : PP D P m) : 1 ≤ m.mnn ∧ m.mnn ≤ 401 := ⟨by rw [h.nn]; omega, h.M.1.2.2.2.2⟩
theorem PP.auM (h : PP D P m) : AU D m.mse m.mxf m.mxw m.mxt m.mns m.mna :=
  ⟨(h.c.C),
  (h.c.l16),
  (h.c.au.n4),
  (h.M.2.2.2.2.2.2.1.1),
  (h.M.2.2.2.2.2.2.1.2),
  (h.se)⟩
theorem PP.ed (h : PP D P m) : m.mne = neD D ∧ ∀ e, e < m.mne → m.mfr e = frD D e ∧ m.mto e = toD D e ∧ m.mwo e = woD D e ∧ m.mte e = teD D e := eL_at h.M.2.2.1
theorem PP.ne (h : PP D P m) : m.mne = p_ne P := by rw [h.ed.1, h.c.ed.1]
theorem PP.edP (h : PP D P m) : ∀ e, e < p_ne P → m.mfr e = p_fr P e ∧ m.mto e = p_to P e ∧ m.mwo e = p_wo P e ∧ m.mte e = p_te P e := fun e he => by
  obtain ⟨a1, a2, a3, a4⟩ := h.ed.2 e (by rw [h.ne]; exact he)
  obtain ⟨b1, b2, b3, b4⟩ := h.c.ed.2 e he
  rw [a1, a2, a3, a4, b1, b2, b3, b4]
  exact ⟨rfl, rfl, rfl, rfl⟩
theorem PP.nm (h : PP D P m) : m.mnm = p_nm P := by rw [h.M.1.1, h.c.nm]
theorem PP.ns (h : PP D P m) : m.mns = p_cnt P := (h.c.au.eq h.auM).1
theorem PP.arE (h : PP D P m) {s : Nat} (hs : s < p_cnt P) : arL m.mxf m.mxw m.mxt s = CP.ar P s := h.c.au.arE h.auM hs
theorem PP.afE (h : PP D P m) {s : Nat} (hs : s < p_cnt P) (x : Int) : afO m.mxf m.mxw m.mxt s x = afO (p_as_ P) (p_aw P) (p_at_ P) s x := h.c.au.afE h.auM hs x
theorem PP.enE (h : PP D P m) {s : Nat} (hs : s < p_cnt P) : waE m.mse (m.mnn - 1) s = waE (p_me P) (p_ln P) s := by
  rw [h.nn', h.c.ln]
  exact h.c.au.enE h.auM hs
theorem PP.sBE (h : PP D P m) {s : Nat} (hs : s < p_cnt P) : sB m.mse s (m.mnn - 1) = sB (p_me P) s (p_ln P) := by
  have h4 := h.c.au.n4
  rw [h.nn', h.c.ln, sB_mS h.se s (by omega), sB_mS h.c.A.1 s (by omega), (h.c.au.eq h.auM).2.2.1 s hs]
theorem PP.arc (h : PP D P m) {s : Nat} (hs : s < p_cnt P) {p : Nat × Nat} (hp : p ∈ CP.ar P s) : p.1 < 200 ∧ p.2 < p_cnt P := (h.c.au.arc hs hp).1
theorem PP.at_ (h : PP D P m) : atF m.mfr m.mto m.mwo m.mne = PP.A D := by
  rw [h.ed.1]
  exact atF_ext (fun e he => by obtain ⟨a, b, c, _⟩ := h.ed.2 e (by rw [h.ed.1]; exact he); exact ⟨a, b, c⟩)
theorem PP.np (h : PP D P m) : m.mnp = p_ps P := by
  rw [h.M.2.2.2.2.2.2.2.2.1.1, h.nn', h.c.fr_]
  rw [plF_ext (fun e he => by obtain ⟨a, b, c, _⟩ := h.ed.2 e he; exact ⟨a, b, c⟩) m.mne (Nat.le_refl _), h.ed.1]
theorem PP.np64 (h : PP D P m) : m.mnp ≤ 64 := h.M.2.2.2.2.2.2.2.2.1.2
theorem PP.hxa (h : PP D P m) : ∀ s, s < m.mns → m.mxf s ≤ m.mxf (s + 1) ∧ m.mxf (s + 1) ≤ 60000 ∧ ∀ k, m.mxf s ≤ k → k < m.mxf (s + 1) → m.mxw k < 200 ∧ m.mxt k < m.mns := h.M.2.2.2.2.2.2.2.1.2
theorem PP.ns3 (h : PP D P m) : m.mns ≤ 300 := h.M.2.2.2.2.2.2.2.1.1
theorem PP.ns0 (h : PP D P m) : 0 < m.mns := h.auM.pos
theorem PP.al (h : PP D P m) {s : Nat} (hs : s < p_cnt P) : m.mal s = p_wy P s := by
  rw [h.M.2.2.2.2.2.2.2.2.2.2.2.2.1 s (by rw [h.ns]; exact hs), ← h.c.wy_nA hs, h.np, h.nn']
  exact nA_ext (cnt := p_cnt P) (fun s hs => h.arE hs) (fun s hs => h.c.au.enE h.auM hs) (fun s hs p hp => (h.arc hs hp).2) _ s hs
theorem PP.fl (h : PP D P m) {q : Nat} (hq : q ≤ p_ps P) : m.mfl q = p_sp P q := by
  rw [h.M.2.2.2.2.2.2.2.2.2.2.1 q (by rw [h.np]; exact hq), h.c.sp hq, h.np]
  refine spG_ext (fun p _ _ => ?_)
  unfold cnA
  rw [h.at_]
theorem PP.co' (h : PP D P m) {q s : Nat} (hs : s < p_cnt P) (hq : q ≤ p_ps P) : m.mco (66 * s + q) = cmF (PP.A D) (p_ps P) (CP.ar P) (waE (p_me P) (lsB 0 D)) (p_ps P - q) s := by
  rw [h.M.2.2.2.2.2.2.2.2.2.2.2.1 q s (by rw [h.np]; exact hq) (by rw [h.ns]; exact hs), h.np, h.nn', h.at_]
  exact cmF_ext (cnt := p_cnt P) (fun s hs => h.arE hs) (fun s hs => h.c.au.enE h.auM hs) (fun s hs p hp => (h.arc hs hp).2) _ s hs
theorem PP.co (h : PP D P m) {q s : Nat} (hs : s < p_cnt P) (hq : q ≤ p_ps P) (hr : PP.Rc D P q s) : m.mco (66 * s + q) = PP.bt P q s := by
  rw [h.co' hs hq, show PP.bt P q s = _ from h.c.bt hs hr, h.c.fr_]
  refine h.c.au.cm _ s hs (by omega) ?_
  rw [show PLD D (lsB 0 D) - (PLD D (lsB 0 D) - q) = q by have := h.c.fr_; omega]
  exact hr
theorem PP.co0 (h : PP D P m) : m.mco 0 = PP.bt P 0 0 := h.co (q := 0) (s := 0) h.c.au.pos (Nat.zero_le _) (AU.Rc0 D _ 0)
theorem PP.RcS (h : PP D P m) {n s : Nat} (hs : s < p_cnt P) {p : Nat × Nat} (hp : p ∈ CP.ar P s) (hr : PP.Rc D P n s) : PP.Rc D P (n + 1) p.2 := h.c.au.RcS hs hp hr
theorem PP.Rle (h : PP D P m) {n s : Nat} (hs : s < p_cnt P) (hr : PP.Rc D P n s) : n ≤ p_ps P := by
  have := h.c.fa_le hs hr
  omega
theorem PP.xa (h : PP D P m) {s k : Nat} (hs : s < m.mns) (h1 : m.mxf s ≤ k) (h2 : k < m.mxf (s + 1)) : (m.mxw k, m.mxt k) ∈ CP.ar P s := by
  rw [← h.arE (by rw [← h.ns]; exact hs)]
  exact arL_in h1 h2
theorem PP.mat_ (h : PP D P m) {k : Nat} (hk : k < p_nm P) : m.mma k = p_mb P k ∧ m.mmm k = p_mw P k ∧ m.mml k = p_ml P k ∧ m.mmt k = p_ma P k ∧ m.mmb k = p_bo P k := by
  have h1 := h.M.2.2.2.2.1
  have hk2 : k < D.length := by rw [← h.c.nm]; exact hk
  have h2 := lst_get (fun k => (m.mma k, m.mmm k, m.mml k, m.mmt k, m.mmb k)) (show k < m.mnm by rw [h.nm]; exact hk)
  rw [h1, List.getElem?_map, List.getElem?_eq_getElem hk2] at h2
  obtain ⟨g1, g2, g3, g4, g5, _⟩ := h.c.gr.2.2.2.1 k D[k] (List.getElem?_eq_getElem hk2)
  injection h2 with h2
  injection h2 with e1 h2
  injection h2 with e2 h2
  injection h2 with e3 h2
  injection h2 with e4 e5
  rw [g1, g2, g3, g4, g5]
  exact ⟨e1.symm, e2.symm, e3.symm, e4.symm, e5.symm⟩
theorem PP.hal (h : PP D P m) : ∀ s, s < m.mns → m.mal s < 4611686018427387904 ∧ m.mal s = (waE m.mse (m.mnn - 1)) s + (((arL m.mxf m.mxw m.mxt) s).map (fun p => m.mal p.2)).sum := fun s hs => by
  rw [h.ns] at hs
  refine ⟨by rw [h.al hs]; exact (h.c.hW s hs).1, ?_⟩
  rw [h.al hs, h.enE hs, h.arE hs, h.c.hw s hs, h.c.ln]
  congr 1
  exact sumE (fun p hp => (h.al (h.arc hs hp).2).symm)
theorem PP.hed (h : PP D P m) : ∀ e, e < m.mne → (m.mfr e < m.mto e ∧ m.mto e < m.mnn) ∧ (-2 ≤ m.mwo e ∧ m.mwo e < 200) ∧ m.mte e ≤ 10 := fun e he => by
  have g := (GM h.M.2.2.1 h.c.C h.c.l16).1 e he
  rw [h.nn]
  exact ⟨g.1, g.2, h.M.2.2.2.1 e he⟩
end
/-! the same answer out of the same rows -/
theorem pkA_ext {hr hr' : Nat → Nat} : ∀ {l : List (Nat × Nat)} {a : Nat}, (∀ p ∈ l, hr' p.2 = hr p.2) → pkA hr' l a = pkA hr l a
  | [], _, _ => rfl
  | p :: l, a, h => by
    unfold pkA
    rw [h p List.mem_cons_self, pkA_ext (fun q hq => h q (List.mem_cons_of_mem _ hq))]
theorem pkA_mem {hr : Nat → Nat} : ∀ {l : List (Nat × Nat)} {a : Nat} {q : Nat × Nat × Nat}, pkA hr l a = some q → (q.1, q.2.1) ∈ l ∧ q.2.2 < hr q.2.1
  | [], _, _, h => by cases h
  | p :: l, a, q, h => by
    unfold pkA at h
    by_cases c : a < hr p.2
    · rw [if_pos c] at h
      injection h with h
      rw [← h]
      exact ⟨List.mem_cons_self, c⟩
    · rw [if_neg c] at h
      have := pkA_mem h
      exact ⟨List.mem_cons_of_mem _ this.1, this.2⟩
theorem spP_ext {ar ar' : Nat → List (Nat × Nat)} {en en' : Nat → Nat → Bool} {hr hr' : Nat → Nat → Nat} {cnt : Nat} (ha : ∀ s, s < cnt → ar' s = ar s) (he : ∀ i s, s < cnt → en' i s = en i s) (hh : ∀ i s, s < cnt → hr' i s = hr i s) (hc : ∀ s, s < cnt → ∀ p ∈ ar s, p.2 < cnt) : ∀ n i s a, s < cnt → spP ar' en' hr' n i s a = spP ar en hr n i s a
  | 0, _, _, _, _ => rfl
  | n + 1, i, s, a, hs => by
    unfold spP
    rw [he i s hs, ha s hs, pkA_ext (fun p hp => hh (i + 1) p.2 (hc s hs p hp))]
    split
    · rfl
    · cases hp : pkA (hr (i + 1)) (ar s) (if en i s = true then a - 1 else a) with
      | none => rfl
      | some q =>
        show q.1 :: _ = q.1 :: _
        rw [spP_ext ha he hh hc n (i + 1) q.2.1 q.2.2 (hc s hs _ (pkA_mem hp).1)]
theorem spP_all {ar : Nat → List (Nat × Nat)} {en : Nat → Nat → Bool} {hr : Nat → Nat → Nat} {cnt B : Nat} {R : Nat → Nat → Prop} {Q : Nat → Prop} (hR : ∀ i s, s < cnt → R i s → i ≤ B) (hs : ∀ i s, s < cnt → R i s → ∀ p ∈ ar s, p.2 < cnt ∧ R (i + 1) p.2 ∧ Q p.1) : ∀ n i s a, s < cnt → R i s → i + (spP ar en hr n i s a).length ≤ B ∧ ∀ x ∈ spP ar en hr n i s a, Q x
  | 0, i, s, _, h1, h2 => ⟨hR i s h1 h2, fun x hx => by cases hx⟩
  | n + 1, i, s, a, h1, h2 => by
    unfold spP
    split
    · exact ⟨hR i s h1 h2, fun x hx => by cases hx⟩
    · cases hp : pkA (hr (i + 1)) (ar s) (if en i s = true then a - 1 else a) with
      | none => exact ⟨hR i s h1 h2, fun x hx => by cases hx⟩
      | some q =>
        obtain ⟨k1, k2, k3⟩ := hs i s h1 h2 _ (pkA_mem hp).1
        have ih := spP_all (en := en) (hr := hr) hR hs n (i + 1) q.2.1 q.2.2 k1 k2
        show i + (q.1 :: _).length ≤ B ∧ ∀ x ∈ q.1 :: _, Q x
        rw [List.length_cons]
        refine ⟨by omega, fun x hx => ?_⟩
        rcases List.mem_cons.mp hx with rfl | hx
        · exact k3
        · exact ih.2 x hx
theorem nbR_ext {af af' : Nat → Int → Option Nat} {en en' : Nat → Nat} {bw bw' : Nat → Int → Nat} {cnt : Nat} (ha : ∀ s, s < cnt → ∀ x, af' s x = af s x) (he : ∀ s, s < cnt → en' s = en s) (hb : ∀ s, s < cnt → ∀ x, bw' s x = bw s x) (hc : ∀ s, s < cnt → ∀ x t, af s x = some t → t < cnt) : ∀ (l : List Int) (s a : Nat), s < cnt → nbR af' en' bw' l s a = nbR af en bw l s a
  | [], s, a, hs => by
    rw [nbR_nil, nbR_nil, he s hs]
  | x :: l, s, a, hs => by
    rw [nbR_cons, nbR_cons, ha s hs, he s hs, hb s hs]
    cases hx : af s x with
    | none => rfl
    | some t => exact nbR_ext ha he hb hc l t _ (hc s hs x t hx)
theorem lkR_ext {af af' : Nat → Int → Option Nat} {en en' : Nat → Nat} {cnt : Nat} (ha : ∀ s, s < cnt → ∀ x, af' s x = af s x) (he : ∀ s, s < cnt → en' s = en s) (hc : ∀ s, s < cnt → ∀ x t, af s x = some t → t < cnt) : ∀ (l : List Int) (o : Option Nat) (k : Nat) (r : Nat × Nat), (∀ s, o = some s → s < cnt) → lkR af' en' l o k r = lkR af en l o k r
  | [], o, k, r, _ => rfl
  | x :: l, none, k, r, _ => by rw [lkR_none, lkR_none]
  | x :: l, some s, k, r, ho => by
    have hs := ho s rfl
    rw [lkR_some, lkR_some, ha s hs]
    cases hx : af s x with
    | none => rw [lkR_none, lkR_none]
    | some t =>
      have ht := hc s hs x t hx
      dsimp only
      rw [he t ht]
      exact lkR_ext ha he hc l (some t) _ _ (fun s hs => by injection hs with hs; rw [← hs]; exact ht)
theorem pkF_ext {sn sn' : Nat → Option Nat} {hr hr' : Option Nat → Nat} : ∀ {l : List Nat} {a : Nat}, (∀ w ∈ l, sn' w = sn w ∧ hr' (sn w) = hr (sn w)) → pkF sn' hr' l a = pkF sn hr l a
  | [], _, _ => rfl
  | w :: l, a, h => by
    obtain ⟨h1, h2⟩ := h w List.mem_cons_self
    unfold pkF
    rw [h1, h2, pkF_ext (fun q hq => h q (List.mem_cons_of_mem _ hq))]
theorem pkF_mem {sn : Nat → Option Nat} {hr : Option Nat → Nat} : ∀ {l : List Nat} {a b : Nat} {q : Nat × Option Nat}, pkF sn hr l a = (some q, b) → q.1 ∈ l ∧ q.2 = sn q.1 ∧ b < hr q.2
  | [], _, _, _, h => by cases h
  | w :: l, a, b, q, h => by
    unfold pkF at h
    by_cases c : a < hr (sn w)
    · rw [if_pos c] at h
      injection h with h h2
      injection h with h
      rw [← h, ← h2]
      exact ⟨List.mem_cons_self, rfl, c⟩
    · rw [if_neg c] at h
      have := pkF_mem h
      exact ⟨List.mem_cons_of_mem _ this.1, this.2⟩
theorem pkF_some {sn : Nat → Option Nat} {hr : Option Nat → Nat} : ∀ {l : List Nat} {a : Nat}, a < (l.map (fun w => hr (sn w))).sum → ∃ q b, pkF sn hr l a = (some q, b)
  | [], a, h => by simp at h
  | w :: l, a, h => by
    rw [List.map_cons, List.sum_cons] at h
    unfold pkF
    by_cases c : a < hr (sn w)
    · exact ⟨_, _, if_pos c⟩
    · rw [if_neg c]
      exact pkF_some (by omega)
theorem spF_ext {wl wl' : Nat → List Nat} {af af' : Nat → Int → Option Nat} {hr hr' : Nat → Option Nat → Nat} {cnt ps : Nat} (hw : ∀ p, p < ps → wl' p = wl p) (ha : ∀ s, s < cnt → ∀ x, af' s x = af s x) (hh : ∀ p o, p ≤ ps → (∀ s, o = some s → s < cnt) → hr' p o = hr p o) (hc : ∀ s, s < cnt → ∀ x t, af s x = some t → t < cnt) : ∀ n p o a, p + n ≤ ps → (∀ s, o = some s → s < cnt) → spF wl' af' hr' n p o a = spF wl af hr n p o a
  | 0, _, _, _, _, _ => rfl
  | n + 1, p, o, a, hn, ho => by
    have hb : ∀ w : Nat, (o.bind (fun s => af' s (w : Int))) = o.bind (fun s => af s (w : Int)) := fun w => by
      cases o with
      | none => rfl
      | some s => exact ha s (ho s rfl) _
    have hb2 : ∀ (w : Nat) (s : Nat), o.bind (fun s => af s (w : Int)) = some s → s < cnt := fun w t ht => by
      cases o with
      | none => cases ht
      | some s => exact hc s (ho s rfl) _ t ht
    unfold spF
    rw [hw p (by omega), pkF_ext (sn := fun w => o.bind (fun s => af s (w : Int))) (hr := hr (p + 1)) (fun w _ => ⟨hb w, hh (p + 1) _ (by omega) (hb2 w)⟩)]
    cases hq : pkF (fun w => o.bind (fun s => af s (w : Int))) (hr (p + 1)) (wl p) a with
    | mk x b =>
      cases x with
      | none => exact spF_ext hw ha hh hc n (p + 1) o b (by omega) ho
      | some q =>
        show q.1 :: _ = q.1 :: _
        rw [spF_ext hw ha hh hc n (p + 1) q.2 b (by omega) (fun s hs => hb2 q.1 s (by rw [← (pkF_mem hq).2.1]; exact hs))]
theorem spF_full {wl : Nat → List Nat} {af : Nat → Int → Option Nat} {hr : Nat → Option Nat → Nat} {ps : Nat} {I : Nat → Option Nat → Prop} (hI : ∀ p o, p < ps → I p o → hr p o ≤ ((wl p).map (fun w : Nat => hr (p + 1) (o.bind (fun s => af s (w : Int))))).sum ∧ ∀ w ∈ wl p, I (p + 1) (o.bind (fun s => af s (w : Int)))) : ∀ n p o a, p + n ≤ ps → I p o → a < hr p o → (spF wl af hr n p o a).length = n
  | 0, _, _, _, _, _, _ => rfl
  | n + 1, p, o, a, hn, hi, ha => by
    obtain ⟨h1, h2⟩ := hI p o (by omega) hi
    obtain ⟨q, b, hq⟩ := pkF_some (sn := fun w => o.bind (fun s => af s (w : Int))) (hr := hr (p + 1)) (l := wl p) (a := a) (by omega)
    obtain ⟨k1, k2, k3⟩ := pkF_mem hq
    unfold spF
    rw [hq]
    show (q.1 :: _).length = n + 1
    rw [List.length_cons, spF_full hI n (p + 1) q.2 b (by omega) (by rw [k2]; exact h2 q.1 k1) k3]
