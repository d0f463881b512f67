/-! Graph: lay -/
abbrev Sg : Type := Nat × Nat × Int × Nat × Nat × Nat × List Ed
abbrev Sg.at_ (s : Sg) : Nat := s.1
abbrev Sg.wd (s : Sg) : Nat := s.2.1
abbrev Sg.lf (s : Sg) : Int := s.2.2.1
abbrev Sg.al (s : Sg) : Nat := s.2.2.2.1
abbrev Sg.bd (s : Sg) : Nat := s.2.2.2.2.1
abbrev Sg.nx (s : Sg) : Nat := s.2.2.2.2.2.1
abbrev Sg.es (s : Sg) : List Ed := s.2.2.2.2.2.2
/-- the greatest tenths of the edges out of b -/
def gtE (b : Nat) : List Ed → Nat → Nat
  | [], g => g
  | x :: xs, g => gtE b xs (if x.1 = b then max g x.2.2.2 else g)
def hvS (s : Sg) : List Bool := s.es.map (fun x => decide (x.1 ≠ s.bd ∨ x.2.2.2 = gtE s.bd s.es 0))
def pOK (p : Nat) : Prop := ∀ k, k < plen p → 1 ≤ p / 256 ^ k % 256 ∧ p / 256 ^ k % 256 ≤ 200
def seg (LP AL PH TE : Nat → Nat) (le : Nat) (rw_ : Nat → Nat) (rc i b : Nat) : Sg :=
  if lgs LP le rw_ i (min 4 (rc - i)) < 0 then ⟨i, 1, lgs LP le rw_ i (min 4 (rc - i)), 1, b, b + 1, [(b, b + 1, (rw_ i : Int), 10)]⟩
  else ⟨i, plen (LP (lgs LP le rw_ i (min 4 (rc - i))).toNat), lgs LP le rw_ i (min 4 (rc - i)), AL (lgs LP le rw_ i (min 4 (rc - i))).toNat, b, b + 1 + inn PH (lgs LP le rw_ i (min 4 (rc - i))).toNat (AL (lgs LP le rw_ i (min 4 (rc - i))).toNat), laE b (b + 1 + inn PH (lgs LP le rw_ i (min 4 (rc - i))).toNat (AL (lgs LP le rw_ i (min 4 (rc - i))).toNat)) (b + 1) PH TE (lgs LP le rw_ i (min 4 (rc - i))).toNat (AL (lgs LP le rw_ i (min 4 (rc - i))).toNat)⟩
def segs (LP AL PH TE : Nat → Nat) (le : Nat) (rw_ : Nat → Nat) (rc : Nat) : Nat → Nat → Nat → List Sg
  | 0, _, _ => []
  | f + 1, i, b => if i < rc then seg LP AL PH TE le rw_ rc i b :: segs LP AL PH TE le rw_ rc f (i + (seg LP AL PH TE le rw_ rc i b).wd) (seg LP AL PH TE le rw_ rc i b).nx else []
theorem segs_done (LP AL PH TE : Nat → Nat) (le : Nat) (rw_ : Nat → Nat) (rc : Nat) : ∀ (f : Nat) {i b : Nat}, rc ≤ i → segs LP AL PH TE le rw_ rc f i b = []
  | 0, _, _, _ => rfl
  | f + 1, i, b, h => by unfold segs; rw [if_neg (by omega)]
theorem plen_ppk {nf : Nat → Nat} {at_ n : Nat} (hn : n ≤ 4) (h : ∀ j, j < n → nf (at_ + j) < 200) : plen (ppk nf at_ n) = n := by
  obtain ⟨x, hx⟩ : ∃ x, x = ppk nf at_ n := ⟨_, rfl⟩
  rw [← hx]
  unfold plen
  rcases (show n = 0 ∨ n = 1 ∨ n = 2 ∨ n = 3 ∨ n = 4 by omega) with rfl | rfl | rfl | rfl | rfl
  · simp only [ppk] at hx
    rw [if_pos hx]
  · have h0 := h 0 (by omega)
    simp only [ppk] at hx
    rw [if_neg (by omega), if_pos (by omega)]
  · have h0 := h 0 (by omega)
    have h1 := h 1 (by omega)
    simp only [ppk] at hx
    rw [if_neg (by omega), if_neg (by omega), if_pos (by omega)]
  · have h0 := h 0 (by omega)
    have h1 := h 1 (by omega)
    have h2 := h 2 (by omega)
    simp only [ppk] at hx
    rw [if_neg (by omega), if_neg (by omega), if_neg (by omega), if_pos (by omega)]
  · have h0 := h 0 (by omega)
    have h1 := h 1 (by omega)
    have h2 := h 2 (by omega)
    have h3 := h 3 (by omega)
    simp only [ppk] at hx
    rw [if_neg (by omega), if_neg (by omega), if_neg (by omega), if_neg (by omega)]
theorem lgs_spec {LP : Nat → Nat} {le : Nat} {nf : Nat → Nat} {at_ : Nat} : ∀ {i : Nat}, 0 ≤ lgs LP le nf at_ i → ∃ k, 1 ≤ k ∧ k ≤ i ∧ (lgs LP le nf at_ i).toNat < le ∧ LP (lgs LP le nf at_ i).toNat = ppk nf at_ k
  | 0, h => by simp [lgs] at h
  | i + 1, h => by
    unfold lgs at h ⊢
    cases hf : fnd (fun k => LP k == ppk nf at_ (i + 1)) le with
    | none =>
      rw [hf] at h
      obtain ⟨k, h1, h2, h3⟩ := lgs_spec (i := i) h
      exact ⟨k, h1, by omega, h3⟩
    | some l =>
      obtain ⟨h1, h2, _⟩ := fnd_spec hf
      exact ⟨i + 1, by omega, by omega, by simpa using h1, by simpa using h2⟩
theorem lst_add {α : Type} (f : Nat → α) (n : Nat) : ∀ k, lst f (n + k) = lst f n ++ lst (fun j => f (n + j)) k
  | 0 => by simp [lst]
  | k + 1 => by
    rw [← Nat.add_assoc, lst_succ, lst_succ, lst_add f n k, List.append_assoc]
theorem gtE_app (b : Nat) (Y : List Ed) : ∀ (X : List Ed) (g : Nat), gtE b (X ++ Y) g = gtE b Y (gtE b X g)
  | [], _ => rfl
  | x :: xs, g => by simp only [List.cons_append, gtE]; exact gtE_app b Y xs _
theorem gts_E {fr to : Nat → Nat} {wo : Nat → Int} {te : Nat → Nat} {b f : Nat} : ∀ k, gts fr te b f (f + k) = gtE b (lst (fun j => (fr (f + j), to (f + j), wo (f + j), te (f + j))) k) 0
  | 0 => gts_0 (Nat.le_refl _)
  | k + 1 => by
    rw [lst_succ, gtE_app, ← gts_E k, ← Nat.add_assoc]
    simp only [gts, gtE]
    by_cases h : fr (f + k) = b
    · rw [if_pos ⟨by omega, h⟩, if_pos h]
    · rw [if_neg (fun q => h q.2), if_neg h]
def gR (D : List Sg) (fr to : Nat → Nat) (wo : Nat → Int) (te : Nat → Nat) (hv : Nat → Bool) (fo no : Nat → Int) (mb mw : Nat → Nat) (ml : Nat → Int) (ma : Nat → Nat) (sk : Nat → Int) (bo : Nat → Nat) (nn ne nm : Nat) : Prop := (nm = D.length) ∧ (eL fr to wo te ne = D.flatMap Sg.es) ∧ (chn fr fo no nn ne) ∧ (∀ (k : Nat) (s : Sg), D[k]? = some s → mb k = s.at_ ∧ mw k = s.wd ∧ ml k = s.lf ∧ ma k = s.al ∧ bo k = s.bd ∧ bo (k + 1) = s.nx) ∧ (nn = bo nm + 1) ∧ (∀ (k : Nat) (s : Sg), D[k]? = some s → (sk k < 0 → sk k = -2 ∧ ∀ x ∈ s.es, 0 ≤ x.2.2.1) ∧ (0 ≤ sk k → ∃ e : Nat, sk k = (e : Int) ∧ e < ne ∧ (fr e, to e, wo e, te e) ∈ s.es ∧ wo e < 0)) ∧ (lst hv ne = D.flatMap hvS) ∧ (∀ e, e < ne → te e ≤ 10)
theorem gR.m {D : List Sg} {fr to : Nat → Nat} {wo : Nat → Int} {te : Nat → Nat} {hv : Nat → Bool} {fo no : Nat → Int} {mb mw : Nat → Nat} {ml : Nat → Int} {ma : Nat → Nat} {sk : Nat → Int} {bo : Nat → Nat} {nn ne nm : Nat} (h : gR D fr to wo te hv fo no mb mw ml ma sk bo nn ne nm) : nm = D.length := h.1
theorem gR.e {D : List Sg} {fr to : Nat → Nat} {wo : Nat → Int} {te : Nat → Nat} {hv : Nat → Bool} {fo no : Nat → Int} {mb mw : Nat → Nat} {ml : Nat → Int} {ma : Nat → Nat} {sk : Nat → Int} {bo : Nat → Nat} {nn ne nm : Nat} (h : gR D fr to wo te hv fo no mb mw ml ma sk bo nn ne nm) : eL fr to wo te ne = D.flatMap Sg.es := h.2.1
theorem gR.c {D : List Sg} {fr to : Nat → Nat} {wo : Nat → Int} {te : Nat → Nat} {hv : Nat → Bool} {fo no : Nat → Int} {mb mw : Nat → Nat} {ml : Nat → Int} {ma : Nat → Nat} {sk : Nat → Int} {bo : Nat → Nat} {nn ne nm : Nat} (h : gR D fr to wo te hv fo no mb mw ml ma sk bo nn ne nm) : chn fr fo no nn ne := h.2.2.1
theorem gR.b {D : List Sg} {fr to : Nat → Nat} {wo : Nat → Int} {te : Nat → Nat} {hv : Nat → Bool} {fo no : Nat → Int} {mb mw : Nat → Nat} {ml : Nat → Int} {ma : Nat → Nat} {sk : Nat → Int} {bo : Nat → Nat} {nn ne nm : Nat} (h : gR D fr to wo te hv fo no mb mw ml ma sk bo nn ne nm) : ∀ (k : Nat) (s : Sg), D[k]? = some s → mb k = s.at_ ∧ mw k = s.wd ∧ ml k = s.lf ∧ ma k = s.al ∧ bo k = s.bd ∧ bo (k + 1) = s.nx := h.2.2.2.1
theorem gR.n {D : List Sg} {fr to : Nat → Nat} {wo : Nat → Int} {te : Nat → Nat} {hv : Nat → Bool} {fo no : Nat → Int} {mb mw : Nat → Nat} {ml : Nat → Int} {ma : Nat → Nat} {sk : Nat → Int} {bo : Nat → Nat} {nn ne nm : Nat} (h : gR D fr to wo te hv fo no mb mw ml ma sk bo nn ne nm) : nn = bo nm + 1 := h.2.2.2.2.1
theorem gR.s {D : List Sg} {fr to : Nat → Nat} {wo : Nat → Int} {te : Nat → Nat} {hv : Nat → Bool} {fo no : Nat → Int} {mb mw : Nat → Nat} {ml : Nat → Int} {ma : Nat → Nat} {sk : Nat → Int} {bo : Nat → Nat} {nn ne nm : Nat} (h : gR D fr to wo te hv fo no mb mw ml ma sk bo nn ne nm) : ∀ (k : Nat) (s : Sg), D[k]? = some s → (sk k < 0 → sk k = -2 ∧ ∀ x ∈ s.es, 0 ≤ x.2.2.1) ∧ (0 ≤ sk k → ∃ e : Nat, sk k = (e : Int) ∧ e < ne ∧ (fr e, to e, wo e, te e) ∈ s.es ∧ wo e < 0) := h.2.2.2.2.2.1
theorem gR.h {D : List Sg} {fr to : Nat → Nat} {wo : Nat → Int} {te : Nat → Nat} {hv : Nat → Bool} {fo no : Nat → Int} {mb mw : Nat → Nat} {ml : Nat → Int} {ma : Nat → Nat} {sk : Nat → Int} {bo : Nat → Nat} {nn ne nm : Nat} (h : gR D fr to wo te hv fo no mb mw ml ma sk bo nn ne nm) : lst hv ne = D.flatMap hvS := h.2.2.2.2.2.2.1
theorem gR.t {D : List Sg} {fr to : Nat → Nat} {wo : Nat → Int} {te : Nat → Nat} {hv : Nat → Bool} {fo no : Nat → Int} {mb mw : Nat → Nat} {ml : Nat → Int} {ma : Nat → Nat} {sk : Nat → Int} {bo : Nat → Nat} {nn ne nm : Nat} (h : gR D fr to wo te hv fo no mb mw ml ma sk bo nn ne nm) : ∀ e, e < ne → te e ≤ 10 := h.2.2.2.2.2.2.2
theorem gR_0 {fr to : Nat → Nat} {wo : Nat → Int} {te : Nat → Nat} {hv : Nat → Bool} {fo no : Nat → Int} {mb mw : Nat → Nat} {ml : Nat → Int} {ma : Nat → Nat} {sk : Nat → Int} {bo : Nat → Nat} : gR [] fr to wo te hv (va_up fo 0 (-2)) no mb mw ml ma sk (va_up bo 0 0) 1 0 0 :=
  ⟨rfl, rfl, ⟨fun v hv => by rw [show v = 0 by omega]; rfl, fun e he => absurd he (Nat.not_lt_zero _), fun e he => absurd he (Nat.not_lt_zero _)⟩, by intro k s h; simp at h, rfl, by intro k s h; simp at h, rfl, fun e he => absurd he (Nat.not_lt_zero _)⟩
theorem gR_add {D : List Sg} {fr to : Nat → Nat} {wo : Nat → Int} {te : Nat → Nat} {hv : Nat → Bool} {fo no : Nat → Int} {mb mw : Nat → Nat} {ml : Nat → Int} {ma : Nat → Nat} {sk : Nat → Int} {bo : Nat → Nat} {nn ne nm : Nat} (h : gR D fr to wo te hv fo no mb mw ml ma sk bo nn ne nm) (s : Sg)
  {fr2 to2 : Nat → Nat} {wo2 : Nat → Int} {te2 : Nat → Nat} {fo2 no2 : Nat → Int} {sk2 : Nat → Int} {nn2 ne2 : Nat}
  (hE : eL fr2 to2 wo2 te2 ne2 = eL fr to wo te ne ++ s.es) (hc : chn fr2 fo2 no2 (nn2 + 1) ne2) (hb : s.bd = bo nm) (hnx : s.nx = nn2) (hsk : ∀ k, k ≠ nm → sk2 k = sk k)
  (hs1 : sk2 nm < 0 → sk2 nm = -2 ∧ ∀ x ∈ s.es, 0 ≤ x.2.2.1) (hs2 : 0 ≤ sk2 nm → ∃ j x, sk2 nm = ((ne + j : Nat) : Int) ∧ s.es[j]? = some x ∧ x.2.2.1 < 0) (ht : ∀ e, e < ne2 → te2 e ≤ 10) :
  gR (D ++ [s]) fr2 to2 wo2 te2 (hvy fr2 te2 (bo nm) ne ne2 hv ne2) fo2 no2 (va_up mb nm s.at_) (va_up mw nm s.wd) (va_up ml nm s.lf) (va_up ma nm s.al) sk2 (va_up bo (nm + 1) nn2) (nn2 + 1) ne2 (nm + 1) := by
  have hl := eL_len hE
  have hE2 : eL fr to wo te ne = eL fr2 to2 wo2 te2 ne ∧ s.es = lst (fun j => (fr2 (ne + j), to2 (ne + j), wo2 (ne + j), te2 (ne + j))) s.es.length := by
    have h1 := hE
    rw [hl] at h1
    unfold eL at h1
    rw [lst_add] at h1
    have h2 := List.append_inj h1 (by rw [lst_len, lst_len])
    exact ⟨h2.1.symm, h2.2.symm⟩
  obtain ⟨hE3, hE4⟩ := hE2
  have hold := lst_inj hE3
  have hget : ∀ k t, (D ++ [s])[k]? = some t → (k < nm ∧ D[k]? = some t) ∨ (k = nm ∧ t = s) := by
    intro k t hk
    have hm := h.m
    rcases Nat.lt_or_ge k nm with h1 | h1
    · left
      rw [List.getElem?_append_left (by omega)] at hk
      exact ⟨h1, hk⟩
    · right
      rw [List.getElem?_append_right (by omega)] at hk
      rcases (show k - D.length = 0 ∨ 0 < k - D.length by omega) with h2 | h2
      · rw [h2] at hk
        exact ⟨by omega, (Option.some.inj hk).symm⟩
      · rw [List.getElem?_eq_none (by simp; omega)] at hk
        cases hk
  refine ⟨?_, ?_, hc, ?_, ?_, ?_, ?_, ht⟩
  · rw [List.length_append, ← h.m]; rfl
  · rw [hE, h.e, List.flatMap_append]; simp
  · intro k t hk
    rcases hget k t hk with ⟨h1, h2⟩ | ⟨h1, h2⟩
    · have h3 := h.b k t h2
      rw [up_ne _ _ (by omega), up_ne _ _ (by omega), up_ne _ _ (by omega), up_ne _ _ (by omega), up_ne _ _ (by omega), up_ne _ _ (by omega)]
      exact h3
    · subst h1 h2
      rw [up_eq, up_eq, up_eq, up_eq, up_eq, up_ne _ _ (by omega)]
      exact ⟨rfl, rfl, rfl, rfl, hb.symm, hnx.symm⟩
  · rw [up_eq]
  · intro k t hk
    rcases hget k t hk with ⟨h1, h2⟩ | ⟨h1, h2⟩
    · have h3 := h.s k t h2
      rw [hsk k (by omega)]
      refine ⟨h3.1, fun hp => ?_⟩
      obtain ⟨e, h4, h5, h6, h7⟩ := h3.2 hp
      have h8 := hold e h5
      refine ⟨e, h4, by omega, h8 ▸ h6, ?_⟩
      have h9 := congrArg (fun x : Ed => x.2.2.1) h8
      exact Int.lt_of_le_of_lt (Int.le_of_eq h9.symm) h7
    · subst h1 h2
      refine ⟨hs1, fun hp => ?_⟩
      obtain ⟨j, x, h4, h5, h6⟩ := hs2 hp
      have hj : j < t.es.length := (List.getElem?_eq_some_iff.mp h5).1
      have h7 : x = (fr2 (ne + j), to2 (ne + j), wo2 (ne + j), te2 (ne + j)) := by
        rw [hE4, lst_get _ hj] at h5
        exact (Option.some.inj h5).symm
      refine ⟨ne + j, h4, by omega, ?_, ?_⟩
      · rw [← h7]; exact List.mem_of_getElem? h5
      · have h9 := congrArg (fun x : Ed => x.2.2.1) h7
        exact Int.lt_of_le_of_lt (Int.le_of_eq h9.symm) h6
  · rw [List.flatMap_append, ← h.h, hl, lst_add]
    congr 1
    · refine lst_ext fun j hj => ?_
      unfold hvy
      rw [if_neg (by omega)]
    · simp only [List.flatMap_cons, List.flatMap_nil, List.append_nil]
      unfold hvS
      rw [hb]
      have hg := gts_E (fr := fr2) (to := to2) (wo := wo2) (te := te2) (b := bo nm) (f := ne) s.es.length
      rw [← hE4] at hg
      rw [← hg]
      conv => rhs; rw [hE4]
      unfold lst
      rw [List.map_map]
      refine List.map_congr_left fun j hj => ?_
      have hj2 := List.mem_range.mp hj
      simp only [Function.comp, hvy]
      rw [if_pos (by omega), List.length_map, List.length_range]
theorem altE_word {b nx fi p v : Nat} (hp : pOK p) (h0 : ¬ plen p = 0) : ∀ x ∈ altE b nx fi p v, 0 ≤ x.2.2.1 := by
  intro x hx
  unfold altE at hx
  rw [if_neg h0] at hx
  obtain ⟨k, hk, rfl⟩ := lst_mem.mp hx
  have := hp k hk
  unfold altK
  dsimp only
  omega
theorem skA_ne (sk : Nat → Int) (nm ne b bh nn : Nat) (PH TE : Nat → Nat) (l : Nat) {k : Nat} (hk : k ≠ nm) : ∀ a, skA sk nm ne b bh nn PH TE l a k = sk k
  | 0 => rfl
  | a + 1 => by
    unfold skA
    split
    · rw [up_ne _ _ hk]; exact skA_ne sk nm ne b bh nn PH TE l hk a
    · exact skA_ne sk nm ne b bh nn PH TE l hk a
theorem skA_sp (sk : Nat → Int) (nm ne b bh nn : Nat) (PH TE : Nat → Nat) (l : Nat) (h0 : sk nm = -2) : ∀ a, (∀ j, j < a → pOK (PH (8 * l + j))) → (skA sk nm ne b bh nn PH TE l a nm < 0 → skA sk nm ne b bh nn PH TE l a nm = -2 ∧ ∀ x ∈ laE b bh nn PH TE l a, 0 ≤ x.2.2.1) ∧ (0 ≤ skA sk nm ne b bh nn PH TE l a nm → ∃ j x, skA sk nm ne b bh nn PH TE l a nm = ((ne + j : Nat) : Int) ∧ (laE b bh nn PH TE l a)[j]? = some x ∧ x.2.2.1 < 0)
  | 0, _ => ⟨fun _ => ⟨h0, fun x hx => by simp [laE] at hx⟩, fun h => by have : sk nm ≥ 0 := h; omega⟩
  | a + 1, hW => by
    obtain ⟨h1, h2⟩ := skA_sp sk nm ne b bh nn PH TE l h0 a (fun j hj => hW j (by omega))
    simp only [skA, laE]
    by_cases hp : plen (PH (8 * l + a)) = 0
    · rw [if_pos hp, up_eq]
      refine ⟨fun h => by omega, fun _ => ⟨(laE b bh nn PH TE l a).length, (b, bh, -2, TE (8 * l + a)), rfl, ?_, show (-2 : Int) < 0 by decide⟩⟩
      rw [List.getElem?_append_right (Nat.le_refl _), Nat.sub_self]
      unfold altE
      rw [if_pos hp]
      rfl
    · rw [if_neg hp]
      refine ⟨fun h => ⟨(h1 h).1, fun x hx => ?_⟩, fun h => ?_⟩
      · rcases List.mem_append.mp hx with h3 | h3
        · exact (h1 h).2 x h3
        · exact altE_word (hW a (by omega)) hp x h3
      · obtain ⟨j, x, h3, h4, h5⟩ := h2 h
        refine ⟨j, x, h3, ?_, h5⟩
        rw [List.getElem?_append_left (List.getElem?_eq_some_iff.mp h4).1]
        exact h4

set_option maxRecDepth 100000 in
set_option maxHeartbeats 500000 in
theorem c_X1_lay (fr to : Nat → Nat) (wo : Nat → Int) (te : Nat → Nat) (hv : Nat → Bool) (fo no : Nat → Int) (mb mw : Nat → Nat) (ml : Nat → Int) (ma : Nat → Nat) (sk : Nat → Int) (bo : Nat → Nat) (nn ne nm : Nat) (LP AL : Nat → Nat) (ru le : Nat) (PH TE LD : Nat → Nat) (kn : Bool) (hle : le ≤ 60) (hO : rOK LP AL PH TE) (hW : ∀ l, l < le → ∀ a, a < AL l → pOK (PH (8 * l + a))) (mo rc : Nat) (hmo : mo ≤ 1000) (hrc : rc ≤ mo) (hrc2 : rc ≤ 16) (nums : Nat → Int) (rcodes : Nat → Nat) (hN : ∀ j, j < rc → 0 ≤ nums j ∧ nums j < 200) : CT mX1_lay 0 0 [.ref 0, .ref 14, .ref 20] [ob 1 [.ref 1, .ref 2, .ref 3, .ref 4, .ref 5, .ref 6, .ref 7, .ref 8, .ref 9, .ref 10, .ref 11, .ref 12, .ref 13, vI (nn : Int), vI (ne : Int), vI (nm : Int)], cN 512 fr, cN 512 to, cI 512 wo, cN 512 te, cZ 512 hv, cI 401 fo, cI 512 no, cN 16 mb, cN 16 mw, cI 16 ml, cN 16 ma, cI 16 sk, cN 17 bo, ob 4 [.ref 15, .ref 16, vI (ru : Int), vI (le : Int), .ref 17, .ref 18, .ref 19, vZ kn], cN 60 LP, cN 60 AL, cN 480 PH, cN 480 TE, cK 60 LD, ob 9 [vI (mo : Int), .ref 21, .ref 22, vI (rc : Int)], cI mo nums, cK mo rcodes] (fun r w => ∃ (fr2 to2 : Nat → Nat) (wo2 : Nat → Int) (te2 : Nat → Nat) (hv2 : Nat → Bool) (fo2 no2 : Nat → Int) (mb2 mw2 : Nat → Nat) (ml2 : Nat → Int) (ma2 : Nat → Nat) (sk2 : Nat → Int) (bo2 : Nat → Nat) (nn2 ne2 nm2 : Nat), r = none ∧ w = [ob 1 [.ref 1, .ref 2, .ref 3, .ref 4, .ref 5, .ref 6, .ref 7, .ref 8, .ref 9, .ref 10, .ref 11, .ref 12, .ref 13, vI (nn2 : Int), vI (ne2 : Int), vI (nm2 : Int)], cN 512 fr2, cN 512 to2, cI 512 wo2, cN 512 te2, cZ 512 hv2, cI 401 fo2, cI 512 no2, cN 16 mb2, cN 16 mw2, cI 16 ml2, cN 16 ma2, cI 16 sk2, cN 17 bo2, ob 4 [.ref 15, .ref 16, vI (ru : Int), vI (le : Int), .ref 17, .ref 18, .ref 19, vZ kn], cN 60 LP, cN 60 AL, cN 480 PH, cN 480 TE, cK 60 LD, ob 9 [vI (mo : Int), .ref 21, .ref 22, vI (rc : Int)], cI mo nums, cK mo rcodes] ∧ gR (segs LP AL PH TE le (fun j => (nums j).toNat) rc rc 0 0) fr2 to2 wo2 te2 hv2 fo2 no2 mb2 mw2 ml2 ma2 sk2 bo2 nn2 ne2 nm2 ∧ nm2 ≤ 16 ∧ nn2 ≤ 1 + 25 * nm2 ∧ ne2 ≤ 32 * nm2) := by
  refine CT.intro rfl (Nat.le_of_ble_eq_true rfl) ?_
  generalize hPost : (fun r w => ∃ (fr2 to2 : Nat → Nat) (wo2 : Nat → Int) (te2 : Nat → Nat) (hv2 : Nat → Bool) (fo2 no2 : Nat → Int) (mb2 mw2 : Nat → Nat) (ml2 : Nat → Int) (ma2 : Nat → Nat) (sk2 : Nat → Int) (bo2 : Nat → Nat) (nn2 ne2 nm2 : Nat), r = none ∧ w = [ob 1 [.ref 1, .ref 2, .ref 3, .ref 4, .ref 5, .ref 6, .ref 7, .ref 8, .ref 9, .ref 10, .ref 11, .ref 12, .ref 13, vI (nn2 : Int), vI (ne2 : Int), vI (nm2 : Int)], cN 512 fr2, cN 512 to2, cI 512 wo2, cN 512 te2, cZ 512 hv2, cI 401 fo2, cI 512 no2, cN 16 mb2, cN 16 mw2, cI 16 ml2, cN 16 ma2, cI 16 sk2, cN 17 bo2, ob 4 [.ref 15, .ref 16, vI (ru : Int), vI (le : Int), .ref 17, .ref 18, .ref 19, vZ kn], cN 60 LP, cN 60 AL, cN 480 PH, cN 480 TE, cK 60 LD, ob 9 [vI (mo : Int), .ref 21, .ref 22, vI (rc : Int)], cI mo nums, cK mo rcodes] ∧ gR (segs LP AL PH TE le (fun j => (nums j).toNat) rc rc 0 0) fr2 to2 wo2 te2 hv2 fo2 no2 mb2 mw2 ml2 ma2 sk2 bo2 nn2 ne2 nm2 ∧ nm2 ≤ 16 ∧ nn2 ≤ 1 + 25 * nm2 ∧ ne2 ≤ 32 * nm2 : MP) = Post
  have hPo : ∀ rr ww, (fun r w => ∃ (fr2 to2 : Nat → Nat) (wo2 : Nat → Int) (te2 : Nat → Nat) (hv2 : Nat → Bool) (fo2 no2 : Nat → Int) (mb2 mw2 : Nat → Nat) (ml2 : Nat → Int) (ma2 : Nat → Nat) (sk2 : Nat → Int) (bo2 : Nat → Nat) (nn2 ne2 nm2 : Nat), r = none ∧ w = [ob 1 [.ref 1, .ref 2, .ref 3, .ref 4, .ref 5, .ref 6, .ref 7, .ref 8, .ref 9, .ref 10, .ref 11, .ref 12, .ref 13, vI (nn2 : Int), vI (ne2 : Int), vI (nm2 : Int)], cN 512 fr2, cN 512 to2, cI 512 wo2, cN 512 te2, cZ 512 hv2, cI 401 fo2, cI 512 no2, cN 16 mb2, cN 16 mw2, cI 16 ml2, cN 16 ma2, cI 16 sk2, cN 17 bo2, ob 4 [.ref 15, .ref 16, vI (ru : Int), vI (le : Int), .ref 17, .ref 18, .ref 19, vZ kn], cN 60 LP, cN 60 AL, cN 480 PH, cN 480 TE, cK 60 LD, ob 9 [vI (mo : Int), .ref 21, .ref 22, vI (rc : Int)], cI mo nums, cK mo rcodes] ∧ gR (segs LP AL PH TE le (fun j => (nums j).toNat) rc rc 0 0) fr2 to2 wo2 te2 hv2 fo2 no2 mb2 mw2 ml2 ma2 sk2 bo2 nn2 ne2 nm2 ∧ nm2 ≤ 16 ∧ nn2 ≤ 1 + 25 * nm2 ∧ ne2 ≤ 32 * nm2 : MP) rr ww → Post rr ww := by rw [← hPost]; exact fun _ _ h => h
  clear hPost
  show WM mX1_lay 0 0 Post 23 0 [(0, .ref 0), (1, .ref 14), (2, .ref 20)] [] [ob 1 [.ref 1, .ref 2, .ref 3, .ref 4, .ref 5, .ref 6, .ref 7, .ref 8, .ref 9, .ref 10, .ref 11, .ref 12, .ref 13, vI (nn : Int), vI (ne : Int), vI (nm : Int)], cN 512 fr, cN 512 to, cI 512 wo, cN 512 te, cZ 512 hv, cI 401 fo, cI 512 no, cN 16 mb, cN 16 mw, cI 16 ml, cN 16 ma, cI 16 sk, cN 17 bo, ob 4 [.ref 15, .ref 16, vI (ru : Int), vI (le : Int), .ref 17, .ref 18, .ref 19, vZ kn], cN 60 LP, cN 60 AL, cN 480 PH, cN 480 TE, cK 60 LD, ob 9 [vI (mo : Int), .ref 21, .ref 22, vI (rc : Int)], cI mo nums, cK mo rcodes] 0 0
  refine sq_ok rfl [(.aload_n 0, 0, 0, 0), (.iconst 0, 0, 0, 0), (.putfield 52, 1, 13, 0), (.aload_n 0, 0, 0, 0), (.iconst 0, 0, 0, 0), (.putfield 56, 1, 14, 0), (.aload_n 0, 0, 0, 0), (.iconst 0, 0, 0, 0), (.putfield 59, 1, 15, 0), (.aload_n 0, 0, 0, 0), (.getfield 49, 1, 12, 0), (.iconst 0, 0, 0, 0), (.aload_n 0, 0, 0, 0)] 0 _ _ _ _ _ (by decide +kernel) ?_
  show WM mX1_lay 0 0 Post 23 21 [(0, .ref 0), (1, .ref 14), (2, .ref 20)] [.ref 0, vI 0, .ref 13] [ob 1 [.ref 1, .ref 2, .ref 3, .ref 4, .ref 5, .ref 6, .ref 7, .ref 8, .ref 9, .ref 10, .ref 11, .ref 12, .ref 13, vI 0, vI 0, vI 0], cN 512 fr, cN 512 to, cI 512 wo, cN 512 te, cZ 512 hv, cI 401 fo, cI 512 no, cN 16 mb, cN 16 mw, cI 16 ml, cN 16 ma, cI 16 sk, cN 17 bo, ob 4 [.ref 15, .ref 16, vI (ru : Int), vI (le : Int), .ref 17, .ref 18, .ref 19, vZ kn], cN 60 LP, cN 60 AL, cN 480 PH, cN 480 TE, cK 60 LD, ob 9 [vI (mo : Int), .ref 21, .ref 22, vI (rc : Int)], cI mo nums, cK mo rcodes] 0 0
  refine wm_callV (y := mX1_lay) mX1_addNode [0, 1, 2, 3, 4, 5, 6, 7, 8, 9, 10, 11, 12, 13] (pc := 21) (rest := [vI 0, .ref 13]) (mc' := 0) (ms' := 0) (by decide +kernel) kX1_62 (c_X1_addNode fr to wo te hv fo no mb mw ml ma sk bo 0 0 0 (by omega)) rfl rfl ⟨_, rfl, rfl⟩ ⟨Nat.le_of_ble_eq_true rfl, Nat.le_of_ble_eq_true rfl⟩ ⟨Nat.le_of_ble_eq_true rfl, Nat.le_of_ble_eq_true rfl⟩ (Nat.le_of_ble_eq_true rfl) rfl rfl (Nat.le_of_ble_eq_true rfl) rfl ?_
  rintro _ _ ⟨rfl, rfl⟩
  show WM mX1_lay 0 0 Post 23 24 [(0, .ref 0), (1, .ref 14), (2, .ref 20)] [vI 0, vI 0, .ref 13] [ob 1 [.ref 1, .ref 2, .ref 3, .ref 4, .ref 5, .ref 6, .ref 7, .ref 8, .ref 9, .ref 10, .ref 11, .ref 12, .ref 13, vI 1, vI 0, vI 0], cN 512 fr, cN 512 to, cI 512 wo, cN 512 te, cZ 512 hv, cI 401 (va_up fo 0 (-2)), cI 512 no, cN 16 mb, cN 16 mw, cI 16 ml, cN 16 ma, cI 16 sk, cN 17 bo, ob 4 [.ref 15, .ref 16, vI (ru : Int), vI (le : Int), .ref 17, .ref 18, .ref 19, vZ kn], cN 60 LP, cN 60 AL, cN 480 PH, cN 480 TE, cK 60 LD, ob 9 [vI (mo : Int), .ref 21, .ref 22, vI (rc : Int)], cI mo nums, cK mo rcodes] 0 0
  refine sq_ok rfl [(.iastore, 0, 0, 0)] 24 _ _ _ _ _ (by decide +kernel) ?_
  show ∃ (j24 : Nat) (g24 : Nat → Int32), (mj 17 (kI 0) j24 ∧ g24 = upd (fun q => kI ((bo q : Nat) : Int)) j24 (kI 0)) ∧ WM mX1_lay 0 0 Post 23 25 [(0, .ref 0), (1, .ref 14), (2, .ref 20)] [] [ob 1 [.ref 1, .ref 2, .ref 3, .ref 4, .ref 5, .ref 6, .ref 7, .ref 8, .ref 9, .ref 10, .ref 11, .ref 12, .ref 13, vI 1, vI 0, vI 0], cN 512 fr, cN 512 to, cI 512 wo, cN 512 te, cZ 512 hv, cI 401 (va_up fo 0 (-2)), cI 512 no, cN 16 mb, cN 16 mw, cI 16 ml, cN 16 ma, cI 16 sk, .inl (0, 17, .inl g24), ob 4 [.ref 15, .ref 16, vI (ru : Int), vI (le : Int), .ref 17, .ref 18, .ref 19, vZ kn], cN 60 LP, cN 60 AL, cN 480 PH, cN 480 TE, cK 60 LD, ob 9 [vI (mo : Int), .ref 21, .ref 22, vI (rc : Int)], cI mo nums, cK mo rcodes] 0 0
  refine ⟨0, fun q => kI (((va_up bo 0 0) q : Nat) : Int), ⟨⟨by omega, by omega, rfl⟩, st_N (rfl)⟩, ?_⟩
  refine sq_ok rfl [(.iconst 0, 0, 0, 0), (.istore_n 3, 0, 0, 0), (.iconst 0, 0, 0, 0), (.istore 4, 0, 0, 0)] 25 _ _ _ _ _ (by decide +kernel) ?_
  show WM mX1_lay 0 0 Post 23 30 [(0, .ref 0), (1, .ref 14), (2, .ref 20), (3, vI 0), (4, vI 0)] [] [ob 1 [.ref 1, .ref 2, .ref 3, .ref 4, .ref 5, .ref 6, .ref 7, .ref 8, .ref 9, .ref 10, .ref 11, .ref 12, .ref 13, vI 1, vI 0, vI 0], cN 512 fr, cN 512 to, cI 512 wo, cN 512 te, cZ 512 hv, cI 401 (va_up fo 0 (-2)), cI 512 no, cN 16 mb, cN 16 mw, cI 16 ml, cN 16 ma, cI 16 sk, cN 17 (va_up bo 0 0), ob 4 [.ref 15, .ref 16, vI (ru : Int), vI (le : Int), .ref 17, .ref 18, .ref 19, vZ kn], cN 60 LP, cN 60 AL, cN 480 PH, cN 480 TE, cK 60 LD, ob 9 [vI (mo : Int), .ref 21, .ref 22, vI (rc : Int)], cI mo nums, cK mo rcodes] 0 0
  have lp30 : ∀ (n30 : Nat) (i : Nat) (bh : Nat) (D : List Sg) (fr1 : Nat → Nat) (to1 : Nat → Nat) (wo1 : Nat → Int) (te1 : Nat → Nat) (hv1 : Nat → Bool) (fo1 : Nat → Int) (no1 : Nat → Int) (mb1 : Nat → Nat) (mw1 : Nat → Nat) (ml1 : Nat → Int) (ma1 : Nat → Nat) (sk1 : Nat → Int) (bo1 : Nat → Nat) (nn1 : Nat) (ne1 : Nat) (nm1 : Nat), (i ≤ bh ∧ i ≤ rc ∧ bh ≤ rc) → (gR D fr1 to1 wo1 te1 hv1 fo1 no1 mb1 mw1 ml1 ma1 sk1 bo1 nn1 ne1 nm1) → (∃ f, rc ≤ bh + f ∧ D ++ segs LP AL PH TE le (fun j => (nums j).toNat) rc f bh (bo1 nm1) = segs LP AL PH TE le (fun j => (nums j).toNat) rc rc 0 0) → (nm1 ≤ bh ∧ nn1 ≤ 1 + 25 * nm1 ∧ ne1 ≤ 32 * nm1) → (rc - i) < n30 → WM mX1_lay 0 0 Post 23 30 [(0, .ref 0), (1, .ref 14), (2, .ref 20), (3, vI (bh : Int)), (4, vI (i : Int))] [] [ob 1 [.ref 1, .ref 2, .ref 3, .ref 4, .ref 5, .ref 6, .ref 7, .ref 8, .ref 9, .ref 10, .ref 11, .ref 12, .ref 13, vI (nn1 : Int), vI (ne1 : Int), vI (nm1 : Int)], cN 512 fr1, cN 512 to1, cI 512 wo1, cN 512 te1, cZ 512 hv1, cI 401 fo1, cI 512 no1, cN 16 mb1, cN 16 mw1, cI 16 ml1, cN 16 ma1, cI 16 sk1, cN 17 bo1, ob 4 [.ref 15, .ref 16, vI (ru : Int), vI (le : Int), .ref 17, .ref 18, .ref 19, vZ kn], cN 60 LP, cN 60 AL, cN 480 PH, cN 480 TE, cK 60 LD, ob 9 [vI (mo : Int), .ref 21, .ref 22, vI (rc : Int)], cI mo nums, cK mo rcodes] 0 0 := by
    intro n30
    induction n30 with
    | zero => intro i bh D fr1 to1 wo1 te1 hv1 fo1 no1 mb1 mw1 ml1 ma1 sk1 bo1 nn1 ne1 nm1 hi hg hD hb hm; exact absurd hm (Nat.not_lt_zero _)
    | succ n30 ih30 =>
      intro i bh D fr1 to1 wo1 te1 hv1 fo1 no1 mb1 mw1 ml1 ma1 sk1 bo1 nn1 ne1 nm1 hi hg hD hb hm30
      refine sq_ok rfl [(.iload 4, 0, 0, 0), (.aload_n 2, 0, 0, 0), (.getfield 66, 9, 3, 0), (.if_icmp .ge 97, 0, 0, 0)] 30 _ _ _ _ _ (by decide +kernel) ?_
      show (kI (rc : Int) ≤ kI (i : Int) → WM mX1_lay 0 0 Post 23 133 [(0, .ref 0), (1, .ref 14), (2, .ref 20), (3, vI (bh : Int)), (4, vI (i : Int))] [] [ob 1 [.ref 1, .ref 2, .ref 3, .ref 4, .ref 5, .ref 6, .ref 7, .ref 8, .ref 9, .ref 10, .ref 11, .ref 12, .ref 13, vI (nn1 : Int), vI (ne1 : Int), vI (nm1 : Int)], cN 512 fr1, cN 512 to1, cI 512 wo1, cN 512 te1, cZ 512 hv1, cI 401 fo1, cI 512 no1, cN 16 mb1, cN 16 mw1, cI 16 ml1, cN 16 ma1, cI 16 sk1, cN 17 bo1, ob 4 [.ref 15, .ref 16, vI (ru : Int), vI (le : Int), .ref 17, .ref 18, .ref 19, vZ kn], cN 60 LP, cN 60 AL, cN 480 PH, cN 480 TE, cK 60 LD, ob 9 [vI (mo : Int), .ref 21, .ref 22, vI (rc : Int)], cI mo nums, cK mo rcodes] 0 0) ∧ (¬ kI (rc : Int) ≤ kI (i : Int) → WM mX1_lay 0 0 Post 23 39 [(0, .ref 0), (1, .ref 14), (2, .ref 20), (3, vI (bh : Int)), (4, vI (i : Int))] [] [ob 1 [.ref 1, .ref 2, .ref 3, .ref 4, .ref 5, .ref 6, .ref 7, .ref 8, .ref 9, .ref 10, .ref 11, .ref 12, .ref 13, vI (nn1 : Int), vI (ne1 : Int), vI (nm1 : Int)], cN 512 fr1, cN 512 to1, cI 512 wo1, cN 512 te1, cZ 512 hv1, cI 401 fo1, cI 512 no1, cN 16 mb1, cN 16 mw1, cI 16 ml1, cN 16 ma1, cI 16 sk1, cN 17 bo1, ob 4 [.ref 15, .ref 16, vI (ru : Int), vI (le : Int), .ref 17, .ref 18, .ref 19, vZ kn], cN 60 LP, cN 60 AL, cN 480 PH, cN 480 TE, cK 60 LD, ob 9 [vI (mo : Int), .ref 21, .ref 22, vI (rc : Int)], cI mo nums, cK mo rcodes] 0 0)
      refine ⟨fun c36 => ?_, fun c36 => ?_⟩
      · 
        rw [kI_le (by omega)] at c36
        refine sq_ok rfl [(.return_, 0, 0, 0)] 133 _ _ _ _ _ (by decide +kernel) ?_
        show ((0 ≤ 0 ∧ 0 ≤ 0) ∧ Post none [ob 1 [.ref 1, .ref 2, .ref 3, .ref 4, .ref 5, .ref 6, .ref 7, .ref 8, .ref 9, .ref 10, .ref 11, .ref 12, .ref 13, vI (nn1 : Int), vI (ne1 : Int), vI (nm1 : Int)], cN 512 fr1, cN 512 to1, cI 512 wo1, cN 512 te1, cZ 512 hv1, cI 401 fo1, cI 512 no1, cN 16 mb1, cN 16 mw1, cI 16 ml1, cN 16 ma1, cI 16 sk1, cN 17 bo1, ob 4 [.ref 15, .ref 16, vI (ru : Int), vI (le : Int), .ref 17, .ref 18, .ref 19, vZ kn], cN 60 LP, cN 60 AL, cN 480 PH, cN 480 TE, cK 60 LD, ob 9 [vI (mo : Int), .ref 21, .ref 22, vI (rc : Int)], cI mo nums, cK mo rcodes])
        refine ⟨⟨Nat.le_refl _, Nat.le_refl _⟩, hPo _ _ ?_⟩
        obtain ⟨f, hf, hDf⟩ := hD
        rw [segs_done _ _ _ _ _ _ _ f (by omega), List.append_nil] at hDf
        exact ⟨fr1, to1, wo1, te1, hv1, fo1, no1, mb1, mw1, ml1, ma1, sk1, bo1, nn1, ne1, nm1, rfl, rfl, hDf ▸ hg, by omega, by omega, by omega⟩
      · 
        rw [kI_le (by omega)] at c36
        obtain ⟨f, hf, hDf⟩ := hD
        refine sq_ok rfl [(.iload 4, 0, 0, 0), (.iload_n 3, 0, 0, 0), (.if_icmp .ne 85, 0, 0, 0)] 39 _ _ _ _ _ (by decide +kernel) ?_
        show (¬ kI (i : Int) = kI (bh : Int) → WM mX1_lay 0 0 Post 23 127 [(0, .ref 0), (1, .ref 14), (2, .ref 20), (3, vI (bh : Int)), (4, vI (i : Int))] [] [ob 1 [.ref 1, .ref 2, .ref 3, .ref 4, .ref 5, .ref 6, .ref 7, .ref 8, .ref 9, .ref 10, .ref 11, .ref 12, .ref 13, vI (nn1 : Int), vI (ne1 : Int), vI (nm1 : Int)], cN 512 fr1, cN 512 to1, cI 512 wo1, cN 512 te1, cZ 512 hv1, cI 401 fo1, cI 512 no1, cN 16 mb1, cN 16 mw1, cI 16 ml1, cN 16 ma1, cI 16 sk1, cN 17 bo1, ob 4 [.ref 15, .ref 16, vI (ru : Int), vI (le : Int), .ref 17, .ref 18, .ref 19, vZ kn], cN 60 LP, cN 60 AL, cN 480 PH, cN 480 TE, cK 60 LD, ob 9 [vI (mo : Int), .ref 21, .ref 22, vI (rc : Int)], cI mo nums, cK mo rcodes] 0 0) ∧ (kI (i : Int) = kI (bh : Int) → WM mX1_lay 0 0 Post 23 45 [(0, .ref 0), (1, .ref 14), (2, .ref 20), (3, vI (bh : Int)), (4, vI (i : Int))] [] [ob 1 [.ref 1, .ref 2, .ref 3, .ref 4, .ref 5, .ref 6, .ref 7, .ref 8, .ref 9, .ref 10, .ref 11, .ref 12, .ref 13, vI (nn1 : Int), vI (ne1 : Int), vI (nm1 : Int)], cN 512 fr1, cN 512 to1, cI 512 wo1, cN 512 te1, cZ 512 hv1, cI 401 fo1, cI 512 no1, cN 16 mb1, cN 16 mw1, cI 16 ml1, cN 16 ma1, cI 16 sk1, cN 17 bo1, ob 4 [.ref 15, .ref 16, vI (ru : Int), vI (le : Int), .ref 17, .ref 18, .ref 19, vZ kn], cN 60 LP, cN 60 AL, cN 480 PH, cN 480 TE, cK 60 LD, ob 9 [vI (mo : Int), .ref 21, .ref 22, vI (rc : Int)], cI mo nums, cK mo rcodes] 0 0)
        refine ⟨fun c42 => ?_, fun c42 => ?_⟩
        · 
          rw [kI_eq (by omega)] at c42
          refine sq_ok rfl [(.iinc 4 1, 0, 0, 0), (.goto (-100), 0, 0, 0)] 127 _ _ _ _ _ (by decide +kernel) ?_
          show WM mX1_lay 0 0 Post 23 30 [(0, .ref 0), (1, .ref 14), (2, .ref 20), (3, vI (bh : Int)), (4, .int ((kI (i : Int)) + (kI 1)))] [] [ob 1 [.ref 1, .ref 2, .ref 3, .ref 4, .ref 5, .ref 6, .ref 7, .ref 8, .ref 9, .ref 10, .ref 11, .ref 12, .ref 13, vI (nn1 : Int), vI (ne1 : Int), vI (nm1 : Int)], cN 512 fr1, cN 512 to1, cI 512 wo1, cN 512 te1, cZ 512 hv1, cI 401 fo1, cI 512 no1, cN 16 mb1, cN 16 mw1, cI 16 ml1, cN 16 ma1, cI 16 sk1, cN 17 bo1, ob 4 [.ref 15, .ref 16, vI (ru : Int), vI (le : Int), .ref 17, .ref 18, .ref 19, vZ kn], cN 60 LP, cN 60 AL, cN 480 PH, cN 480 TE, cK 60 LD, ob 9 [vI (mo : Int), .ref 21, .ref 22, vI (rc : Int)], cI mo nums, cK mo rcodes] 0 0
          have e3 : ((kI (i : Int)) + (kI 1)) = kI (((i + 1) : Nat) : Int) := by first | (simp only [kI_add, kI_sub, kI_mul]; done) | (simp only [kI_add, kI_sub, kI_mul]; rfl)
          rw [e3]
          exact WM.pick [0, 1, 2, 3, 4] rfl (ih30 (i + 1) bh _ fr1 to1 wo1 te1 hv1 fo1 no1 mb1 mw1 ml1 ma1 sk1 bo1 nn1 ne1 nm1 (by omega) (by first | exact hg | exact hNew2) (by first | exact ⟨f, hf, hDf⟩ | exact hDn) (by omega) (by omega))
        · 
          rw [kI_eq (by omega)] at c42
          refine sq_ok rfl [(.aload_n 1, 0, 0, 0), (.aload_n 2, 0, 0, 0), (.iload 4, 0, 0, 0)] 45 _ _ _ _ _ (by decide +kernel) ?_
          show WM mX1_lay 0 0 Post 23 49 [(0, .ref 0), (1, .ref 14), (2, .ref 20), (3, vI (bh : Int)), (4, vI (i : Int))] [vI (i : Int), .ref 20, .ref 14] [ob 1 [.ref 1, .ref 2, .ref 3, .ref 4, .ref 5, .ref 6, .ref 7, .ref 8, .ref 9, .ref 10, .ref 11, .ref 12, .ref 13, vI (nn1 : Int), vI (ne1 : Int), vI (nm1 : Int)], cN 512 fr1, cN 512 to1, cI 512 wo1, cN 512 te1, cZ 512 hv1, cI 401 fo1, cI 512 no1, cN 16 mb1, cN 16 mw1, cI 16 ml1, cN 16 ma1, cI 16 sk1, cN 17 bo1, ob 4 [.ref 15, .ref 16, vI (ru : Int), vI (le : Int), .ref 17, .ref 18, .ref 19, vZ kn], cN 60 LP, cN 60 AL, cN 480 PH, cN 480 TE, cK 60 LD, ob 9 [vI (mo : Int), .ref 21, .ref 22, vI (rc : Int)], cI mo nums, cK mo rcodes] 0 0
          refine wm_callV (y := mX1_lay) mX4_longestAt [14, 15, 16, 17, 18, 19, 20, 21, 22] (pc := 49) (rest := []) (mc' := 0) (ms' := 0) (by decide +kernel) kX1_71 (c_X4_longestAt LP AL ru le PH TE LD kn hle hO mo rc hmo hrc nums rcodes hN i (by omega)) rfl rfl ⟨_, rfl, rfl⟩ ⟨Nat.le_of_ble_eq_true rfl, Nat.le_of_ble_eq_true rfl⟩ ⟨Nat.le_of_ble_eq_true rfl, Nat.le_of_ble_eq_true rfl⟩ (Nat.le_of_ble_eq_true rfl) rfl rfl (Nat.le_of_ble_eq_true rfl) rfl ?_
          rintro _ _ ⟨rfl, rfl⟩
          show WM mX1_lay 0 0 Post 23 52 [(0, .ref 0), (1, .ref 14), (2, .ref 20), (3, vI (bh : Int)), (4, vI (i : Int))] [vI (lgs LP le (fun j => (nums j).toNat) i (min 4 (rc - i)))] [ob 1 [.ref 1, .ref 2, .ref 3, .ref 4, .ref 5, .ref 6, .ref 7, .ref 8, .ref 9, .ref 10, .ref 11, .ref 12, .ref 13, vI (nn1 : Int), vI (ne1 : Int), vI (nm1 : Int)], cN 512 fr1, cN 512 to1, cI 512 wo1, cN 512 te1, cZ 512 hv1, cI 401 fo1, cI 512 no1, cN 16 mb1, cN 16 mw1, cI 16 ml1, cN 16 ma1, cI 16 sk1, cN 17 bo1, ob 4 [.ref 15, .ref 16, vI (ru : Int), vI (le : Int), .ref 17, .ref 18, .ref 19, vZ kn], cN 60 LP, cN 60 AL, cN 480 PH, cN 480 TE, cK 60 LD, ob 9 [vI (mo : Int), .ref 21, .ref 22, vI (rc : Int)], cI mo nums, cK mo rcodes] 0 0
          have hzR := lgs_R (LP := LP) (le := le) (nf := (fun j => (nums j).toNat)) (at_ := i) hle (min 4 (rc - i))
          have hbb : bo1 nm1 < nn1 := by have := hg.n; omega
          have hNi := hN i (by omega)
          refine sq_ok rfl [(.istore 5, 0, 0, 0), (.aload_n 0, 0, 0, 0), (.getfield 34, 1, 7, 0), (.aload_n 0, 0, 0, 0), (.getfield 59, 1, 15, 0), (.iload 4, 0, 0, 0), (.iastore, 0, 0, 0)] 52 _ _ _ _ _ (by decide +kernel) ?_
          show ∃ (j64 : Nat) (g64 : Nat → Int32), (mj 16 (kI (nm1 : Int)) j64 ∧ g64 = upd (fun q => kI ((mb1 q : Nat) : Int)) j64 (kI (i : Int))) ∧ WM mX1_lay 0 0 Post 23 65 [(0, .ref 0), (1, .ref 14), (2, .ref 20), (3, vI (bh : Int)), (4, vI (i : Int)), (5, vI (lgs LP le (fun j => (nums j).toNat) i (min 4 (rc - i))))] [] [ob 1 [.ref 1, .ref 2, .ref 3, .ref 4, .ref 5, .ref 6, .ref 7, .ref 8, .ref 9, .ref 10, .ref 11, .ref 12, .ref 13, vI (nn1 : Int), vI (ne1 : Int), vI (nm1 : Int)], cN 512 fr1, cN 512 to1, cI 512 wo1, cN 512 te1, cZ 512 hv1, cI 401 fo1, cI 512 no1, .inl (0, 16, .inl g64), cN 16 mw1, cI 16 ml1, cN 16 ma1, cI 16 sk1, cN 17 bo1, ob 4 [.ref 15, .ref 16, vI (ru : Int), vI (le : Int), .ref 17, .ref 18, .ref 19, vZ kn], cN 60 LP, cN 60 AL, cN 480 PH, cN 480 TE, cK 60 LD, ob 9 [vI (mo : Int), .ref 21, .ref 22, vI (rc : Int)], cI mo nums, cK mo rcodes] 0 0
          refine ⟨nm1, fun q => kI (((va_up mb1 nm1 i) q : Nat) : Int), ⟨⟨by omega, by omega, rfl⟩, st_N (rfl)⟩, ?_⟩
          refine sq_ok rfl [(.aload_n 0, 0, 0, 0), (.getfield 40, 1, 9, 0), (.aload_n 0, 0, 0, 0), (.getfield 59, 1, 15, 0), (.iload 5, 0, 0, 0), (.iastore, 0, 0, 0)] 65 _ _ _ _ _ (by decide +kernel) ?_
          show ∃ (j75 : Nat) (g75 : Nat → Int32), (mj 16 (kI (nm1 : Int)) j75 ∧ g75 = upd (fun q => kI (ml1 q)) j75 (kI (lgs LP le (fun j => (nums j).toNat) i (min 4 (rc - i))))) ∧ WM mX1_lay 0 0 Post 23 76 [(0, .ref 0), (1, .ref 14), (2, .ref 20), (3, vI (bh : Int)), (4, vI (i : Int)), (5, vI (lgs LP le (fun j => (nums j).toNat) i (min 4 (rc - i))))] [] [ob 1 [.ref 1, .ref 2, .ref 3, .ref 4, .ref 5, .ref 6, .ref 7, .ref 8, .ref 9, .ref 10, .ref 11, .ref 12, .ref 13, vI (nn1 : Int), vI (ne1 : Int), vI (nm1 : Int)], cN 512 fr1, cN 512 to1, cI 512 wo1, cN 512 te1, cZ 512 hv1, cI 401 fo1, cI 512 no1, cN 16 (va_up mb1 nm1 i), cN 16 mw1, .inl (0, 16, .inl g75), cN 16 ma1, cI 16 sk1, cN 17 bo1, ob 4 [.ref 15, .ref 16, vI (ru : Int), vI (le : Int), .ref 17, .ref 18, .ref 19, vZ kn], cN 60 LP, cN 60 AL, cN 480 PH, cN 480 TE, cK 60 LD, ob 9 [vI (mo : Int), .ref 21, .ref 22, vI (rc : Int)], cI mo nums, cK mo rcodes] 0 0
          refine ⟨nm1, fun q => kI ((va_up ml1 nm1 (lgs LP le (fun j => (nums j).toNat) i (min 4 (rc - i)))) q), ⟨⟨by omega, by omega, rfl⟩, st_I (rfl)⟩, ?_⟩
          refine sq_ok rfl [(.aload_n 0, 0, 0, 0), (.getfield 46, 1, 11, 0), (.aload_n 0, 0, 0, 0), (.getfield 59, 1, 15, 0), (.bipush (-2), 0, 0, 0), (.iastore, 0, 0, 0)] 76 _ _ _ _ _ (by decide +kernel) ?_
          show ∃ (j86 : Nat) (g86 : Nat → Int32), (mj 16 (kI (nm1 : Int)) j86 ∧ g86 = upd (fun q => kI (sk1 q)) j86 (kI (-2))) ∧ WM mX1_lay 0 0 Post 23 87 [(0, .ref 0), (1, .ref 14), (2, .ref 20), (3, vI (bh : Int)), (4, vI (i : Int)), (5, vI (lgs LP le (fun j => (nums j).toNat) i (min 4 (rc - i))))] [] [ob 1 [.ref 1, .ref 2, .ref 3, .ref 4, .ref 5, .ref 6, .ref 7, .ref 8, .ref 9, .ref 10, .ref 11, .ref 12, .ref 13, vI (nn1 : Int), vI (ne1 : Int), vI (nm1 : Int)], cN 512 fr1, cN 512 to1, cI 512 wo1, cN 512 te1, cZ 512 hv1, cI 401 fo1, cI 512 no1, cN 16 (va_up mb1 nm1 i), cN 16 mw1, cI 16 (va_up ml1 nm1 (lgs LP le (fun j => (nums j).toNat) i (min 4 (rc - i)))), cN 16 ma1, .inl (0, 16, .inl g86), cN 17 bo1, ob 4 [.ref 15, .ref 16, vI (ru : Int), vI (le : Int), .ref 17, .ref 18, .ref 19, vZ kn], cN 60 LP, cN 60 AL, cN 480 PH, cN 480 TE, cK 60 LD, ob 9 [vI (mo : Int), .ref 21, .ref 22, vI (rc : Int)], cI mo nums, cK mo rcodes] 0 0
          refine ⟨nm1, fun q => kI ((va_up sk1 nm1 (-2)) q), ⟨⟨by omega, by omega, rfl⟩, st_I (rfl)⟩, ?_⟩
          refine sq_ok rfl [(.iload 5, 0, 0, 0), (.ifCond .ge 17, 0, 0, 0)] 87 _ _ _ _ _ (by decide +kernel) ?_
          show (kI 0 ≤ kI (lgs LP le (fun j => (nums j).toNat) i (min 4 (rc - i))) → WM mX1_lay 0 0 Post 23 106 [(0, .ref 0), (1, .ref 14), (2, .ref 20), (3, vI (bh : Int)), (4, vI (i : Int)), (5, vI (lgs LP le (fun j => (nums j).toNat) i (min 4 (rc - i))))] [] [ob 1 [.ref 1, .ref 2, .ref 3, .ref 4, .ref 5, .ref 6, .ref 7, .ref 8, .ref 9, .ref 10, .ref 11, .ref 12, .ref 13, vI (nn1 : Int), vI (ne1 : Int), vI (nm1 : Int)], cN 512 fr1, cN 512 to1, cI 512 wo1, cN 512 te1, cZ 512 hv1, cI 401 fo1, cI 512 no1, cN 16 (va_up mb1 nm1 i), cN 16 mw1, cI 16 (va_up ml1 nm1 (lgs LP le (fun j => (nums j).toNat) i (min 4 (rc - i)))), cN 16 ma1, cI 16 (va_up sk1 nm1 (-2)), cN 17 bo1, ob 4 [.ref 15, .ref 16, vI (ru : Int), vI (le : Int), .ref 17, .ref 18, .ref 19, vZ kn], cN 60 LP, cN 60 AL, cN 480 PH, cN 480 TE, cK 60 LD, ob 9 [vI (mo : Int), .ref 21, .ref 22, vI (rc : Int)], cI mo nums, cK mo rcodes] 0 0) ∧ (¬ kI 0 ≤ kI (lgs LP le (fun j => (nums j).toNat) i (min 4 (rc - i))) → WM mX1_lay 0 0 Post 23 92 [(0, .ref 0), (1, .ref 14), (2, .ref 20), (3, vI (bh : Int)), (4, vI (i : Int)), (5, vI (lgs LP le (fun j => (nums j).toNat) i (min 4 (rc - i))))] [] [ob 1 [.ref 1, .ref 2, .ref 3, .ref 4, .ref 5, .ref 6, .ref 7, .ref 8, .ref 9, .ref 10, .ref 11, .ref 12, .ref 13, vI (nn1 : Int), vI (ne1 : Int), vI (nm1 : Int)], cN 512 fr1, cN 512 to1, cI 512 wo1, cN 512 te1, cZ 512 hv1, cI 401 fo1, cI 512 no1, cN 16 (va_up mb1 nm1 i), cN 16 mw1, cI 16 (va_up ml1 nm1 (lgs LP le (fun j => (nums j).toNat) i (min 4 (rc - i)))), cN 16 ma1, cI 16 (va_up sk1 nm1 (-2)), cN 17 bo1, ob 4 [.ref 15, .ref 16, vI (ru : Int), vI (le : Int), .ref 17, .ref 18, .ref 19, vZ kn], cN 60 LP, cN 60 AL, cN 480 PH, cN 480 TE, cK 60 LD, ob 9 [vI (mo : Int), .ref 21, .ref 22, vI (rc : Int)], cI mo nums, cK mo rcodes] 0 0)
          refine ⟨fun c89 => ?_, fun c89 => ?_⟩
          · 
            rw [kI_le (by omega)] at c89
            refine sq_ok rfl [(.aload_n 0, 0, 0, 0), (.aload_n 1, 0, 0, 0), (.iload 5, 0, 0, 0)] 106 _ _ _ _ _ (by decide +kernel) ?_
            show WM mX1_lay 0 0 Post 23 110 [(0, .ref 0), (1, .ref 14), (2, .ref 20), (3, vI (bh : Int)), (4, vI (i : Int)), (5, vI (lgs LP le (fun j => (nums j).toNat) i (min 4 (rc - i))))] [vI (lgs LP le (fun j => (nums j).toNat) i (min 4 (rc - i))), .ref 14, .ref 0] [ob 1 [.ref 1, .ref 2, .ref 3, .ref 4, .ref 5, .ref 6, .ref 7, .ref 8, .ref 9, .ref 10, .ref 11, .ref 12, .ref 13, vI (nn1 : Int), vI (ne1 : Int), vI (nm1 : Int)], cN 512 fr1, cN 512 to1, cI 512 wo1, cN 512 te1, cZ 512 hv1, cI 401 fo1, cI 512 no1, cN 16 (va_up mb1 nm1 i), cN 16 mw1, cI 16 (va_up ml1 nm1 (lgs LP le (fun j => (nums j).toNat) i (min 4 (rc - i)))), cN 16 ma1, cI 16 (va_up sk1 nm1 (-2)), cN 17 bo1, ob 4 [.ref 15, .ref 16, vI (ru : Int), vI (le : Int), .ref 17, .ref 18, .ref 19, vZ kn], cN 60 LP, cN 60 AL, cN 480 PH, cN 480 TE, cK 60 LD, ob 9 [vI (mo : Int), .ref 21, .ref 22, vI (rc : Int)], cI mo nums, cK mo rcodes] 0 0
            obtain ⟨l, hl⟩ : ∃ l : Nat, (lgs LP le (fun j => (nums j).toNat) i (min 4 (rc - i))) = (l : Int) := ⟨(lgs LP le (fun j => (nums j).toNat) i (min 4 (rc - i))).toNat, by omega⟩
            have hlt : (lgs LP le (fun j => (nums j).toNat) i (min 4 (rc - i))).toNat = l := by omega
            have hsp := lgs_spec (LP := LP) (le := le) (nf := (fun j => (nums j).toNat)) (at_ := i) (i := min 4 (rc - i)) (by omega)
            rw [hlt] at hsp
            obtain ⟨k, hk1, hk2, hll, hk3⟩ := hsp
            have hpk : plen (LP l) = k := by rw [hk3]; exact plen_ppk (by omega) (fun j hj => by have := hN (i + j) (by omega); show (nums (i + j)).toNat < 200; omega)
            have hAl := hO.2.1 l
            rw [show (lgs LP le (fun j => (nums j).toNat) i (min 4 (rc - i))) = (l : Int) from hl]
            refine wm_callV (y := mX1_lay) mX1_layLeft [0, 1, 2, 3, 4, 5, 6, 7, 8, 9, 10, 11, 12, 13, 14, 15, 16, 17, 18, 19] (pc := 110) (rest := []) (mc' := 0) (ms' := 0) (by decide +kernel) kX1_84 (c_X1_layLeft fr1 to1 wo1 te1 hv1 fo1 no1 (va_up mb1 nm1 i) mw1 (va_up ml1 nm1 (l : Int)) ma1 (va_up sk1 nm1 (-2)) bo1 nn1 ne1 nm1 LP AL ru le PH TE LD kn hO (by omega) hg.c hbb (by omega) (by omega) hg.t l (by omega)) rfl rfl ⟨_, rfl, rfl⟩ ⟨Nat.le_of_ble_eq_true rfl, Nat.le_of_ble_eq_true rfl⟩ ⟨Nat.le_of_ble_eq_true rfl, Nat.le_of_ble_eq_true rfl⟩ (Nat.le_of_ble_eq_true rfl) rfl rfl (Nat.le_of_ble_eq_true rfl) rfl ?_
            rintro _ _ ⟨fr2, to2, wo2, te2, fo2, no2, nn2, ne2, rfl, rfl, hE2, hC2, hn2, ht2⟩
            have hsg : (seg LP AL PH TE le (fun j => (nums j).toNat) rc i (bo1 nm1)) = ⟨i, plen (LP l), (l : Int), AL l, bo1 nm1, nn2, laE (bo1 nm1) nn2 nn1 PH TE l (AL l)⟩ := by unfold seg; rw [hl, if_neg (by omega), Int.toNat_natCast, hn2, hg.n]
            rw [← hn2] at hE2
            have hss := skA_sp (va_up sk1 nm1 (-2)) nm1 ne1 (bo1 nm1) nn2 nn1 PH TE l (up_eq _ _ _) (AL l) (hW l hll)
            have hNew := gR_add hg (seg LP AL PH TE le (fun j => (nums j).toNat) rc i (bo1 nm1)) (sk2 := skA (va_up sk1 nm1 (-2)) nm1 ne1 (bo1 nm1) nn2 nn1 PH TE l (AL l)) (nn2 := nn2) (by rw [hsg]; exact hE2) hC2 (by rw [hsg]) (by rw [hsg]) (fun k hk => by rw [skA_ne _ _ _ _ _ _ _ _ _ hk, up_ne _ _ hk]) (by rw [hsg]; exact hss.1) (by rw [hsg]; exact hss.2) ht2
            have hNew2 : gR (D ++ [(seg LP AL PH TE le (fun j => (nums j).toNat) rc i (bo1 nm1))]) fr2 to2 wo2 te2 (hvy fr2 te2 (bo1 nm1) ne1 ne2 hv1 ne2) (va_up fo2 nn2 (-2)) no2 (va_up mb1 nm1 i) (va_up mw1 nm1 (plen (LP l))) (va_up ml1 nm1 (l : Int)) (va_up ma1 nm1 (AL l)) (skA (va_up sk1 nm1 (-2)) nm1 ne1 (bo1 nm1) nn2 nn1 PH TE l (AL l)) (va_up bo1 (nm1 + 1) nn2) (nn2 + 1) ne2 (nm1 + 1) := by rw [hsg] at hNew ⊢; exact hNew
            have hwd : (seg LP AL PH TE le (fun j => (nums j).toNat) rc i (bo1 nm1)).wd = plen (LP l) := by rw [hsg]
            have hil := inn_le PH l (AL l)
            have hel := eL_len hE2
            have hll2 := laE_len (bo1 nm1) nn2 nn1 PH TE l (AL l)
            have hw1 : 1 ≤ (seg LP AL PH TE le (fun j => (nums j).toNat) rc i (bo1 nm1)).wd ∧ i + (seg LP AL PH TE le (fun j => (nums j).toNat) rc i (bo1 nm1)).wd ≤ rc ∧ nn2 + 1 ≤ 1 + 25 * (nm1 + 1) ∧ ne2 ≤ 32 * (nm1 + 1) := by omega
            have hnx : (seg LP AL PH TE le (fun j => (nums j).toNat) rc i (bo1 nm1)).nx = nn2 := by rw [hsg]
            rw [← hn2]
            have hDn : ∃ f, rc ≤ (bh + (seg LP AL PH TE le (fun j => (nums j).toNat) rc i (bo1 nm1)).wd) + f ∧ (D ++ [(seg LP AL PH TE le (fun j => (nums j).toNat) rc i (bo1 nm1))]) ++ segs LP AL PH TE le (fun j => (nums j).toNat) rc f (bh + (seg LP AL PH TE le (fun j => (nums j).toNat) rc i (bo1 nm1)).wd) (va_up bo1 (nm1 + 1) nn2 (nm1 + 1)) = segs LP AL PH TE le (fun j => (nums j).toNat) rc rc 0 0 := by
              have hbi : bh = i := by omega
              obtain ⟨f1, rfl⟩ : ∃ f1, f = f1 + 1 := ⟨f - 1, by omega⟩
              refine ⟨f1, by omega, ?_⟩
              rw [← hDf, hbi, up_eq, ← hnx, List.append_assoc]
              conv => rhs; rw [segs, if_pos (show i < rc by omega)]
              rfl
            show WM mX1_lay 0 0 Post 23 113 [(0, .ref 0), (1, .ref 14), (2, .ref 20), (3, vI (bh : Int)), (4, vI (i : Int)), (5, vI (l : Int))] [] [ob 1 [.ref 1, .ref 2, .ref 3, .ref 4, .ref 5, .ref 6, .ref 7, .ref 8, .ref 9, .ref 10, .ref 11, .ref 12, .ref 13, vI (((nn2 + 1) : Nat) : Int), vI (ne2 : Int), vI (((nm1 + 1) : Nat) : Int)], cN 512 fr2, cN 512 to2, cI 512 wo2, cN 512 te2, cZ 512 (hvy fr2 te2 (bo1 nm1) ne1 ne2 hv1 ne2), cI 401 (va_up fo2 nn2 (-2)), cI 512 no2, cN 16 (va_up mb1 nm1 i), cN 16 (va_up mw1 nm1 (plen (LP l))), cI 16 (va_up ml1 nm1 (l : Int)), cN 16 (va_up ma1 nm1 (AL l)), cI 16 (skA (va_up sk1 nm1 (-2)) nm1 ne1 (bo1 nm1) nn2 nn1 PH TE l (AL l)), cN 17 (va_up bo1 (nm1 + 1) nn2), ob 4 [.ref 15, .ref 16, vI (ru : Int), vI (le : Int), .ref 17, .ref 18, .ref 19, vZ kn], cN 60 LP, cN 60 AL, cN 480 PH, cN 480 TE, cK 60 LD, ob 9 [vI (mo : Int), .ref 21, .ref 22, vI (rc : Int)], cI mo nums, cK mo rcodes] 0 0
            refine sq_ok rfl [(.iload_n 3, 0, 0, 0), (.aload_n 0, 0, 0, 0), (.getfield 37, 1, 8, 0), (.aload_n 0, 0, 0, 0), (.getfield 59, 1, 15, 0), (.iconst 1, 0, 0, 0), (.isub, 0, 0, 0), (.iaload, 0, 0, 0), (.iadd, 0, 0, 0)] 113 _ _ _ _ _ (by decide +kernel) ?_
            show ∃ j124 : Nat, mj 16 ((kI (((nm1 + 1) : Nat) : Int)) - (kI 1)) j124 ∧ WM mX1_lay 0 0 Post 23 126 [(0, .ref 0), (1, .ref 14), (2, .ref 20), (3, vI (bh : Int)), (4, vI (i : Int)), (5, vI (l : Int))] [.int ((kI (bh : Int)) + (kI (((va_up mw1 nm1 (plen (LP l))) j124 : Nat) : Int)))] [ob 1 [.ref 1, .ref 2, .ref 3, .ref 4, .ref 5, .ref 6, .ref 7, .ref 8, .ref 9, .ref 10, .ref 11, .ref 12, .ref 13, vI (((nn2 + 1) : Nat) : Int), vI (ne2 : Int), vI (((nm1 + 1) : Nat) : Int)], cN 512 fr2, cN 512 to2, cI 512 wo2, cN 512 te2, cZ 512 (hvy fr2 te2 (bo1 nm1) ne1 ne2 hv1 ne2), cI 401 (va_up fo2 nn2 (-2)), cI 512 no2, cN 16 (va_up mb1 nm1 i), cN 16 (va_up mw1 nm1 (plen (LP l))), cI 16 (va_up ml1 nm1 (l : Int)), cN 16 (va_up ma1 nm1 (AL l)), cI 16 (skA (va_up sk1 nm1 (-2)) nm1 ne1 (bo1 nm1) nn2 nn1 PH TE l (AL l)), cN 17 (va_up bo1 (nm1 + 1) nn2), ob 4 [.ref 15, .ref 16, vI (ru : Int), vI (le : Int), .ref 17, .ref 18, .ref 19, vZ kn], cN 60 LP, cN 60 AL, cN 480 PH, cN 480 TE, cK 60 LD, ob 9 [vI (mo : Int), .ref 21, .ref 22, vI (rc : Int)], cI mo nums, cK mo rcodes] 0 0
            refine ⟨nm1, ⟨by omega, by omega, by rw [kI_sub]; congr 1; omega⟩, ?_⟩
            have e5 : ((kI (bh : Int)) + (kI (((va_up mw1 nm1 (plen (LP l))) nm1 : Nat) : Int))) = kI (((bh + (seg LP AL PH TE le (fun j => (nums j).toNat) rc i (bo1 nm1)).wd) : Nat) : Int) := by rw [up_eq, kI_add, hwd]; rfl
            rw [e5]
            refine sq_ok rfl [(.istore_n 3, 0, 0, 0), (.iinc 4 1, 0, 0, 0), (.goto (-100), 0, 0, 0)] 126 _ _ _ _ _ (by decide +kernel) ?_
            show WM mX1_lay 0 0 Post 23 30 [(0, .ref 0), (1, .ref 14), (2, .ref 20), (3, vI (((bh + (seg LP AL PH TE le (fun j => (nums j).toNat) rc i (bo1 nm1)).wd) : Nat) : Int)), (4, .int ((kI (i : Int)) + (kI 1))), (5, vI (l : Int))] [] [ob 1 [.ref 1, .ref 2, .ref 3, .ref 4, .ref 5, .ref 6, .ref 7, .ref 8, .ref 9, .ref 10, .ref 11, .ref 12, .ref 13, vI (((nn2 + 1) : Nat) : Int), vI (ne2 : Int), vI (((nm1 + 1) : Nat) : Int)], cN 512 fr2, cN 512 to2, cI 512 wo2, cN 512 te2, cZ 512 (hvy fr2 te2 (bo1 nm1) ne1 ne2 hv1 ne2), cI 401 (va_up fo2 nn2 (-2)), cI 512 no2, cN 16 (va_up mb1 nm1 i), cN 16 (va_up mw1 nm1 (plen (LP l))), cI 16 (va_up ml1 nm1 (l : Int)), cN 16 (va_up ma1 nm1 (AL l)), cI 16 (skA (va_up sk1 nm1 (-2)) nm1 ne1 (bo1 nm1) nn2 nn1 PH TE l (AL l)), cN 17 (va_up bo1 (nm1 + 1) nn2), ob 4 [.ref 15, .ref 16, vI (ru : Int), vI (le : Int), .ref 17, .ref 18, .ref 19, vZ kn], cN 60 LP, cN 60 AL, cN 480 PH, cN 480 TE, cK 60 LD, ob 9 [vI (mo : Int), .ref 21, .ref 22, vI (rc : Int)], cI mo nums, cK mo rcodes] 0 0
            have e6 : ((kI (i : Int)) + (kI 1)) = kI (((i + 1) : Nat) : Int) := by first | (simp only [kI_add, kI_sub, kI_mul]; done) | (simp only [kI_add, kI_sub, kI_mul]; rfl)
            rw [e6]
            exact WM.pick [0, 1, 2, 3, 4] rfl (ih30 (i + 1) (bh + (seg LP AL PH TE le (fun j => (nums j).toNat) rc i (bo1 nm1)).wd) _ fr2 to2 wo2 te2 (hvy fr2 te2 (bo1 nm1) ne1 ne2 hv1 ne2) (va_up fo2 nn2 (-2)) no2 (va_up mb1 nm1 i) (va_up mw1 nm1 (plen (LP l))) (va_up ml1 nm1 (l : Int)) (va_up ma1 nm1 (AL l)) (skA (va_up sk1 nm1 (-2)) nm1 ne1 (bo1 nm1) nn2 nn1 PH TE l (AL l)) (va_up bo1 (nm1 + 1) nn2) (nn2 + 1) ne2 (nm1 + 1) (by omega) (by first | exact hg | exact hNew2) (by first | exact ⟨f, hf, hDf⟩ | exact hDn) (by omega) (by omega))
          · 
            rw [kI_le (by omega)] at c89
            refine sq_ok rfl [(.aload_n 0, 0, 0, 0), (.aload_n 2, 0, 0, 0), (.getfield 77, 9, 1, 0), (.iload 4, 0, 0, 0), (.iaload, 0, 0, 0)] 92 _ _ _ _ _ (by decide +kernel) ?_
            show ∃ j99 : Nat, mj mo (kI (i : Int)) j99 ∧ WM mX1_lay 0 0 Post 23 100 [(0, .ref 0), (1, .ref 14), (2, .ref 20), (3, vI (bh : Int)), (4, vI (i : Int)), (5, vI (lgs LP le (fun j => (nums j).toNat) i (min 4 (rc - i))))] [vI (nums j99), .ref 0] [ob 1 [.ref 1, .ref 2, .ref 3, .ref 4, .ref 5, .ref 6, .ref 7, .ref 8, .ref 9, .ref 10, .ref 11, .ref 12, .ref 13, vI (nn1 : Int), vI (ne1 : Int), vI (nm1 : Int)], cN 512 fr1, cN 512 to1, cI 512 wo1, cN 512 te1, cZ 512 hv1, cI 401 fo1, cI 512 no1, cN 16 (va_up mb1 nm1 i), cN 16 mw1, cI 16 (va_up ml1 nm1 (lgs LP le (fun j => (nums j).toNat) i (min 4 (rc - i)))), cN 16 ma1, cI 16 (va_up sk1 nm1 (-2)), cN 17 bo1, ob 4 [.ref 15, .ref 16, vI (ru : Int), vI (le : Int), .ref 17, .ref 18, .ref 19, vZ kn], cN 60 LP, cN 60 AL, cN 480 PH, cN 480 TE, cK 60 LD, ob 9 [vI (mo : Int), .ref 21, .ref 22, vI (rc : Int)], cI mo nums, cK mo rcodes] 0 0
            refine ⟨i, ⟨by omega, by omega, rfl⟩, ?_⟩
            obtain ⟨n, hn⟩ : ∃ n : Nat, nums i = (n : Int) := ⟨(nums i).toNat, by omega⟩
            rw [hn]
            refine wm_callV (y := mX1_lay) mX1_layWord [0, 1, 2, 3, 4, 5, 6, 7, 8, 9, 10, 11, 12, 13] (pc := 100) (rest := []) (mc' := 0) (ms' := 0) (by decide +kernel) kX1_80 (c_X1_layWord fr1 to1 wo1 te1 hv1 fo1 no1 (va_up mb1 nm1 i) mw1 (va_up ml1 nm1 (lgs LP le (fun j => (nums j).toNat) i (min 4 (rc - i)))) ma1 (va_up sk1 nm1 (-2)) bo1 nn1 ne1 nm1 (by omega) hg.c hbb (by omega) (by omega) hg.t n (by omega)) rfl rfl ⟨_, rfl, rfl⟩ ⟨Nat.le_of_ble_eq_true rfl, Nat.le_of_ble_eq_true rfl⟩ ⟨Nat.le_of_ble_eq_true rfl, Nat.le_of_ble_eq_true rfl⟩ (Nat.le_of_ble_eq_true rfl) rfl rfl (Nat.le_of_ble_eq_true rfl) rfl ?_
            rintro _ _ ⟨fr2, to2, wo2, te2, fo2, no2, nn2, ne2, rfl, rfl, hE2, hC2, hn2, he2⟩
            have hsg : (seg LP AL PH TE le (fun j => (nums j).toNat) rc i (bo1 nm1)) = ⟨i, 1, (lgs LP le (fun j => (nums j).toNat) i (min 4 (rc - i))), 1, bo1 nm1, nn2, [(bo1 nm1, nn1, (n : Int), 10)]⟩ := by unfold seg; rw [if_pos (by omega), hn2, hg.n, show (((nums i).toNat : Nat) : Int) = (n : Int) by omega]
            have hne : ne2 - 1 = ne1 := by omega
            have ht2 : ∀ e, e < ne2 → te2 e ≤ 10 := eL_ten (by rw [hE2]; intro x hx; rcases List.mem_append.mp hx with h | h; exact eL_ten2 hg.t x h; rw [List.mem_singleton.mp h]; exact Nat.le_refl _)
            have hNew := gR_add hg (seg LP AL PH TE le (fun j => (nums j).toNat) rc i (bo1 nm1)) (sk2 := va_up sk1 nm1 (-2)) (nn2 := nn2) (by rw [hsg]; exact hE2) hC2 (by rw [hsg]) (by rw [hsg]) (fun k hk => up_ne _ _ hk) (fun _ => ⟨up_eq _ _ _, fun x hx => by rw [hsg] at hx; rw [List.mem_singleton.mp hx]; exact Int.natCast_nonneg n⟩) (fun h => absurd h (by rw [up_eq]; decide)) ht2
            have hNew2 : gR (D ++ [(seg LP AL PH TE le (fun j => (nums j).toNat) rc i (bo1 nm1))]) fr2 to2 wo2 te2 (hvy fr2 te2 (bo1 nm1) ne1 ne2 hv1 ne2) (va_up fo2 nn2 (-2)) no2 (va_up mb1 nm1 i) (va_up mw1 nm1 1) (va_up ml1 nm1 (lgs LP le (fun j => (nums j).toNat) i (min 4 (rc - i)))) (va_up ma1 nm1 1) (va_up sk1 nm1 (-2)) (va_up bo1 (nm1 + 1) nn2) (nn2 + 1) ne2 (nm1 + 1) := by rw [hsg] at hNew ⊢; exact hNew
            have hwd : (seg LP AL PH TE le (fun j => (nums j).toNat) rc i (bo1 nm1)).wd = 1 := by rw [hsg]
            have hw1 : 1 ≤ (seg LP AL PH TE le (fun j => (nums j).toNat) rc i (bo1 nm1)).wd ∧ i + (seg LP AL PH TE le (fun j => (nums j).toNat) rc i (bo1 nm1)).wd ≤ rc ∧ nn2 + 1 ≤ 1 + 25 * (nm1 + 1) ∧ ne2 ≤ 32 * (nm1 + 1) := by omega
            have hnx : (seg LP AL PH TE le (fun j => (nums j).toNat) rc i (bo1 nm1)).nx = nn2 := by rw [hsg]
            rw [hne]
            have hDn : ∃ f, rc ≤ (bh + (seg LP AL PH TE le (fun j => (nums j).toNat) rc i (bo1 nm1)).wd) + f ∧ (D ++ [(seg LP AL PH TE le (fun j => (nums j).toNat) rc i (bo1 nm1))]) ++ segs LP AL PH TE le (fun j => (nums j).toNat) rc f (bh + (seg LP AL PH TE le (fun j => (nums j).toNat) rc i (bo1 nm1)).wd) (va_up bo1 (nm1 + 1) nn2 (nm1 + 1)) = segs LP AL PH TE le (fun j => (nums j).toNat) rc rc 0 0 := by
              have hbi : bh = i := by omega
              obtain ⟨f1, rfl⟩ : ∃ f1, f = f1 + 1 := ⟨f - 1, by omega⟩
              refine ⟨f1, by omega, ?_⟩
              rw [← hDf, hbi, up_eq, ← hnx, List.append_assoc]
              conv => rhs; rw [segs, if_pos (show i < rc by omega)]
              rfl
            show WM mX1_lay 0 0 Post 23 103 [(0, .ref 0), (1, .ref 14), (2, .ref 20), (3, vI (bh : Int)), (4, vI (i : Int)), (5, vI (lgs LP le (fun j => (nums j).toNat) i (min 4 (rc - i))))] [] [ob 1 [.ref 1, .ref 2, .ref 3, .ref 4, .ref 5, .ref 6, .ref 7, .ref 8, .ref 9, .ref 10, .ref 11, .ref 12, .ref 13, vI (((nn2 + 1) : Nat) : Int), vI (ne2 : Int), vI (((nm1 + 1) : Nat) : Int)], cN 512 fr2, cN 512 to2, cI 512 wo2, cN 512 te2, cZ 512 (hvy fr2 te2 (bo1 nm1) ne1 ne2 hv1 ne2), cI 401 (va_up fo2 nn2 (-2)), cI 512 no2, cN 16 (va_up mb1 nm1 i), cN 16 (va_up mw1 nm1 1), cI 16 (va_up ml1 nm1 (lgs LP le (fun j => (nums j).toNat) i (min 4 (rc - i)))), cN 16 (va_up ma1 nm1 1), cI 16 (va_up sk1 nm1 (-2)), cN 17 (va_up bo1 (nm1 + 1) nn2), ob 4 [.ref 15, .ref 16, vI (ru : Int), vI (le : Int), .ref 17, .ref 18, .ref 19, vZ kn], cN 60 LP, cN 60 AL, cN 480 PH, cN 480 TE, cK 60 LD, ob 9 [vI (mo : Int), .ref 21, .ref 22, vI (rc : Int)], cI mo nums, cK mo rcodes] 0 0
            refine sq_ok rfl [(.goto 10, 0, 0, 0)] 103 _ _ _ _ _ (by decide +kernel) ?_
            show WM mX1_lay 0 0 Post 23 113 [(0, .ref 0), (1, .ref 14), (2, .ref 20), (3, vI (bh : Int)), (4, vI (i : Int)), (5, vI (lgs LP le (fun j => (nums j).toNat) i (min 4 (rc - i))))] [] [ob 1 [.ref 1, .ref 2, .ref 3, .ref 4, .ref 5, .ref 6, .ref 7, .ref 8, .ref 9, .ref 10, .ref 11, .ref 12, .ref 13, vI (((nn2 + 1) : Nat) : Int), vI (ne2 : Int), vI (((nm1 + 1) : Nat) : Int)], cN 512 fr2, cN 512 to2, cI 512 wo2, cN 512 te2, cZ 512 (hvy fr2 te2 (bo1 nm1) ne1 ne2 hv1 ne2), cI 401 (va_up fo2 nn2 (-2)), cI 512 no2, cN 16 (va_up mb1 nm1 i), cN 16 (va_up mw1 nm1 1), cI 16 (va_up ml1 nm1 (lgs LP le (fun j => (nums j).toNat) i (min 4 (rc - i)))), cN 16 (va_up ma1 nm1 1), cI 16 (va_up sk1 nm1 (-2)), cN 17 (va_up bo1 (nm1 + 1) nn2), ob 4 [.ref 15, .ref 16, vI (ru : Int), vI (le : Int), .ref 17, .ref 18, .ref 19, vZ kn], cN 60 LP, cN 60 AL, cN 480 PH, cN 480 TE, cK 60 LD, ob 9 [vI (mo : Int), .ref 21, .ref 22, vI (rc : Int)], cI mo nums, cK mo rcodes] 0 0
            refine sq_ok rfl [(.iload_n 3, 0, 0, 0), (.aload_n 0, 0, 0, 0), (.getfield 37, 1, 8, 0), (.aload_n 0, 0, 0, 0), (.getfield 59, 1, 15, 0), (.iconst 1, 0, 0, 0), (.isub, 0, 0, 0), (.iaload, 0, 0, 0), (.iadd, 0, 0, 0)] 113 _ _ _ _ _ (by decide +kernel) ?_
            show ∃ j124 : Nat, mj 16 ((kI (((nm1 + 1) : Nat) : Int)) - (kI 1)) j124 ∧ WM mX1_lay 0 0 Post 23 126 [(0, .ref 0), (1, .ref 14), (2, .ref 20), (3, vI (bh : Int)), (4, vI (i : Int)), (5, vI (lgs LP le (fun j => (nums j).toNat) i (min 4 (rc - i))))] [.int ((kI (bh : Int)) + (kI (((va_up mw1 nm1 1) j124 : Nat) : Int)))] [ob 1 [.ref 1, .ref 2, .ref 3, .ref 4, .ref 5, .ref 6, .ref 7, .ref 8, .ref 9, .ref 10, .ref 11, .ref 12, .ref 13, vI (((nn2 + 1) : Nat) : Int), vI (ne2 : Int), vI (((nm1 + 1) : Nat) : Int)], cN 512 fr2, cN 512 to2, cI 512 wo2, cN 512 te2, cZ 512 (hvy fr2 te2 (bo1 nm1) ne1 ne2 hv1 ne2), cI 401 (va_up fo2 nn2 (-2)), cI 512 no2, cN 16 (va_up mb1 nm1 i), cN 16 (va_up mw1 nm1 1), cI 16 (va_up ml1 nm1 (lgs LP le (fun j => (nums j).toNat) i (min 4 (rc - i)))), cN 16 (va_up ma1 nm1 1), cI 16 (va_up sk1 nm1 (-2)), cN 17 (va_up bo1 (nm1 + 1) nn2), ob 4 [.ref 15, .ref 16, vI (ru : Int), vI (le : Int), .ref 17, .ref 18, .ref 19, vZ kn], cN 60 LP, cN 60 AL, cN 480 PH, cN 480 TE, cK 60 LD, ob 9 [vI (mo : Int), .ref 21, .ref 22, vI (rc : Int)], cI mo nums, cK mo rcodes] 0 0
            refine ⟨nm1, ⟨by omega, by omega, by rw [kI_sub]; congr 1; omega⟩, ?_⟩
            have e7 : ((kI (bh : Int)) + (kI (((va_up mw1 nm1 1) nm1 : Nat) : Int))) = kI (((bh + (seg LP AL PH TE le (fun j => (nums j).toNat) rc i (bo1 nm1)).wd) : Nat) : Int) := by rw [up_eq, kI_add, hwd]; rfl
            rw [e7]
            refine sq_ok rfl [(.istore_n 3, 0, 0, 0), (.iinc 4 1, 0, 0, 0), (.goto (-100), 0, 0, 0)] 126 _ _ _ _ _ (by decide +kernel) ?_
            show WM mX1_lay 0 0 Post 23 30 [(0, .ref 0), (1, .ref 14), (2, .ref 20), (3, vI (((bh + (seg LP AL PH TE le (fun j => (nums j).toNat) rc i (bo1 nm1)).wd) : Nat) : Int)), (4, .int ((kI (i : Int)) + (kI 1))), (5, vI (lgs LP le (fun j => (nums j).toNat) i (min 4 (rc - i))))] [] [ob 1 [.ref 1, .ref 2, .ref 3, .ref 4, .ref 5, .ref 6, .ref 7, .ref 8, .ref 9, .ref 10, .ref 11, .ref 12, .ref 13, vI (((nn2 + 1) : Nat) : Int), vI (ne2 : Int), vI (((nm1 + 1) : Nat) : Int)], cN 512 fr2, cN 512 to2, cI 512 wo2, cN 512 te2, cZ 512 (hvy fr2 te2 (bo1 nm1) ne1 ne2 hv1 ne2), cI 401 (va_up fo2 nn2 (-2)), cI 512 no2, cN 16 (va_up mb1 nm1 i), cN 16 (va_up mw1 nm1 1), cI 16 (va_up ml1 nm1 (lgs LP le (fun j => (nums j).toNat) i (min 4 (rc - i)))), cN 16 (va_up ma1 nm1 1), cI 16 (va_up sk1 nm1 (-2)), cN 17 (va_up bo1 (nm1 + 1) nn2), ob 4 [.ref 15, .ref 16, vI (ru : Int), vI (le : Int), .ref 17, .ref 18, .ref 19, vZ kn], cN 60 LP, cN 60 AL, cN 480 PH, cN 480 TE, cK 60 LD, ob 9 [vI (mo : Int), .ref 21, .ref 22, vI (rc : Int)], cI mo nums, cK mo rcodes] 0 0
            have e8 : ((kI (i : Int)) + (kI 1)) = kI (((i + 1) : Nat) : Int) := by first | (simp only [kI_add, kI_sub, kI_mul]; done) | (simp only [kI_add, kI_sub, kI_mul]; rfl)
            rw [e8]
            exact WM.pick [0, 1, 2, 3, 4] rfl (ih30 (i + 1) (bh + (seg LP AL PH TE le (fun j => (nums j).toNat) rc i (bo1 nm1)).wd) _ fr2 to2 wo2 te2 (hvy fr2 te2 (bo1 nm1) ne1 ne2 hv1 ne2) (va_up fo2 nn2 (-2)) no2 (va_up mb1 nm1 i) (va_up mw1 nm1 1) (va_up ml1 nm1 (lgs LP le (fun j => (nums j).toNat) i (min 4 (rc - i)))) (va_up ma1 nm1 1) (va_up sk1 nm1 (-2)) (va_up bo1 (nm1 + 1) nn2) (nn2 + 1) ne2 (nm1 + 1) (by omega) (by first | exact hg | exact hNew2) (by first | exact ⟨f, hf, hDf⟩ | exact hDn) (by omega) (by omega))
  exact WM.pick [0, 1, 2, 3, 4] rfl (lp30 _ 0 0 ([]) fr to wo te hv (va_up fo 0 (-2)) no mb mw ml ma sk (va_up bo 0 0) 1 0 0 (by omega) gR_0 ⟨rc, by omega, rfl⟩ (by omega) (Nat.lt_succ_self _))
