/-! The sets of a graph, out of its segments alone -/
def edD (D : List Sg) : List Ed := D.flatMap Sg.es
def frD (D : List Sg) (e : Nat) : Nat := ((edD D)[e]?.getD (0, 0, 0, 0)).1
def toD (D : List Sg) (e : Nat) : Nat := ((edD D)[e]?.getD (0, 0, 0, 0)).2.1
def woD (D : List Sg) (e : Nat) : Int := ((edD D)[e]?.getD (0, 0, 0, 0)).2.2.1
def teD (D : List Sg) (e : Nat) : Nat := ((edD D)[e]?.getD (0, 0, 0, 0)).2.2.2
def boD (D : List Sg) (k : Nat) : Nat := match D[k]? with | some s => s.bd | none => lsB 0 D
def skD (D : List Sg) (k : Nat) : Int := match D[k]? with | some s => if s.es.any (fun x => decide (x.2.2.1 < 0)) then 0 else -2 | none => -2
def exD (D : List Sg) : List Nat × List (Nat × Nat) × List Nat × Bool := exS (wsO (frD D) (woD D) (edD D).length) (fO (frD D) (toD D) (woD D) (edD D).length (skD D) (boD D) D.length) 300 0 [clM (skD D) (boD D) D.length 1] [] []
theorem eL_at {D : List Sg} {fr to : Nat → Nat} {wo : Nat → Int} {te : Nat → Nat} {ne : Nat} (h : eL fr to wo te ne = D.flatMap Sg.es) : ne = (edD D).length ∧ ∀ e, e < ne → fr e = frD D e ∧ to e = toD D e ∧ wo e = woD D e ∧ te e = teD D e := by
  have h1 : ne = (edD D).length := by
    have := congrArg List.length h
    rw [eL, lst_len] at this
    exact this
  refine ⟨h1, fun e he => ?_⟩
  have h2 : (edD D)[e]? = some (fr e, to e, wo e, te e) := by
    unfold edD
    rw [← h]
    exact lst_get (fun e => (fr e, to e, wo e, te e)) he
  unfold frD toD woD teD
  rw [h2]
  exact ⟨rfl, rfl, rfl, rfl⟩
theorem wsO_ext {fr fr2 : Nat → Nat} {wo wo2 : Nat → Int} {ne : Nat} (h : ∀ e, e < ne → fr e = fr2 e ∧ wo e = wo2 e) (S : Nat) : wsO fr wo ne S = wsO fr2 wo2 ne S := by
  unfold wsO
  apply List.filter_congr
  intro w _
  rw [Bool.eq_iff_iff, List.any_eq_true, List.any_eq_true]
  constructor
  · rintro ⟨e, h1, h2⟩
    have := h e (List.mem_range.mp h1)
    exact ⟨e, h1, by rw [← this.1, ← this.2]; exact h2⟩
  · rintro ⟨e, h1, h2⟩
    have := h e (List.mem_range.mp h1)
    exact ⟨e, h1, by rw [this.1, this.2]; exact h2⟩
theorem tgO_ext {fr fr2 to to2 : Nat → Nat} {wo wo2 : Nat → Int} {S w : Nat} : ∀ {n : Nat}, (∀ e, e < n → fr e = fr2 e ∧ to e = to2 e ∧ wo e = wo2 e) → tgO fr to wo S w n = tgO fr2 to2 wo2 S w n
  | 0, _ => rfl
  | n + 1, h => by
    have h1 := h n (by omega)
    unfold tgO
    rw [tgO_ext (n := n) (fun e he => h e (by omega)), h1.1, h1.2.1, h1.2.2]
theorem clM_ext {sk sk2 : Nat → Int} {bo bo2 : Nat → Nat} {S : Nat} : ∀ {n : Nat}, (∀ m, m < n → (0 ≤ sk m ↔ 0 ≤ sk2 m)) → (∀ m, m ≤ n → bo m = bo2 m) → clM sk bo n S = clM sk2 bo2 n S
  | 0, _, _ => rfl
  | n + 1, h, hb => by
    have ih := clM_ext (sk := sk) (sk2 := sk2) (S := S) (n := n) (fun m hm => h m (by omega)) (fun m hm => hb m (by omega))
    unfold clM
    rw [ih, hb n (by omega), hb (n + 1) (Nat.le_refl _)]
    by_cases h1 : 0 ≤ sk n ∧ (clM sk2 bo2 n S).testBit (bo2 n) = true
    · rw [if_pos h1, if_pos ⟨(h n (by omega)).mp h1.1, h1.2⟩]
    · rw [if_neg h1, if_neg (fun q => h1 ⟨(h n (by omega)).mpr q.1, q.2⟩)]
theorem gR_bo {D : List Sg} {fr to : Nat → Nat} {wo : Nat → Int} {te : Nat → Nat} {hv : Nat → Bool} {fo no : Nat → Int} {mb mw : Nat → Nat} {ml : Nat → Int} {ma : Nat → Nat} {sk : Nat → Int} {bo : Nat → Nat} {nn ne nm : Nat} (h : gR D fr to wo te hv fo no mb mw ml ma sk bo nn ne nm) (hC : sgC 0 D) (hb0 : bo 0 = 0) : (∀ m, m ≤ nm → bo m = boD D m) ∧ ∀ m, m < nm → (0 ≤ sk m ↔ 0 ≤ skD D m) := by
  have hm := h.m
  refine ⟨fun m hm' => ?_, fun m hm' => ?_⟩
  · unfold boD
    cases hs : D[m]? with
    | some s => exact (h.b m s hs).2.2.2.2.1
    | none =>
      have h1 := List.getElem?_eq_none_iff.mp hs
      have := lsB_bo (bo := bo) (j := 0) hC hb0 (fun k s hk => by rw [Nat.zero_add]; exact ⟨(h.b k s hk).2.2.2.2.1, (h.b k s hk).2.2.2.2.2⟩)
      dsimp only
      rw [this, Nat.zero_add, show m = D.length by omega]
  · unfold skD
    obtain ⟨s, hs⟩ : ∃ s, D[m]? = some s := ⟨D[m]'(by omega), List.getElem?_eq_getElem _⟩
    have k := h.s m s hs
    rw [hs]
    dsimp only
    by_cases hany : s.es.any (fun x => decide (x.2.2.1 < 0)) = true
    · rw [if_pos hany]
      obtain ⟨x, h1, h2⟩ := List.any_eq_true.mp hany
      have h3 : x.2.2.1 < 0 := by simpa using h2
      constructor
      · intro _; decide
      · intro _
        rcases Int.lt_or_le (sk m) 0 with h4 | h4
        · have := (k.1 h4).2 x h1; omega
        · exact h4
    · rw [if_neg hany]
      constructor
      · intro h4
        obtain ⟨e, _, _, h5, h6⟩ := k.2 h4
        exact absurd (List.any_eq_true.mpr ⟨_, h5, decide_eq_true h6⟩) hany
      · intro h4; exact absurd h4 (by decide)
theorem exD_of {D : List Sg} {fr to : Nat → Nat} {wo : Nat → Int} {te : Nat → Nat} {hv : Nat → Bool} {fo no : Nat → Int} {mb mw : Nat → Nat} {ml : Nat → Int} {ma : Nat → Nat} {sk : Nat → Int} {bo : Nat → Nat} {nn ne nm : Nat} (h : gR D fr to wo te hv fo no mb mw ml ma sk bo nn ne nm) (hC : sgC 0 D) (hb0 : bo 0 = 0) : exS (wsO fr wo ne) (fO fr to wo ne sk bo nm) 300 0 [clM sk bo nm 1] [] [] = exD D := by
  obtain ⟨h1, h2⟩ := eL_at h.e
  obtain ⟨h3, h4⟩ := gR_bo h hC hb0
  have e1 : wsO fr wo ne = wsO (frD D) (woD D) (edD D).length := by
    funext S
    rw [← h1]
    exact wsO_ext (fun e he => ⟨(h2 e he).1, (h2 e he).2.2.1⟩) S
  have e2 : ∀ S, clM sk bo nm S = clM (skD D) (boD D) D.length S := fun S => by
    rw [← h.m]
    exact clM_ext h4 h3
  have e3 : fO fr to wo ne sk bo nm = fO (frD D) (toD D) (woD D) (edD D).length (skD D) (boD D) D.length := by
    funext S x
    unfold fO
    rw [e2, ← h1, tgO_ext (fun e he => ⟨(h2 e he).1, (h2 e he).2.1, (h2 e he).2.2.1⟩)]
  unfold exD
  rw [e1, e2, e3]
