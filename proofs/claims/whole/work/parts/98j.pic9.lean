/-! THE PICTURE, 9: the heaviest, in both -/
theorem cand {k k1 B B1 te G w : Nat} {hv : Bool} (hB : 1 ≤ B1) (h : (k = k1 + 1 ∧ B = G * B1 ∧ te ≤ G ∧ 1 ≤ te ∧ (hv = true ↔ te = G)) ∨ (k = k1 ∧ B = B1 ∧ te = 10 ∧ hv = true)) (hw : 10 ^ k ∣ w) :
    10 ^ k1 ∣ tnO w te ∧ tnO w te / 10 ^ k1 * B1 ≤ w / 10 ^ k * B ∧ (hv = true → tnO w te / 10 ^ k1 * B1 = w / 10 ^ k * B) ∧ (0 < w → hv = false → tnO w te / 10 ^ k1 * B1 < w / 10 ^ k * B) ∧ (0 < w → 0 < tnO w te) := by
  obtain ⟨c, rfl⟩ := hw
  have hp : 0 < 10 ^ k1 := Nat.pow_pos (by decide)
  rcases h with ⟨rfl, rfl, h1, h2, h3⟩ | ⟨rfl, rfl, rfl, h4⟩
  · have hp2 : 0 < 10 ^ (k1 + 1) := Nat.pow_pos (by decide)
    have e : tnO (10 ^ (k1 + 1) * c) te = 10 ^ k1 * (c * te) := by
      unfold tnO
      split
      · rename_i h5
        rw [h5, Nat.pow_succ, Nat.mul_assoc, Nat.mul_comm 10 c]
      · rw [Nat.pow_succ, Nat.mul_right_comm, Nat.mul_div_cancel _ (by decide), Nat.mul_assoc]
    rw [e, Nat.mul_div_cancel_left _ hp, Nat.mul_div_cancel_left _ hp2, Nat.mul_assoc]
    refine ⟨Nat.dvd_mul_right _ _, Nat.mul_le_mul_left _ (Nat.mul_le_mul_right _ h1), fun h => by rw [h3.mp h], fun h5 h6 => ?_, fun h5 => ?_⟩
    · have h7 : te < G := by
        rcases Nat.lt_or_ge te G with h | h
        · exact h
        · rw [h3.mpr (by omega)] at h6
          cases h6
      have hc : 0 < c := Nat.pos_of_mul_pos_left h5
      exact Nat.mul_lt_mul_of_pos_left (Nat.mul_lt_mul_of_pos_right h7 hB) hc
    · have hc : 0 < c := Nat.pos_of_mul_pos_left h5
      exact Nat.mul_pos hp (Nat.mul_pos hc h2)
  · refine ⟨Nat.dvd_mul_right _ _, Nat.le_refl _, fun _ => rfl, fun _ h => (by rw [h4] at h; cases h), fun h => h⟩
def JW (D : List Sg) (M : Nat) (g gH : Nat → Nat) : Prop := (∀ v, 10 ^ kD D v ∣ g v) ∧ (∀ v, 10 ^ kD D v ∣ gH v) ∧ (∀ v, g v / 10 ^ kD D v * bD D v ≤ M) ∧ (∀ v, 0 < gH v ↔ g v / 10 ^ kD D v * bD D v = M) ∧ (∀ v, g v ≤ 10000000000000000)
theorem JW.d {D : List Sg} {M : Nat} {g gH : Nat → Nat} (h_ : JW D M g gH) : ∀ v, 10 ^ kD D v ∣ g v := h_.1
theorem JW.dH {D : List Sg} {M : Nat} {g gH : Nat → Nat} (h_ : JW D M g gH) : ∀ v, 10 ^ kD D v ∣ gH v := h_.2.1
theorem JW.le {D : List Sg} {M : Nat} {g gH : Nat → Nat} (h_ : JW D M g gH) : ∀ v, g v / 10 ^ kD D v * bD D v ≤ M := h_.2.2.1
theorem JW.iff {D : List Sg} {M : Nat} {g gH : Nat → Nat} (h_ : JW D M g gH) : ∀ v, 0 < gH v ↔ g v / 10 ^ kD D v * bD D v = M := h_.2.2.2.1
theorem JW.b {D : List Sg} {M : Nat} {g gH : Nat → Nat} (h_ : JW D M g gH) : ∀ v, g v ≤ 10000000000000000 := h_.2.2.2.2
theorem dvd_max {a x y : Nat} (h1 : a ∣ x) (h2 : a ∣ y) : a ∣ max x y := by
  rcases Nat.le_total x y with h | h
  · rw [Nat.max_eq_right h]; exact h2
  · rw [Nat.max_eq_left h]; exact h1
theorem val_max {x y d B : Nat} : max x y / d * B = max (x / d * B) (y / d * B) := by
  rcases Nat.le_total x y with h | h
  · rw [Nat.max_eq_right h, Nat.max_eq_right (Nat.mul_le_mul_right _ (Nat.div_le_div_right h))]
  · rw [Nat.max_eq_left h, Nat.max_eq_left (Nat.mul_le_mul_right _ (Nat.div_le_div_right h))]
theorem JW0 {D : List Sg} {M : Nat} (hM : 0 < M) : JW D M (fun _ => 0) (fun _ => 0) :=
  ⟨(fun _ => Nat.dvd_zero _),
  (fun _ => Nat.dvd_zero _),
  (fun v => by rw [Nat.zero_div, Nat.zero_mul]; exact Nat.zero_le _),
  (fun v => by show 0 < 0 ↔ 0 / 10 ^ kD D v * bD D v = M; rw [Nat.zero_div, Nat.zero_mul]; omega),
  (fun _ => Nat.zero_le _)⟩
theorem JW.relax {D : List Sg} {M : Nat} {g gH a aH a' aH' : Nat → Nat} {e f t te G : Nat} {hv : Bool} (hM : 0 < M) (hB : 1 ≤ bD D t) (he : (kD D f = kD D t + 1 ∧ bD D f = G * bD D t ∧ te ≤ G ∧ 1 ≤ te ∧ (hv = true ↔ te = G)) ∨ (kD D f = kD D t ∧ bD D f = bD D t ∧ te = 10 ∧ hv = true)) (ht10 : te ≤ 10) (h : JW D M g gH) (j : JW D M a aH) (h1 : ∀ v, a' v = if v = t then max (a v) (tnO (g f) te) else a v) (h2 : ∀ v, aH' v = if hv = true ∧ v = t then max (aH v) (tnO (gH f) te) else aH v) : JW D M a' aH' := by
  obtain ⟨c1, c2, c3, c4, _⟩ := cand hB he (h.d f)
  obtain ⟨k1, _, _, _, k5⟩ := cand hB he (h.dH f)
  have hfl := h.le f
  refine ⟨fun v => ?_, fun v => ?_, fun v => ?_, fun v => ?_, fun v => ?_⟩
  · rw [h1]
    split
    · rename_i e1
      rw [e1]
      exact dvd_max (j.d t) c1
    · exact j.d v
  · rw [h2]
    split
    · rename_i e1
      rw [e1.2]
      exact dvd_max (j.dH t) k1
    · exact j.dH v
  · rw [h1]
    split
    · rename_i e1
      rw [e1, val_max]
      have := j.le t
      omega
    · exact j.le v
  · rw [h1, h2]
    by_cases e1 : v = t
    · subst e1
      rw [if_pos rfl, val_max]
      have hjl := j.le v
      have hji := j.iff v
      have hgi := h.iff f
      cases hv with
      | true =>
        have c3 := c3 rfl
        rw [if_pos ⟨rfl, rfl⟩]
        constructor
        · intro hp
          by_cases q : 0 < aH v
          · have := hji.mp q
            omega
          · have q2 : 0 < gH f := by
              rcases Nat.eq_zero_or_pos (gH f) with q3 | q3
              · rw [q3, tnO_0] at hp
                omega
              · exact q3
            have := hgi.mp q2
            omega
        · intro hp
          by_cases q : a v / 10 ^ kD D v * bD D v = M
          · have := hji.mpr q
            omega
          · have := k5 (hgi.mpr (by omega))
            omega
      | false =>
        rw [if_neg (by simp)]
        rw [hji]
        have hlt : tnO (g f) te / 10 ^ kD D v * bD D v < M := by
          rcases Nat.eq_zero_or_pos (g f) with q | q
          · rw [q, tnO_0, Nat.zero_div, Nat.zero_mul]
            exact hM
          · have := c4 q rfl
            omega
        omega
    · rw [if_neg e1, if_neg (fun h => e1 h.2)]
      exact j.iff v
  · rw [h1]
    have := j.b v
    have h3 := Nat.le_trans (tnO_le (w := g f) ht10) (h.b f)
    split <;> omega
theorem flat_ix {D : List Sg} {hv : Nat → Bool} {ne : Nat} (hne : ne = neD D) (h : lst hv ne = D.flatMap hvS) {e : Nat} (he : e < ne) : ∃ s ∈ D, (frD D e, toD D e, woD D e, teD D e) ∈ s.es ∧ hv e = decide (frD D e ≠ s.bd ∨ teD D e = gtS s) := by
  have hz1 : (D.flatMap (fun s => s.es.map (fun x => (x, decide (x.1 ≠ s.bd ∨ x.2.2.2 = gtS s))))).map Prod.fst = edD D := by
    rw [List.map_flatMap]
    refine congrArg (fun f => D.flatMap f) (funext (fun s => ?_))
    rw [List.map_map]
    exact List.map_id _
  have hz2 : (D.flatMap (fun s => s.es.map (fun x => (x, decide (x.1 ≠ s.bd ∨ x.2.2.2 = gtS s))))).map Prod.snd = D.flatMap hvS := by
    rw [List.map_flatMap]
    refine congrArg (fun f => D.flatMap f) (funext (fun s => ?_))
    rw [List.map_map]
    rfl
  generalize hZ : D.flatMap (fun s => s.es.map (fun x => (x, decide (x.1 ≠ s.bd ∨ x.2.2.2 = gtS s)))) = Z at hz1 hz2
  have hl : e < Z.length := by
    have := congrArg List.length hz1
    rw [List.length_map] at this
    rw [this, ← show ne = (edD D).length from hne]
    exact he
  have hm := List.getElem_mem hl
  have e1 : (edD D)[e]? = some Z[e].1 := by rw [← hz1, List.getElem?_map, List.getElem?_eq_getElem hl]; rfl
  have e2 : hv e = Z[e].2 := by
    have := lst_get hv he
    rw [h, ← hz2, List.getElem?_map, List.getElem?_eq_getElem hl] at this
    injection this with this
    exact this.symm
  have hm2 : Z[e] ∈ D.flatMap (fun s => s.es.map (fun x => (x, decide (x.1 ≠ s.bd ∨ x.2.2.2 = gtS s)))) := by rw [hZ]; exact hm
  obtain ⟨s, hs, hm3⟩ := List.mem_flatMap.mp hm2
  obtain ⟨x, hx, hxe⟩ := List.mem_map.mp hm3
  have ex : Z[e].1 = x := by rw [← hxe]
  have ed : Z[e].2 = decide (x.1 ≠ s.bd ∨ x.2.2.2 = gtS s) := by rw [← hxe]
  rw [ex] at e1
  have f0 : (edD D)[e]?.getD (0, 0, 0, 0) = x := by rw [e1]; rfl
  have e3 : (frD D e, toD D e, woD D e, teD D e) = x := by
    unfold frD toD woD teD
    rw [f0]
  refine ⟨s, hs, by rw [e3]; exact hx, ?_⟩
  have f1 : frD D e = x.1 := by rw [← e3]
  have f2 : teD D e = x.2.2.2 := by rw [← e3]
  rw [e2, f1, f2]
  exact ed
