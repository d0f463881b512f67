/-! Sets: the row of sets and arcs that is to come -/
def wsO (fr : Nat → Nat) (wo : Nat → Int) (ne S : Nat) : List Nat := (List.range 200).filter (fun w => (List.range ne).any (fun e => wo e == (w : Int) && S.testBit (fr e)))
def tgO (fr to : Nat → Nat) (wo : Nat → Int) (S w : Nat) : Nat → Nat
  | 0 => 0
  | e + 1 => if wo e = (w : Int) ∧ S.testBit (fr e) = true then tgO fr to wo S w e ||| 2 ^ to e else tgO fr to wo S w e
theorem tgO_bit {fr to : Nat → Nat} {wo : Nat → Int} {S w v : Nat} : ∀ {n : Nat}, (tgO fr to wo S w n).testBit v = true ↔ ∃ e, e < n ∧ wo e = (w : Int) ∧ S.testBit (fr e) = true ∧ to e = v
  | 0 => by
    constructor
    · intro h; simp [tgO] at h
    · rintro ⟨e, h, _⟩; omega
  | n + 1 => by
    unfold tgO
    by_cases h : wo n = (w : Int) ∧ S.testBit (fr n) = true
    · rw [if_pos h, tb_or, Bool.or_eq_true, decide_eq_true_eq, tgO_bit (n := n)]
      constructor
      · rintro (⟨e, h1, h2⟩ | h1)
        · exact ⟨e, by omega, h2⟩
        · exact ⟨n, by omega, h.1, h.2, h1⟩
      · rintro ⟨e, h1, h2⟩
        by_cases h3 : e = n
        · right; rw [← h3]; exact h2.2.2
        · exact Or.inl ⟨e, by omega, h2⟩
    · rw [if_neg h, tgO_bit (n := n)]
      constructor
      · rintro ⟨e, h1, h2⟩
        exact ⟨e, by omega, h2⟩
      · rintro ⟨e, h1, h2⟩
        by_cases h3 : e = n
        · exact absurd (by rw [h3] at h2; exact ⟨h2.1, h2.2.1⟩) h
        · exact ⟨e, by omega, h2⟩
def exW (f : Nat → Nat) : List Nat → List Nat → List (Nat × Nat) → List Nat × List (Nat × Nat) × Bool
  | [], L, A => (L, A, true)
  | w :: ws, L, A => match fnd (fun k => L[k]? == some (f w)) L.length with
    | some t => exW f ws L (A ++ [(w, t)])
    | none => if L.length = 300 then (L, A, false) else exW f ws (L ++ [f w]) (A ++ [(w, L.length)])
theorem exW_len {f : Nat → Nat} : ∀ (ws L : List Nat) (A : List (Nat × Nat)), A.length ≤ (exW f ws L A).2.1.length ∧ (exW f ws L A).2.1.length ≤ A.length + ws.length
  | [], L, A => ⟨Nat.le_refl _, Nat.le_refl _⟩
  | w :: ws, L, A => by
    unfold exW
    split
    · rename_i t _
      have := exW_len (f := f) ws L (A ++ [(w, t)])
      rw [List.length_append] at this
      simp only [List.length_cons, List.length_nil] at this ⊢
      exact ⟨by omega, by refine Nat.le_trans this.2 ?_; omega⟩
    · split
      · exact ⟨Nat.le_refl _, Nat.le_add_right _ _⟩
      · have := exW_len (f := f) ws (L ++ [f w]) (A ++ [(w, L.length)])
        rw [List.length_append] at this
        simp only [List.length_cons, List.length_nil] at this ⊢
        exact ⟨by omega, by refine Nat.le_trans this.2 ?_; omega⟩
def lsS (me : Nat → Nat) (cnt : Nat) : List Nat := (List.range cnt).map (mS me)
def lsA (aw at_ : Nat → Nat) (arcs : Nat) : List (Nat × Nat) := (List.range arcs).map (fun k => (aw k, at_ k))
theorem lsS_len (me : Nat → Nat) (cnt : Nat) : (lsS me cnt).length = cnt := by simp [lsS]
theorem lsA_len (aw at_ : Nat → Nat) (arcs : Nat) : (lsA aw at_ arcs).length = arcs := by simp [lsA]
theorem lsS_at {me : Nat → Nat} {cnt k : Nat} (h : k < cnt) : (lsS me cnt)[k]? = some (mS me k) := by simp [lsS, h]
theorem lsS_succ {me me2 : Nat → Nat} {cnt : Nat} (h : ∀ t, t ≠ cnt → mS me2 t = mS me t) : lsS me2 (cnt + 1) = lsS me cnt ++ [mS me2 cnt] := by
  unfold lsS
  rw [List.range_succ, List.map_append]
  congr 1
  apply List.map_congr_left
  intro t ht
  exact h t (by have := List.mem_range.mp ht; omega)
theorem lsS_ext {me me2 : Nat → Nat} {cnt : Nat} (h : ∀ t, t < cnt → mS me2 t = mS me t) : lsS me2 cnt = lsS me cnt := List.map_congr_left (fun t ht => h t (List.mem_range.mp ht))
theorem lsA_succ {aw at_ aw2 at2 : Nat → Nat} {arcs x t : Nat} (h : ∀ k, k < arcs → aw2 k = aw k ∧ at2 k = at_ k) (hx : aw2 arcs = x) (ht : at2 arcs = t) : lsA aw2 at2 (arcs + 1) = lsA aw at_ arcs ++ [(x, t)] := by
  unfold lsA
  rw [List.range_succ, List.map_append]
  congr 1
  · apply List.map_congr_left
    intro k hk
    have := h k (List.mem_range.mp hk)
    rw [this.1, this.2]
  · simp [hx, ht]
/-- the least member -/
def lwf (v : Nat) : Nat := (fnd v.testBit 448).getD 0
theorem lwf_low {v : Nat} (h : ¬ v = 0) (hv : v < 2 ^ 448) : lowB v (lwf v) := by
  unfold lwf
  cases hf : fnd v.testBit 448 with
  | none =>
    exfalso
    apply h
    apply Nat.eq_of_testBit_eq
    intro j
    rw [Nat.zero_testBit]
    by_cases hj : j < 448
    · exact fnd_spec0 hf j hj
    · exact Nat.testBit_lt_two_pow (Nat.lt_of_lt_of_le hv (Nat.pow_le_pow_right (by omega) (by omega)))
  | some t =>
    have := fnd_spec hf
    exact ⟨this.2.1, this.2.2⟩
theorem lowB_lt {v t n : Nat} (h : lowB v t) (hv : v < 2 ^ n) : t < n := by
  rcases Nat.lt_or_ge t n with h1 | h1
  · exact h1
  · have := Nat.testBit_lt_two_pow (Nat.lt_of_lt_of_le hv (Nat.pow_le_pow_right (n := 2) (by omega) h1))
    rw [h.1] at this
    cases this
/-- the sets that are held -/
def sR (nn : Nat) (me : Nat → Nat) (cnt : Nat) (fb nb : Nat → Int) : Prop :=
  (∀ j, me j < 18446744073709551616) ∧ cnt ≤ 300 ∧ (∀ s t, s < cnt → t < cnt → mS me s = mS me t → s = t) ∧ (∀ s, s < cnt → ¬ mS me s = 0 ∧ mS me s < 2 ^ nn) ∧ chn (fun s => lwf (mS me s)) fb nb 401 cnt
theorem chn_ext {f g : Nat → Nat} {fo no : Nat → Int} {nn ne : Nat} (h : chn f fo no nn ne) (hg : ∀ e, e < ne → f e = g e) : chn g fo no nn ne := by
  refine ⟨fun v hv => by rw [h.1 v hv, lstE_ext (n := ne) hg], fun e he => ?_, fun e he => by rw [← hg e he]; exact h.2.2 e he⟩
  rw [h.2.1 e he, hg e he, lstE_ext (n := e) (fun j hj => hg j (by omega))]
theorem sR.ext {nn : Nat} {me me2 : Nat → Nat} {cnt : Nat} {fb nb : Nat → Int} (h : sR nn me cnt fb nb) (h2 : ∀ j, me2 j < 18446744073709551616) (he : ∀ t, t < cnt → mS me2 t = mS me t) : sR nn me2 cnt fb nb := by
  refine ⟨h2, h.2.1, fun s t hs ht => by rw [he s hs, he t ht]; exact h.2.2.1 s t hs ht, fun s hs => by rw [he s hs]; exact h.2.2.2.1 s hs, ?_⟩
  exact chn_ext h.2.2.2.2 (fun e hh => by simp only [he e hh])
theorem sR.add {nn : Nat} {me : Nat → Nat} {cnt t : Nat} {fb nb : Nat → Int} (h : sR nn me cnt fb nb) (hc : cnt < 300) (hnew : ∀ s, s < cnt → mS me s ≠ mS me cnt) (ht : lowB (mS me cnt) t) (hb : mS me cnt < 2 ^ nn) (hnn : nn ≤ 401) : sR nn me (cnt + 1) (va_up fb t (cnt : Int)) (va_up nb cnt (fb t)) := by
  have h0 : ¬ mS me cnt = 0 := fun q => by have := ht.1; rw [q] at this; simp at this
  have htn := lowB_lt ht hb
  have hlw : lwf (mS me cnt) = t := low_uniq (lwf_low h0 (Nat.lt_of_lt_of_le hb (Nat.pow_le_pow_right (by omega) (by omega)))) ht
  refine ⟨h.1, by omega, fun a b ha hb' hab => ?_, fun s hs => ?_, ?_⟩
  · rcases Nat.lt_or_ge a cnt with h1 | h1 <;> rcases Nat.lt_or_ge b cnt with h2 | h2
    · exact h.2.2.1 a b h1 h2 hab
    · exact absurd (by rw [show b = cnt by omega] at hab; exact hab) (hnew a h1)
    · exact absurd (by rw [show a = cnt by omega] at hab; exact hab.symm) (hnew b h2)
    · omega
  · rcases Nat.lt_or_ge s cnt with h1 | h1
    · exact h.2.2.2.1 s h1
    · rw [show s = cnt by omega]; exact ⟨h0, hb⟩
  · refine chn_ext (chn_edge h.2.2.2.2 (a := t) (by omega)) (fun e he => ?_)
    by_cases h1 : e = cnt
    · subst h1; rw [up_eq]; exact hlw.symm
    · exact up_ne _ _ h1
theorem sR.lw {nn : Nat} {me : Nat → Nat} {cnt : Nat} {fb nb : Nat → Int} (h : sR nn me cnt fb nb) (hnn : nn ≤ 401) : ∀ s, s < cnt → lowB (mS me s) (lwf (mS me s)) := fun s hs => lwf_low (h.2.2.2.1 s hs).1 (Nat.lt_of_lt_of_le (h.2.2.2.1 s hs).2 (Nat.pow_le_pow_right (by omega) (by omega)))
theorem or_lt {a k n : Nat} (ha : a < 2 ^ n) (hk : k < n) : a ||| 2 ^ k < 2 ^ n := Nat.or_lt_two_pow ha (Nat.pow_lt_pow_right (by omega) hk)
theorem clM_lt {sk : Nat → Int} {bo : Nat → Nat} {n : Nat} : ∀ {nm S : Nat}, (∀ m, m ≤ nm → bo m < n) → S < 2 ^ n → clM sk bo nm S < 2 ^ n
  | 0, S, _, h => h
  | nm + 1, S, hb, h => by
    have := clM_lt (sk := sk) (nm := nm) (fun m hm => hb m (by omega)) h
    unfold clM
    split
    · exact or_lt this (hb _ (Nat.le_refl _))
    · exact this
theorem clM_sub {sk : Nat → Int} {bo : Nat → Nat} {v : Nat} : ∀ {nm S : Nat}, S.testBit v = true → (clM sk bo nm S).testBit v = true
  | 0, S, h => h
  | nm + 1, S, h => by
    have := clM_sub (sk := sk) (bo := bo) (nm := nm) h
    unfold clM
    split
    · rw [tb_or, this]; rfl
    · exact this
theorem tgO_lt {fr to : Nat → Nat} {wo : Nat → Int} {S w nn : Nat} : ∀ {n : Nat}, (∀ e, e < n → to e < nn) → tgO fr to wo S w n < 2 ^ nn
  | 0, _ => Nat.two_pow_pos _
  | n + 1, h => by
    have := tgO_lt (fr := fr) (wo := wo) (S := S) (w := w) (n := n) (fun e he => h e (by omega))
    unfold tgO
    split
    · exact or_lt this (h n (by omega))
    · exact this
def orL (to : Nat → Nat) : List Nat → Nat
  | [] => 0
  | e :: l => 2 ^ to e ||| orL to l
theorem orL_bit {to : Nat → Nat} {v : Nat} : ∀ {l : List Nat}, (orL to l).testBit v = true ↔ ∃ e, e ∈ l ∧ to e = v
  | [] => by simp [orL]
  | a :: l => by
    unfold orL
    rw [Nat.or_comm, tb_or, Bool.or_eq_true, decide_eq_true_eq, orL_bit (l := l)]
    constructor
    · rintro (⟨e, h1, h2⟩ | h1)
      · exact ⟨e, List.mem_cons_of_mem _ h1, h2⟩
      · exact ⟨a, List.mem_cons_self, h1⟩
    · rintro ⟨e, h1, h2⟩
      rcases List.mem_cons.mp h1 with h3 | h3
      · right; rw [← h3]; exact h2
      · exact Or.inl ⟨e, h3, h2⟩
theorem len_lt {l : List Nat} {n : Nat} (hd : l.Nodup) (h : ∀ e ∈ l, e < n) : l.length ≤ n := by
  have := List.Nodup.length_le_of_subset hd (l₂ := List.range n) (fun e he => List.mem_range.mpr (h e he))
  rwa [List.length_range] at this

set_option maxRecDepth 100000 in
set_option maxHeartbeats 500000 in
theorem c_X5_makeTarget (cnt : Nat) (wy fa fw as_ aw at_ : Nat → Nat) (nA arcs ln : Nat) (me : Nat → Nat) (fb nb : Nat → Int) (wu : Nat → Nat) (fk nw : Nat → Int) (fr to : Nat → Nat) (wo : Nat → Int) (te : Nat → Nat) (hv : Nat → Bool) (fo no : Nat → Int) (mb mw : Nat → Nat) (ml : Nat → Int) (ma : Nat → Nat) (sk : Nat → Int) (bo : Nat → Nat) (nn ne nm : Nat) (hme : ∀ j, me j < 18446744073709551616) (hc : cnt ≤ 300) (hne : ne ≤ 512) (hnn : nn ≤ 401) (hG : chn fr fo no nn ne) (hwo : ∀ e, e < ne → -2 ≤ wo e ∧ wo e < 200) (hto : ∀ e, e < ne → to e < nn) (hnm : nm ≤ 16) (hbo : ∀ m, m ≤ nm → bo m < 401) (hsk : ∀ m, m < nm → -2147483648 ≤ sk m ∧ sk m ≤ 2147483647) (Q : Nat → Prop) (hQ : ∀ e, Q e → e < ne) (hS : wS wo Q wu fk nw) (x : Nat) (hx : x < 200) (hb : (wu (x / 64)).testBit (x % 64) = true) (T : Nat) (hT : ∀ v, T.testBit v = true ↔ ∃ e, Q e ∧ wo e = (x : Int) ∧ to e = v) : CT mX5_makeTarget 0 0 [.ref 0, .ref 11, vI (x : Int)] [ob 5 [vI (cnt : Int), .ref 1, .ref 2, .ref 3, .ref 4, .ref 25, .ref 26, vI (arcs : Int), vI (ln : Int), .ref 5, .ref 6, .ref 7, .ref 8, .ref 9, .ref 10], cK 300 wy, cN 300 fa, cK 300 fw, cN 301 as_, cK 2107 me, cI 401 fb, cI 300 nb, cK 4 wu, cI 200 fk, cI 512 nw, ob 1 [.ref 12, .ref 13, .ref 14, .ref 15, .ref 16, .ref 17, .ref 18, .ref 19, .ref 20, .ref 21, .ref 22, .ref 23, .ref 24, vI (nn : Int), vI (ne : Int), vI (nm : Int)], cN 512 fr, cN 512 to, cI 512 wo, cN 512 te, cZ 512 hv, cI 401 fo, cI 512 no, cN 16 mb, cN 16 mw, cI 16 ml, cN 16 ma, cI 16 sk, cN 17 bo, cN nA aw, cN nA at_] (fun r w => ∃ me2 : Nat → Nat, r = none ∧ w = [ob 5 [vI (cnt : Int), .ref 1, .ref 2, .ref 3, .ref 4, .ref 25, .ref 26, vI (arcs : Int), vI (ln : Int), .ref 5, .ref 6, .ref 7, .ref 8, .ref 9, .ref 10], cK 300 wy, cN 300 fa, cK 300 fw, cN 301 as_, cK 2107 me2, cI 401 fb, cI 300 nb, cK 4 wu, cI 200 fk, cI 512 nw, ob 1 [.ref 12, .ref 13, .ref 14, .ref 15, .ref 16, .ref 17, .ref 18, .ref 19, .ref 20, .ref 21, .ref 22, .ref 23, .ref 24, vI (nn : Int), vI (ne : Int), vI (nm : Int)], cN 512 fr, cN 512 to, cI 512 wo, cN 512 te, cZ 512 hv, cI 401 fo, cI 512 no, cN 16 mb, cN 16 mw, cI 16 ml, cN 16 ma, cI 16 sk, cN 17 bo, cN nA aw, cN nA at_] ∧ (∀ j, me2 j < 18446744073709551616) ∧ mS me2 cnt = clM sk bo nm T ∧ ∀ t, t ≠ cnt → mS me2 t = mS me t) := by
  refine CT.intro rfl (Nat.le_of_ble_eq_true rfl) ?_
  generalize hPost : (fun r w => ∃ me2 : Nat → Nat, r = none ∧ w = [ob 5 [vI (cnt : Int), .ref 1, .ref 2, .ref 3, .ref 4, .ref 25, .ref 26, vI (arcs : Int), vI (ln : Int), .ref 5, .ref 6, .ref 7, .ref 8, .ref 9, .ref 10], cK 300 wy, cN 300 fa, cK 300 fw, cN 301 as_, cK 2107 me2, cI 401 fb, cI 300 nb, cK 4 wu, cI 200 fk, cI 512 nw, ob 1 [.ref 12, .ref 13, .ref 14, .ref 15, .ref 16, .ref 17, .ref 18, .ref 19, .ref 20, .ref 21, .ref 22, .ref 23, .ref 24, vI (nn : Int), vI (ne : Int), vI (nm : Int)], cN 512 fr, cN 512 to, cI 512 wo, cN 512 te, cZ 512 hv, cI 401 fo, cI 512 no, cN 16 mb, cN 16 mw, cI 16 ml, cN 16 ma, cI 16 sk, cN 17 bo, cN nA aw, cN nA at_] ∧ (∀ j, me2 j < 18446744073709551616) ∧ mS me2 cnt = clM sk bo nm T ∧ ∀ t, t ≠ cnt → mS me2 t = mS me t : MP) = Post
  have hPo : ∀ rr ww, (fun r w => ∃ me2 : Nat → Nat, r = none ∧ w = [ob 5 [vI (cnt : Int), .ref 1, .ref 2, .ref 3, .ref 4, .ref 25, .ref 26, vI (arcs : Int), vI (ln : Int), .ref 5, .ref 6, .ref 7, .ref 8, .ref 9, .ref 10], cK 300 wy, cN 300 fa, cK 300 fw, cN 301 as_, cK 2107 me2, cI 401 fb, cI 300 nb, cK 4 wu, cI 200 fk, cI 512 nw, ob 1 [.ref 12, .ref 13, .ref 14, .ref 15, .ref 16, .ref 17, .ref 18, .ref 19, .ref 20, .ref 21, .ref 22, .ref 23, .ref 24, vI (nn : Int), vI (ne : Int), vI (nm : Int)], cN 512 fr, cN 512 to, cI 512 wo, cN 512 te, cZ 512 hv, cI 401 fo, cI 512 no, cN 16 mb, cN 16 mw, cI 16 ml, cN 16 ma, cI 16 sk, cN 17 bo, cN nA aw, cN nA at_] ∧ (∀ j, me2 j < 18446744073709551616) ∧ mS me2 cnt = clM sk bo nm T ∧ ∀ t, t ≠ cnt → mS me2 t = mS me t : MP) rr ww → Post rr ww := by rw [← hPost]; exact fun _ _ h => h
  clear hPost
  obtain ⟨l0, hl1, hl2, hl3⟩ := hS.2.2 x (by omega) hb
  have hT2 : T = orL to l0 := by
      apply Nat.eq_of_testBit_eq
      intro v
      rw [Bool.eq_iff_iff, hT v, orL_bit]
      constructor
      · rintro ⟨e, q1, q2, q3⟩; exact ⟨e, (hl3 e).mpr ⟨q1, q2⟩, q3⟩
      · rintro ⟨e, q1, q2⟩; exact ⟨e, ((hl3 e).mp q1).1, ((hl3 e).mp q1).2, q2⟩
  have hl4 : ∀ e ∈ l0, e < ne := fun e he => hQ e ((hl3 e).mp he).1
  have hl5 := len_lt hl2 hl4
  show WM mX5_makeTarget 0 0 Post 27 0 [(0, .ref 0), (1, .ref 11), (2, vI (x : Int))] [] [ob 5 [vI (cnt : Int), .ref 1, .ref 2, .ref 3, .ref 4, .ref 25, .ref 26, vI (arcs : Int), vI (ln : Int), .ref 5, .ref 6, .ref 7, .ref 8, .ref 9, .ref 10], cK 300 wy, cN 300 fa, cK 300 fw, cN 301 as_, cK 2107 me, cI 401 fb, cI 300 nb, cK 4 wu, cI 200 fk, cI 512 nw, ob 1 [.ref 12, .ref 13, .ref 14, .ref 15, .ref 16, .ref 17, .ref 18, .ref 19, .ref 20, .ref 21, .ref 22, .ref 23, .ref 24, vI (nn : Int), vI (ne : Int), vI (nm : Int)], cN 512 fr, cN 512 to, cI 512 wo, cN 512 te, cZ 512 hv, cI 401 fo, cI 512 no, cN 16 mb, cN 16 mw, cI 16 ml, cN 16 ma, cI 16 sk, cN 17 bo, cN nA aw, cN nA at_] 0 0
  refine sq_ok rfl [(.aload_n 0, 0, 0, 0)] 0 _ _ _ _ _ (by decide +kernel) ?_
  show WM mX5_makeTarget 0 0 Post 27 1 [(0, .ref 0), (1, .ref 11), (2, vI (x : Int))] [.ref 0] [ob 5 [vI (cnt : Int), .ref 1, .ref 2, .ref 3, .ref 4, .ref 25, .ref 26, vI (arcs : Int), vI (ln : Int), .ref 5, .ref 6, .ref 7, .ref 8, .ref 9, .ref 10], cK 300 wy, cN 300 fa, cK 300 fw, cN 301 as_, cK 2107 me, cI 401 fb, cI 300 nb, cK 4 wu, cI 200 fk, cI 512 nw, ob 1 [.ref 12, .ref 13, .ref 14, .ref 15, .ref 16, .ref 17, .ref 18, .ref 19, .ref 20, .ref 21, .ref 22, .ref 23, .ref 24, vI (nn : Int), vI (ne : Int), vI (nm : Int)], cN 512 fr, cN 512 to, cI 512 wo, cN 512 te, cZ 512 hv, cI 401 fo, cI 512 no, cN 16 mb, cN 16 mw, cI 16 ml, cN 16 ma, cI 16 sk, cN 17 bo, cN nA aw, cN nA at_] 0 0
  refine wm_callV (y := mX5_makeTarget) mX5_clearMade [0, 1, 2, 3, 4, 5, 6, 7, 8, 9, 10, 25, 26] (pc := 1) (rest := []) (mc' := 0) (ms' := 0) (by decide +kernel) kX5_70 (c_X5_clearMade cnt wy fa fw as_ aw at_ nA arcs ln me fb nb wu fk nw hc) rfl rfl ⟨_, rfl, rfl⟩ ⟨Nat.le_of_ble_eq_true rfl, Nat.le_of_ble_eq_true rfl⟩ ⟨Nat.le_of_ble_eq_true rfl, Nat.le_of_ble_eq_true rfl⟩ (Nat.le_of_ble_eq_true rfl) rfl rfl (Nat.le_of_ble_eq_true rfl) rfl ?_
  rintro _ _ ⟨rfl, rfl⟩
  show WM mX5_makeTarget 0 0 Post 27 4 [(0, .ref 0), (1, .ref 11), (2, vI (x : Int))] [] [ob 5 [vI (cnt : Int), .ref 1, .ref 2, .ref 3, .ref 4, .ref 25, .ref 26, vI (arcs : Int), vI (ln : Int), .ref 5, .ref 6, .ref 7, .ref 8, .ref 9, .ref 10], cK 300 wy, cN 300 fa, cK 300 fw, cN 301 as_, cK 2107 (sClr me cnt), cI 401 fb, cI 300 nb, cK 4 wu, cI 200 fk, cI 512 nw, ob 1 [.ref 12, .ref 13, .ref 14, .ref 15, .ref 16, .ref 17, .ref 18, .ref 19, .ref 20, .ref 21, .ref 22, .ref 23, .ref 24, vI (nn : Int), vI (ne : Int), vI (nm : Int)], cN 512 fr, cN 512 to, cI 512 wo, cN 512 te, cZ 512 hv, cI 401 fo, cI 512 no, cN 16 mb, cN 16 mw, cI 16 ml, cN 16 ma, cI 16 sk, cN 17 bo, cN nA aw, cN nA at_] 0 0
  refine sq_ok rfl [(.aload_n 0, 0, 0, 0), (.getfield 43, 5, 13, 0), (.iload_n 2, 0, 0, 0), (.iaload, 0, 0, 0), (.istore_n 3, 0, 0, 0), (.iconst 0, 0, 0, 0), (.istore 4, 0, 0, 0)] 4 _ _ _ _ _ (by decide +kernel) ?_
  show ∃ j9 : Nat, mj 200 (kI (x : Int)) j9 ∧ WM mX5_makeTarget 0 0 Post 27 14 [(0, .ref 0), (1, .ref 11), (2, vI (x : Int)), (3, vI (fk j9)), (4, vI 0)] [] [ob 5 [vI (cnt : Int), .ref 1, .ref 2, .ref 3, .ref 4, .ref 25, .ref 26, vI (arcs : Int), vI (ln : Int), .ref 5, .ref 6, .ref 7, .ref 8, .ref 9, .ref 10], cK 300 wy, cN 300 fa, cK 300 fw, cN 301 as_, cK 2107 (sClr me cnt), cI 401 fb, cI 300 nb, cK 4 wu, cI 200 fk, cI 512 nw, ob 1 [.ref 12, .ref 13, .ref 14, .ref 15, .ref 16, .ref 17, .ref 18, .ref 19, .ref 20, .ref 21, .ref 22, .ref 23, .ref 24, vI (nn : Int), vI (ne : Int), vI (nm : Int)], cN 512 fr, cN 512 to, cI 512 wo, cN 512 te, cZ 512 hv, cI 401 fo, cI 512 no, cN 16 mb, cN 16 mw, cI 16 ml, cN 16 ma, cI 16 sk, cN 17 bo, cN nA aw, cN nA at_] 0 0
  refine ⟨x, ⟨by omega, by omega, rfl⟩, ?_⟩
  have lp14 : ∀ (n14 : Nat) (l : List Nat) (z : Int) (n : Nat) (me1 : Nat → Nat), (l.length + n ≤ 512) → (lch nw z l) → (∀ e ∈ l, e < ne) → (∀ j, me1 j < 18446744073709551616) → (mS me1 cnt ||| orL to l = T) → (∀ t, t ≠ cnt → mS me1 t = mS me t) → l.length < n14 → WM mX5_makeTarget 0 0 Post 27 14 [(0, .ref 0), (1, .ref 11), (2, vI (x : Int)), (3, vI z), (4, vI (n : Int))] [] [ob 5 [vI (cnt : Int), .ref 1, .ref 2, .ref 3, .ref 4, .ref 25, .ref 26, vI (arcs : Int), vI (ln : Int), .ref 5, .ref 6, .ref 7, .ref 8, .ref 9, .ref 10], cK 300 wy, cN 300 fa, cK 300 fw, cN 301 as_, cK 2107 me1, cI 401 fb, cI 300 nb, cK 4 wu, cI 200 fk, cI 512 nw, ob 1 [.ref 12, .ref 13, .ref 14, .ref 15, .ref 16, .ref 17, .ref 18, .ref 19, .ref 20, .ref 21, .ref 22, .ref 23, .ref 24, vI (nn : Int), vI (ne : Int), vI (nm : Int)], cN 512 fr, cN 512 to, cI 512 wo, cN 512 te, cZ 512 hv, cI 401 fo, cI 512 no, cN 16 mb, cN 16 mw, cI 16 ml, cN 16 ma, cI 16 sk, cN 17 bo, cN nA aw, cN nA at_] 0 0 := by
    intro n14
    induction n14 with
    | zero => intro l z n me1 hn hl hle h1 h2 h3 hm; exact absurd hm (Nat.not_lt_zero _)
    | succ n14 ih14 =>
      intro l z n me1 hn hl hle h1 h2 h3 hm14
      have hzR : -2147483648 ≤ z ∧ z ≤ 2147483647 := by
            cases l with
            | nil => have : z = -2 := hl
                     omega
            | cons a l => have := hl.1; have := hle a List.mem_cons_self; omega
      refine sq_ok rfl [(.iload 4, 0, 0, 0), (.sipush 512, 0, 0, 0), (.if_icmp .ge 30, 0, 0, 0)] 14 _ _ _ _ _ (by decide +kernel) ?_
      show (kI 512 ≤ kI (n : Int) → WM mX5_makeTarget 0 0 Post 27 49 [(0, .ref 0), (1, .ref 11), (2, vI (x : Int)), (3, vI z), (4, vI (n : Int))] [] [ob 5 [vI (cnt : Int), .ref 1, .ref 2, .ref 3, .ref 4, .ref 25, .ref 26, vI (arcs : Int), vI (ln : Int), .ref 5, .ref 6, .ref 7, .ref 8, .ref 9, .ref 10], cK 300 wy, cN 300 fa, cK 300 fw, cN 301 as_, cK 2107 me1, cI 401 fb, cI 300 nb, cK 4 wu, cI 200 fk, cI 512 nw, ob 1 [.ref 12, .ref 13, .ref 14, .ref 15, .ref 16, .ref 17, .ref 18, .ref 19, .ref 20, .ref 21, .ref 22, .ref 23, .ref 24, vI (nn : Int), vI (ne : Int), vI (nm : Int)], cN 512 fr, cN 512 to, cI 512 wo, cN 512 te, cZ 512 hv, cI 401 fo, cI 512 no, cN 16 mb, cN 16 mw, cI 16 ml, cN 16 ma, cI 16 sk, cN 17 bo, cN nA aw, cN nA at_] 0 0) ∧ (¬ kI 512 ≤ kI (n : Int) → WM mX5_makeTarget 0 0 Post 27 22 [(0, .ref 0), (1, .ref 11), (2, vI (x : Int)), (3, vI z), (4, vI (n : Int))] [] [ob 5 [vI (cnt : Int), .ref 1, .ref 2, .ref 3, .ref 4, .ref 25, .ref 26, vI (arcs : Int), vI (ln : Int), .ref 5, .ref 6, .ref 7, .ref 8, .ref 9, .ref 10], cK 300 wy, cN 300 fa, cK 300 fw, cN 301 as_, cK 2107 me1, cI 401 fb, cI 300 nb, cK 4 wu, cI 200 fk, cI 512 nw, ob 1 [.ref 12, .ref 13, .ref 14, .ref 15, .ref 16, .ref 17, .ref 18, .ref 19, .ref 20, .ref 21, .ref 22, .ref 23, .ref 24, vI (nn : Int), vI (ne : Int), vI (nm : Int)], cN 512 fr, cN 512 to, cI 512 wo, cN 512 te, cZ 512 hv, cI 401 fo, cI 512 no, cN 16 mb, cN 16 mw, cI 16 ml, cN 16 ma, cI 16 sk, cN 17 bo, cN nA aw, cN nA at_] 0 0)
      refine ⟨fun c19 => ?_, fun c19 => ?_⟩
      · 
        rw [kI_le (by omega)] at c19
        refine sq_ok rfl [(.aload_n 0, 0, 0, 0), (.aload_n 1, 0, 0, 0)] 49 _ _ _ _ _ (by decide +kernel) ?_
        show WM mX5_makeTarget 0 0 Post 27 51 [(0, .ref 0), (1, .ref 11), (2, vI (x : Int)), (3, vI z), (4, vI (n : Int))] [.ref 11, .ref 0] [ob 5 [vI (cnt : Int), .ref 1, .ref 2, .ref 3, .ref 4, .ref 25, .ref 26, vI (arcs : Int), vI (ln : Int), .ref 5, .ref 6, .ref 7, .ref 8, .ref 9, .ref 10], cK 300 wy, cN 300 fa, cK 300 fw, cN 301 as_, cK 2107 me1, cI 401 fb, cI 300 nb, cK 4 wu, cI 200 fk, cI 512 nw, ob 1 [.ref 12, .ref 13, .ref 14, .ref 15, .ref 16, .ref 17, .ref 18, .ref 19, .ref 20, .ref 21, .ref 22, .ref 23, .ref 24, vI (nn : Int), vI (ne : Int), vI (nm : Int)], cN 512 fr, cN 512 to, cI 512 wo, cN 512 te, cZ 512 hv, cI 401 fo, cI 512 no, cN 16 mb, cN 16 mw, cI 16 ml, cN 16 ma, cI 16 sk, cN 17 bo, cN nA aw, cN nA at_] 0 0
        refine wm_callV (y := mX5_makeTarget) mX5_closeMade [0, 1, 2, 3, 4, 5, 6, 7, 8, 9, 10, 11, 12, 13, 14, 15, 16, 17, 18, 19, 20, 21, 22, 23, 24, 25, 26] (pc := 51) (rest := []) (mc' := 0) (ms' := 0) (by decide +kernel) kX5_77 (c_X5_closeMade cnt wy fa fw as_ aw at_ nA arcs ln me1 fb nb wu fk nw fr to wo te hv fo no mb mw ml ma sk bo nn ne nm h1 hnm hbo hsk hc) rfl rfl ⟨_, rfl, rfl⟩ ⟨Nat.le_of_ble_eq_true rfl, Nat.le_of_ble_eq_true rfl⟩ ⟨Nat.le_of_ble_eq_true rfl, Nat.le_of_ble_eq_true rfl⟩ (Nat.le_of_ble_eq_true rfl) rfl rfl (Nat.le_of_ble_eq_true rfl) rfl ?_
        rintro _ _ ⟨me3, rfl, rfl, h31, h32, h33⟩
        show WM mX5_makeTarget 0 0 Post 27 54 [(0, .ref 0), (1, .ref 11), (2, vI (x : Int)), (3, vI z), (4, vI (n : Int))] [] [ob 5 [vI (cnt : Int), .ref 1, .ref 2, .ref 3, .ref 4, .ref 25, .ref 26, vI (arcs : Int), vI (ln : Int), .ref 5, .ref 6, .ref 7, .ref 8, .ref 9, .ref 10], cK 300 wy, cN 300 fa, cK 300 fw, cN 301 as_, cK 2107 me3, cI 401 fb, cI 300 nb, cK 4 wu, cI 200 fk, cI 512 nw, ob 1 [.ref 12, .ref 13, .ref 14, .ref 15, .ref 16, .ref 17, .ref 18, .ref 19, .ref 20, .ref 21, .ref 22, .ref 23, .ref 24, vI (nn : Int), vI (ne : Int), vI (nm : Int)], cN 512 fr, cN 512 to, cI 512 wo, cN 512 te, cZ 512 hv, cI 401 fo, cI 512 no, cN 16 mb, cN 16 mw, cI 16 ml, cN 16 ma, cI 16 sk, cN 17 bo, cN nA aw, cN nA at_] 0 0
        refine sq_ok rfl [(.return_, 0, 0, 0)] 54 _ _ _ _ _ (by decide +kernel) ?_
        show ((0 ≤ 0 ∧ 0 ≤ 0) ∧ Post none [ob 5 [vI (cnt : Int), .ref 1, .ref 2, .ref 3, .ref 4, .ref 25, .ref 26, vI (arcs : Int), vI (ln : Int), .ref 5, .ref 6, .ref 7, .ref 8, .ref 9, .ref 10], cK 300 wy, cN 300 fa, cK 300 fw, cN 301 as_, cK 2107 me3, cI 401 fb, cI 300 nb, cK 4 wu, cI 200 fk, cI 512 nw, ob 1 [.ref 12, .ref 13, .ref 14, .ref 15, .ref 16, .ref 17, .ref 18, .ref 19, .ref 20, .ref 21, .ref 22, .ref 23, .ref 24, vI (nn : Int), vI (ne : Int), vI (nm : Int)], cN 512 fr, cN 512 to, cI 512 wo, cN 512 te, cZ 512 hv, cI 401 fo, cI 512 no, cN 16 mb, cN 16 mw, cI 16 ml, cN 16 ma, cI 16 sk, cN 17 bo, cN nA aw, cN nA at_])
        refine ⟨⟨Nat.le_refl _, Nat.le_refl _⟩, hPo _ _ ?_⟩
        refine ⟨me3, rfl, rfl, h31, ?_, fun t ht => (h33 t ht).trans (h3 t ht)⟩
        have hnil : l = [] := by
          cases l with
          | nil => rfl
          | cons a l => have := hl.1; rw [List.length_cons] at hn; omega
        subst hnil
        rw [h32, ← h2]
        show _ = clM sk bo nm (mS me1 cnt ||| 0)
        rw [Nat.or_zero]
      · 
        rw [kI_le (by omega)] at c19
        refine sq_ok rfl [(.iload_n 3, 0, 0, 0), (.ifCond .lt 26, 0, 0, 0)] 22 _ _ _ _ _ (by decide +kernel) ?_
        show (kI z < kI 0 → WM mX5_makeTarget 0 0 Post 27 49 [(0, .ref 0), (1, .ref 11), (2, vI (x : Int)), (3, vI z), (4, vI (n : Int))] [] [ob 5 [vI (cnt : Int), .ref 1, .ref 2, .ref 3, .ref 4, .ref 25, .ref 26, vI (arcs : Int), vI (ln : Int), .ref 5, .ref 6, .ref 7, .ref 8, .ref 9, .ref 10], cK 300 wy, cN 300 fa, cK 300 fw, cN 301 as_, cK 2107 me1, cI 401 fb, cI 300 nb, cK 4 wu, cI 200 fk, cI 512 nw, ob 1 [.ref 12, .ref 13, .ref 14, .ref 15, .ref 16, .ref 17, .ref 18, .ref 19, .ref 20, .ref 21, .ref 22, .ref 23, .ref 24, vI (nn : Int), vI (ne : Int), vI (nm : Int)], cN 512 fr, cN 512 to, cI 512 wo, cN 512 te, cZ 512 hv, cI 401 fo, cI 512 no, cN 16 mb, cN 16 mw, cI 16 ml, cN 16 ma, cI 16 sk, cN 17 bo, cN nA aw, cN nA at_] 0 0) ∧ (¬ kI z < kI 0 → WM mX5_makeTarget 0 0 Post 27 26 [(0, .ref 0), (1, .ref 11), (2, vI (x : Int)), (3, vI z), (4, vI (n : Int))] [] [ob 5 [vI (cnt : Int), .ref 1, .ref 2, .ref 3, .ref 4, .ref 25, .ref 26, vI (arcs : Int), vI (ln : Int), .ref 5, .ref 6, .ref 7, .ref 8, .ref 9, .ref 10], cK 300 wy, cN 300 fa, cK 300 fw, cN 301 as_, cK 2107 me1, cI 401 fb, cI 300 nb, cK 4 wu, cI 200 fk, cI 512 nw, ob 1 [.ref 12, .ref 13, .ref 14, .ref 15, .ref 16, .ref 17, .ref 18, .ref 19, .ref 20, .ref 21, .ref 22, .ref 23, .ref 24, vI (nn : Int), vI (ne : Int), vI (nm : Int)], cN 512 fr, cN 512 to, cI 512 wo, cN 512 te, cZ 512 hv, cI 401 fo, cI 512 no, cN 16 mb, cN 16 mw, cI 16 ml, cN 16 ma, cI 16 sk, cN 17 bo, cN nA aw, cN nA at_] 0 0)
        refine ⟨fun c23 => ?_, fun c23 => ?_⟩
        · 
          rw [kI_lt (by omega)] at c23
          refine sq_ok rfl [(.aload_n 0, 0, 0, 0), (.aload_n 1, 0, 0, 0)] 49 _ _ _ _ _ (by decide +kernel) ?_
          show WM mX5_makeTarget 0 0 Post 27 51 [(0, .ref 0), (1, .ref 11), (2, vI (x : Int)), (3, vI z), (4, vI (n : Int))] [.ref 11, .ref 0] [ob 5 [vI (cnt : Int), .ref 1, .ref 2, .ref 3, .ref 4, .ref 25, .ref 26, vI (arcs : Int), vI (ln : Int), .ref 5, .ref 6, .ref 7, .ref 8, .ref 9, .ref 10], cK 300 wy, cN 300 fa, cK 300 fw, cN 301 as_, cK 2107 me1, cI 401 fb, cI 300 nb, cK 4 wu, cI 200 fk, cI 512 nw, ob 1 [.ref 12, .ref 13, .ref 14, .ref 15, .ref 16, .ref 17, .ref 18, .ref 19, .ref 20, .ref 21, .ref 22, .ref 23, .ref 24, vI (nn : Int), vI (ne : Int), vI (nm : Int)], cN 512 fr, cN 512 to, cI 512 wo, cN 512 te, cZ 512 hv, cI 401 fo, cI 512 no, cN 16 mb, cN 16 mw, cI 16 ml, cN 16 ma, cI 16 sk, cN 17 bo, cN nA aw, cN nA at_] 0 0
          refine wm_callV (y := mX5_makeTarget) mX5_closeMade [0, 1, 2, 3, 4, 5, 6, 7, 8, 9, 10, 11, 12, 13, 14, 15, 16, 17, 18, 19, 20, 21, 22, 23, 24, 25, 26] (pc := 51) (rest := []) (mc' := 0) (ms' := 0) (by decide +kernel) kX5_77 (c_X5_closeMade cnt wy fa fw as_ aw at_ nA arcs ln me1 fb nb wu fk nw fr to wo te hv fo no mb mw ml ma sk bo nn ne nm h1 hnm hbo hsk hc) rfl rfl ⟨_, rfl, rfl⟩ ⟨Nat.le_of_ble_eq_true rfl, Nat.le_of_ble_eq_true rfl⟩ ⟨Nat.le_of_ble_eq_true rfl, Nat.le_of_ble_eq_true rfl⟩ (Nat.le_of_ble_eq_true rfl) rfl rfl (Nat.le_of_ble_eq_true rfl) rfl ?_
          rintro _ _ ⟨me3, rfl, rfl, h31, h32, h33⟩
          show WM mX5_makeTarget 0 0 Post 27 54 [(0, .ref 0), (1, .ref 11), (2, vI (x : Int)), (3, vI z), (4, vI (n : Int))] [] [ob 5 [vI (cnt : Int), .ref 1, .ref 2, .ref 3, .ref 4, .ref 25, .ref 26, vI (arcs : Int), vI (ln : Int), .ref 5, .ref 6, .ref 7, .ref 8, .ref 9, .ref 10], cK 300 wy, cN 300 fa, cK 300 fw, cN 301 as_, cK 2107 me3, cI 401 fb, cI 300 nb, cK 4 wu, cI 200 fk, cI 512 nw, ob 1 [.ref 12, .ref 13, .ref 14, .ref 15, .ref 16, .ref 17, .ref 18, .ref 19, .ref 20, .ref 21, .ref 22, .ref 23, .ref 24, vI (nn : Int), vI (ne : Int), vI (nm : Int)], cN 512 fr, cN 512 to, cI 512 wo, cN 512 te, cZ 512 hv, cI 401 fo, cI 512 no, cN 16 mb, cN 16 mw, cI 16 ml, cN 16 ma, cI 16 sk, cN 17 bo, cN nA aw, cN nA at_] 0 0
          refine sq_ok rfl [(.return_, 0, 0, 0)] 54 _ _ _ _ _ (by decide +kernel) ?_
          show ((0 ≤ 0 ∧ 0 ≤ 0) ∧ Post none [ob 5 [vI (cnt : Int), .ref 1, .ref 2, .ref 3, .ref 4, .ref 25, .ref 26, vI (arcs : Int), vI (ln : Int), .ref 5, .ref 6, .ref 7, .ref 8, .ref 9, .ref 10], cK 300 wy, cN 300 fa, cK 300 fw, cN 301 as_, cK 2107 me3, cI 401 fb, cI 300 nb, cK 4 wu, cI 200 fk, cI 512 nw, ob 1 [.ref 12, .ref 13, .ref 14, .ref 15, .ref 16, .ref 17, .ref 18, .ref 19, .ref 20, .ref 21, .ref 22, .ref 23, .ref 24, vI (nn : Int), vI (ne : Int), vI (nm : Int)], cN 512 fr, cN 512 to, cI 512 wo, cN 512 te, cZ 512 hv, cI 401 fo, cI 512 no, cN 16 mb, cN 16 mw, cI 16 ml, cN 16 ma, cI 16 sk, cN 17 bo, cN nA aw, cN nA at_])
          refine ⟨⟨Nat.le_refl _, Nat.le_refl _⟩, hPo _ _ ?_⟩
          refine ⟨me3, rfl, rfl, h31, ?_, fun t ht => (h33 t ht).trans (h3 t ht)⟩
          have hnil : l = [] := by
            cases l with
            | nil => rfl
            | cons a l => have := hl.1; rw [List.length_cons] at hn; omega
          subst hnil
          rw [h32, ← h2]
          show _ = clM sk bo nm (mS me1 cnt ||| 0)
          rw [Nat.or_zero]
        · 
          rw [kI_lt (by omega)] at c23
          obtain ⟨e, l1, rfl⟩ : ∃ e l1, l = e :: l1 := by
                  cases l with
                  | nil => have : z = -2 := hl
                           omega
                  | cons a l => exact ⟨a, l, rfl⟩
          have hze : z = (e : Int) := hl.1
          rw [hze]
          have hel := hle e List.mem_cons_self
          have hto := hto e hel
          refine sq_ok rfl [(.aload_n 0, 0, 0, 0), (.aload_n 1, 0, 0, 0), (.getfield 129, 1, 1, 0), (.iload_n 3, 0, 0, 0), (.iaload, 0, 0, 0)] 26 _ _ _ _ _ (by decide +kernel) ?_
          show ∃ j32 : Nat, mj 512 (kI (e : Int)) j32 ∧ WM mX5_makeTarget 0 0 Post 27 33 [(0, .ref 0), (1, .ref 11), (2, vI (x : Int)), (3, vI (e : Int)), (4, vI (n : Int))] [vI ((to j32 : Nat) : Int), .ref 0] [ob 5 [vI (cnt : Int), .ref 1, .ref 2, .ref 3, .ref 4, .ref 25, .ref 26, vI (arcs : Int), vI (ln : Int), .ref 5, .ref 6, .ref 7, .ref 8, .ref 9, .ref 10], cK 300 wy, cN 300 fa, cK 300 fw, cN 301 as_, cK 2107 me1, cI 401 fb, cI 300 nb, cK 4 wu, cI 200 fk, cI 512 nw, ob 1 [.ref 12, .ref 13, .ref 14, .ref 15, .ref 16, .ref 17, .ref 18, .ref 19, .ref 20, .ref 21, .ref 22, .ref 23, .ref 24, vI (nn : Int), vI (ne : Int), vI (nm : Int)], cN 512 fr, cN 512 to, cI 512 wo, cN 512 te, cZ 512 hv, cI 401 fo, cI 512 no, cN 16 mb, cN 16 mw, cI 16 ml, cN 16 ma, cI 16 sk, cN 17 bo, cN nA aw, cN nA at_] 0 0
          refine ⟨e, ⟨by omega, by omega, rfl⟩, ?_⟩
          refine wm_callV (y := mX5_makeTarget) mX5_put [0, 1, 2, 3, 4, 5, 6, 7, 8, 9, 10, 25, 26] (pc := 33) (rest := []) (mc' := 0) (ms' := 0) (by decide +kernel) kX5_73 (c_X5_put cnt wy fa fw as_ aw at_ nA arcs ln me1 fb nb wu fk nw h1 hc (to e) (by omega)) rfl rfl ⟨_, rfl, rfl⟩ ⟨Nat.le_of_ble_eq_true rfl, Nat.le_of_ble_eq_true rfl⟩ ⟨Nat.le_of_ble_eq_true rfl, Nat.le_of_ble_eq_true rfl⟩ (Nat.le_of_ble_eq_true rfl) rfl rfl (Nat.le_of_ble_eq_true rfl) rfl ?_
          rintro _ _ ⟨rfl, rfl⟩
          show WM mX5_makeTarget 0 0 Post 27 36 [(0, .ref 0), (1, .ref 11), (2, vI (x : Int)), (3, vI (e : Int)), (4, vI (n : Int))] [] [ob 5 [vI (cnt : Int), .ref 1, .ref 2, .ref 3, .ref 4, .ref 25, .ref 26, vI (arcs : Int), vI (ln : Int), .ref 5, .ref 6, .ref 7, .ref 8, .ref 9, .ref 10], cK 300 wy, cN 300 fa, cK 300 fw, cN 301 as_, cK 2107 (sPut me1 cnt (to e)), cI 401 fb, cI 300 nb, cK 4 wu, cI 200 fk, cI 512 nw, ob 1 [.ref 12, .ref 13, .ref 14, .ref 15, .ref 16, .ref 17, .ref 18, .ref 19, .ref 20, .ref 21, .ref 22, .ref 23, .ref 24, vI (nn : Int), vI (ne : Int), vI (nm : Int)], cN 512 fr, cN 512 to, cI 512 wo, cN 512 te, cZ 512 hv, cI 401 fo, cI 512 no, cN 16 mb, cN 16 mw, cI 16 ml, cN 16 ma, cI 16 sk, cN 17 bo, cN nA aw, cN nA at_] 0 0
          refine sq_ok rfl [(.aload_n 0, 0, 0, 0), (.getfield 46, 5, 14, 0), (.iload_n 3, 0, 0, 0), (.iaload, 0, 0, 0), (.istore_n 3, 0, 0, 0), (.iinc 4 1, 0, 0, 0), (.goto (-32), 0, 0, 0)] 36 _ _ _ _ _ (by decide +kernel) ?_
          show ∃ j41 : Nat, mj 512 (kI (e : Int)) j41 ∧ WM mX5_makeTarget 0 0 Post 27 14 [(0, .ref 0), (1, .ref 11), (2, vI (x : Int)), (3, vI (nw j41)), (4, .int ((kI (n : Int)) + (kI 1)))] [] [ob 5 [vI (cnt : Int), .ref 1, .ref 2, .ref 3, .ref 4, .ref 25, .ref 26, vI (arcs : Int), vI (ln : Int), .ref 5, .ref 6, .ref 7, .ref 8, .ref 9, .ref 10], cK 300 wy, cN 300 fa, cK 300 fw, cN 301 as_, cK 2107 (sPut me1 cnt (to e)), cI 401 fb, cI 300 nb, cK 4 wu, cI 200 fk, cI 512 nw, ob 1 [.ref 12, .ref 13, .ref 14, .ref 15, .ref 16, .ref 17, .ref 18, .ref 19, .ref 20, .ref 21, .ref 22, .ref 23, .ref 24, vI (nn : Int), vI (ne : Int), vI (nm : Int)], cN 512 fr, cN 512 to, cI 512 wo, cN 512 te, cZ 512 hv, cI 401 fo, cI 512 no, cN 16 mb, cN 16 mw, cI 16 ml, cN 16 ma, cI 16 sk, cN 17 bo, cN nA aw, cN nA at_] 0 0
          refine ⟨e, ⟨by omega, by omega, rfl⟩, ?_⟩
          have e3 : ((kI (n : Int)) + (kI 1)) = kI (((n + 1) : Nat) : Int) := by first | (simp only [kI_add, kI_sub, kI_mul]; done) | (simp only [kI_add, kI_sub, kI_mul]; rfl)
          rw [e3]
          exact WM.pick [0, 1, 2, 3, 4] rfl (ih14 l1 (nw e) (n + 1) (sPut me1 cnt (to e)) (by rw [List.length_cons] at hn; omega) hl.2 (fun a ha => hle a (List.mem_cons_of_mem _ ha)) (sPut_lt h1 cnt _) (by rw [mS_put h1 cnt (by omega), Nat.or_assoc]; exact h2) (fun t ht => (mS_put_ne me1 ht (by omega)).trans (h3 t ht)) (by rw [List.length_cons] at hm14; omega))
  exact WM.pick [0, 1, 2, 3, 4] rfl (lp14 _ l0 (fk x) 0 (sClr me cnt) (by omega) hl1 hl4 (sClr_lt hme cnt) (by rw [mS_clr, Nat.zero_or]; exact hT2.symm) (fun t ht => mS_clr_ne me ht) (Nat.lt_succ_self _))
