/-! Sets: the words out of a set -/
theorem bl_z0 : bl 0 = [] := by decide +kernel
theorem bl_z : (bl 0).length = 0 := by rw [bl_z0]; rfl
def lch (nx : Nat → Int) : Int → List Nat → Prop
  | z, [] => z = -2
  | z, e :: l => z = (e : Int) ∧ lch nx (nx e) l
theorem lch_up {nx : Nat → Int} {e : Nat} {v : Int} : ∀ {l : List Nat} {z : Int}, e ∉ l → lch nx z l → lch (va_up nx e v) z l
  | [], _, _, h => h
  | a :: l, z, hn, h => by
    refine ⟨h.1, ?_⟩
    rw [up_ne _ _ (fun q => hn (by rw [q]; exact List.mem_cons_self))]
    exact lch_up (fun q => hn (List.mem_cons_of_mem _ q)) h.2
/-- the words of the edges Q, and their chains -/
def wS (wo : Nat → Int) (Q : Nat → Prop) (wu : Nat → Nat) (fk nx : Nat → Int) : Prop :=
  (∀ j, j < 4 → wu j < 18446744073709551616) ∧ (∀ w, w < 256 → ((wu (w / 64)).testBit (w % 64) = true ↔ ∃ e, Q e ∧ wo e = (w : Int))) ∧
  ∀ w, w < 256 → (wu (w / 64)).testBit (w % 64) = true → ∃ l : List Nat, lch nx (fk w) l ∧ l.Nodup ∧ ∀ e, e ∈ l ↔ Q e ∧ wo e = (w : Int)
theorem wS.congr {wo : Nat → Int} {Q Q' : Nat → Prop} {wu : Nat → Nat} {fk nx : Nat → Int} (h : wS wo Q wu fk nx) (hq : ∀ e, 0 ≤ wo e → (Q e ↔ Q' e)) : wS wo Q' wu fk nx := by
  refine ⟨h.1, fun w hw => (h.2.1 w hw).trans ⟨fun ⟨e, h1, h2⟩ => ⟨e, (hq e (by omega)).mp h1, h2⟩, fun ⟨e, h1, h2⟩ => ⟨e, (hq e (by omega)).mpr h1, h2⟩⟩, fun w hw hb => ?_⟩
  obtain ⟨l, h1, h2, h3⟩ := h.2.2 w hw hb
  refine ⟨l, h1, h2, fun e => (h3 e).trans ⟨fun ⟨a, b⟩ => ⟨(hq e (by omega)).mp a, b⟩, fun ⟨a, b⟩ => ⟨(hq e (by omega)).mpr a, b⟩⟩⟩
theorem wS_0 (wo fk nx : Nat → Int) (wu : Nat → Nat) (h0 : ∀ j, j < 4 → wu j = 0) : wS wo (fun _ => False) wu fk nx :=
  ⟨fun j hj => by rw [h0 j hj]; decide, fun w hw => ⟨fun h => by rw [h0 _ (by omega)] at h; simp at h, fun ⟨e, h, _⟩ => h.elim⟩, fun w hw hb => by rw [h0 _ (by omega)] at hb; simp at hb⟩
theorem tb_or {a k j : Nat} : (a ||| 2 ^ k).testBit j = (a.testBit j || decide (k = j)) := by rw [Nat.testBit_or, Nat.testBit_two_pow]
theorem wS_add {wo : Nat → Int} {Q : Nat → Prop} {wu : Nat → Nat} {fk nx : Nat → Int} (h : wS wo Q wu fk nx) {e w : Nat} (hw : wo e = (w : Int)) (hw2 : w < 256) (hQ : ¬ Q e) (v : Int) (hv : v = if (wu (w / 64)).testBit (w % 64) then fk w else -2) :
    wS wo (fun x => Q x ∨ x = e) (va_up wu (w / 64) (wu (w / 64) ||| 2 ^ (w % 64))) (va_up fk w (e : Int)) (va_up nx e v) := by
  have hbit : ∀ u, u < 256 → ((va_up wu (w / 64) (wu (w / 64) ||| 2 ^ (w % 64)) (u / 64)).testBit (u % 64) = true ↔ (wu (u / 64)).testBit (u % 64) = true ∨ u = w) := by
    intro u hu
    by_cases h1 : u / 64 = w / 64
    · rw [h1, up_eq, tb_or]
      by_cases h2 : w % 64 = u % 64
      · have e2 : u = w := by omega
        subst e2
        simp
      · have e2 : ¬ u = w := by omega
        simp [h2, e2]
    · rw [up_ne _ _ h1]
      have e2 : ¬ u = w := fun q => h1 (by rw [q])
      simp [e2]
  refine ⟨fun j hj4 => ?_, fun u hu => ?_, fun u hu hb => ?_⟩
  · by_cases hj : j = w / 64
    · rw [hj, up_eq]
      exact Nat.or_lt_two_pow (n := 64) (h.1 _ (by omega)) (Nat.pow_lt_pow_right (by omega) (Nat.mod_lt _ (by omega)))
    · rw [up_ne _ _ hj]; exact h.1 j hj4
  · rw [hbit u hu, h.2.1 u hu]
    constructor
    · rintro (⟨x, h1, h2⟩ | h1)
      · exact ⟨x, Or.inl h1, h2⟩
      · exact ⟨e, Or.inr rfl, by rw [h1]; exact hw⟩
    · rintro ⟨x, h1 | h1, h2⟩
      · exact Or.inl ⟨x, h1, h2⟩
      · right; rw [h1, hw] at h2; omega
  · by_cases hc : u = w
    · subst hc
      rw [up_eq]
      by_cases hk : (wu (u / 64)).testBit (u % 64) = true
      · obtain ⟨l, h1, h2, h3⟩ := h.2.2 u hu hk
        have hne : e ∉ l := fun q => hQ ((h3 e).mp q).1
        refine ⟨e :: l, ⟨rfl, ?_⟩, List.nodup_cons.mpr ⟨hne, h2⟩, fun x => ?_⟩
        · rw [up_eq, hv, if_pos hk]
          exact lch_up hne h1
        · rw [List.mem_cons, h3 x]
          constructor
          · rintro (h4 | h4)
            · exact ⟨Or.inr h4, by rw [h4]; exact hw⟩
            · exact ⟨Or.inl h4.1, h4.2⟩
          · rintro ⟨h4 | h4, h5⟩
            · exact Or.inr ⟨h4, h5⟩
            · exact Or.inl h4
      · refine ⟨[e], ⟨rfl, ?_⟩, by simp, fun x => ?_⟩
        · rw [up_eq, hv, if_neg hk]
          rfl
        · rw [List.mem_singleton]
          constructor
          · intro h4
            exact ⟨Or.inr h4, by rw [h4]; exact hw⟩
          · rintro ⟨h4 | h4, h5⟩
            · exact absurd ((h.2.1 u hu).mpr ⟨x, h4, h5⟩) hk
            · exact h4
    · have hk : (wu (u / 64)).testBit (u % 64) = true := by rcases (hbit u hu).mp hb with h1 | h1; exact h1; exact absurd h1 hc
      obtain ⟨l, h1, h2, h3⟩ := h.2.2 u hu hk
      have hne : e ∉ l := fun q => hQ ((h3 e).mp q).1
      refine ⟨l, ?_, h2, fun x => ?_⟩
      · rw [up_ne _ _ hc]
        exact lch_up hne h1
      · rw [h3 x]
        constructor
        · rintro ⟨h4, h5⟩
          exact ⟨Or.inl h4, h5⟩
        · rintro ⟨h4 | h4, h5⟩
          · exact ⟨h4, h5⟩
          · rw [h4, hw] at h5; omega

theorem and_bit0 {a k : Nat} : a &&& 2 ^ k = 0 ↔ a.testBit k = false := by
  constructor
  · intro h
    have := congrArg (fun x => x.testBit k) h
    simpa using this
  · intro h
    apply Nat.eq_of_testBit_eq
    intro j
    rw [Nat.testBit_and, Nat.testBit_two_pow, Nat.zero_testBit]
    by_cases hj : k = j
    · subst hj; simp [h]
    · simp [hj]

set_option maxRecDepth 100000 in
set_option maxHeartbeats 500000 in
theorem c_X5_addWordsOut (cnt : Nat) (wy fa fw as_ aw at_ : Nat → Nat) (nA arcs ln : Nat) (me : Nat → Nat) (fb nb : Nat → Int) (wu : Nat → Nat) (fk nw : Nat → Int) (fr to : Nat → Nat) (wo : Nat → Int) (te : Nat → Nat) (hv : Nat → Bool) (fo no : Nat → Int) (mb mw : Nat → Nat) (ml : Nat → Int) (ma : Nat → Nat) (sk : Nat → Int) (bo : Nat → Nat) (nn ne nm : Nat) (hne : ne ≤ 512) (hnn : nn ≤ 401) (hG : chn fr fo no nn ne) (hwo : ∀ e, e < ne → -2 ≤ wo e ∧ wo e < 200) (Q : Nat → Prop) (hS : wS wo Q wu fk nw) (v : Nat) (hvn : v < nn) (hQ : ∀ e, Q e → fr e ≠ v) : CT mX5_addWordsOut 0 0 [.ref 0, .ref 11, vI (v : Int)] [ob 5 [vI (cnt : Int), .ref 1, .ref 2, .ref 3, .ref 4, .ref 25, .ref 26, vI (arcs : Int), vI (ln : Int), .ref 5, .ref 6, .ref 7, .ref 8, .ref 9, .ref 10], cK 300 wy, cN 300 fa, cK 300 fw, cN 301 as_, cK 2107 me, cI 401 fb, cI 300 nb, cK 4 wu, cI 200 fk, cI 512 nw, ob 1 [.ref 12, .ref 13, .ref 14, .ref 15, .ref 16, .ref 17, .ref 18, .ref 19, .ref 20, .ref 21, .ref 22, .ref 23, .ref 24, vI (nn : Int), vI (ne : Int), vI (nm : Int)], cN 512 fr, cN 512 to, cI 512 wo, cN 512 te, cZ 512 hv, cI 401 fo, cI 512 no, cN 16 mb, cN 16 mw, cI 16 ml, cN 16 ma, cI 16 sk, cN 17 bo, cN nA aw, cN nA at_] (fun r w => ∃ (wu2 : Nat → Nat) (fk2 nw2 : Nat → Int), r = none ∧ w = [ob 5 [vI (cnt : Int), .ref 1, .ref 2, .ref 3, .ref 4, .ref 25, .ref 26, vI (arcs : Int), vI (ln : Int), .ref 5, .ref 6, .ref 7, .ref 8, .ref 9, .ref 10], cK 300 wy, cN 300 fa, cK 300 fw, cN 301 as_, cK 2107 me, cI 401 fb, cI 300 nb, cK 4 wu2, cI 200 fk2, cI 512 nw2, ob 1 [.ref 12, .ref 13, .ref 14, .ref 15, .ref 16, .ref 17, .ref 18, .ref 19, .ref 20, .ref 21, .ref 22, .ref 23, .ref 24, vI (nn : Int), vI (ne : Int), vI (nm : Int)], cN 512 fr, cN 512 to, cI 512 wo, cN 512 te, cZ 512 hv, cI 401 fo, cI 512 no, cN 16 mb, cN 16 mw, cI 16 ml, cN 16 ma, cI 16 sk, cN 17 bo, cN nA aw, cN nA at_] ∧ wS wo (fun e => Q e ∨ (e < ne ∧ fr e = v)) wu2 fk2 nw2) := by
  refine CT.intro rfl (Nat.le_of_ble_eq_true rfl) ?_
  generalize hPost : (fun r w => ∃ (wu2 : Nat → Nat) (fk2 nw2 : Nat → Int), r = none ∧ w = [ob 5 [vI (cnt : Int), .ref 1, .ref 2, .ref 3, .ref 4, .ref 25, .ref 26, vI (arcs : Int), vI (ln : Int), .ref 5, .ref 6, .ref 7, .ref 8, .ref 9, .ref 10], cK 300 wy, cN 300 fa, cK 300 fw, cN 301 as_, cK 2107 me, cI 401 fb, cI 300 nb, cK 4 wu2, cI 200 fk2, cI 512 nw2, ob 1 [.ref 12, .ref 13, .ref 14, .ref 15, .ref 16, .ref 17, .ref 18, .ref 19, .ref 20, .ref 21, .ref 22, .ref 23, .ref 24, vI (nn : Int), vI (ne : Int), vI (nm : Int)], cN 512 fr, cN 512 to, cI 512 wo, cN 512 te, cZ 512 hv, cI 401 fo, cI 512 no, cN 16 mb, cN 16 mw, cI 16 ml, cN 16 ma, cI 16 sk, cN 17 bo, cN nA aw, cN nA at_] ∧ wS wo (fun e => Q e ∨ (e < ne ∧ fr e = v)) wu2 fk2 nw2 : MP) = Post
  have hPo : ∀ rr ww, (fun r w => ∃ (wu2 : Nat → Nat) (fk2 nw2 : Nat → Int), r = none ∧ w = [ob 5 [vI (cnt : Int), .ref 1, .ref 2, .ref 3, .ref 4, .ref 25, .ref 26, vI (arcs : Int), vI (ln : Int), .ref 5, .ref 6, .ref 7, .ref 8, .ref 9, .ref 10], cK 300 wy, cN 300 fa, cK 300 fw, cN 301 as_, cK 2107 me, cI 401 fb, cI 300 nb, cK 4 wu2, cI 200 fk2, cI 512 nw2, ob 1 [.ref 12, .ref 13, .ref 14, .ref 15, .ref 16, .ref 17, .ref 18, .ref 19, .ref 20, .ref 21, .ref 22, .ref 23, .ref 24, vI (nn : Int), vI (ne : Int), vI (nm : Int)], cN 512 fr, cN 512 to, cI 512 wo, cN 512 te, cZ 512 hv, cI 401 fo, cI 512 no, cN 16 mb, cN 16 mw, cI 16 ml, cN 16 ma, cI 16 sk, cN 17 bo, cN nA aw, cN nA at_] ∧ wS wo (fun e => Q e ∨ (e < ne ∧ fr e = v)) wu2 fk2 nw2 : MP) rr ww → Post rr ww := by rw [← hPost]; exact fun _ _ h => h
  clear hPost
  show WM mX5_addWordsOut 0 0 Post 27 0 [(0, .ref 0), (1, .ref 11), (2, vI (v : Int))] [] [ob 5 [vI (cnt : Int), .ref 1, .ref 2, .ref 3, .ref 4, .ref 25, .ref 26, vI (arcs : Int), vI (ln : Int), .ref 5, .ref 6, .ref 7, .ref 8, .ref 9, .ref 10], cK 300 wy, cN 300 fa, cK 300 fw, cN 301 as_, cK 2107 me, cI 401 fb, cI 300 nb, cK 4 wu, cI 200 fk, cI 512 nw, ob 1 [.ref 12, .ref 13, .ref 14, .ref 15, .ref 16, .ref 17, .ref 18, .ref 19, .ref 20, .ref 21, .ref 22, .ref 23, .ref 24, vI (nn : Int), vI (ne : Int), vI (nm : Int)], cN 512 fr, cN 512 to, cI 512 wo, cN 512 te, cZ 512 hv, cI 401 fo, cI 512 no, cN 16 mb, cN 16 mw, cI 16 ml, cN 16 ma, cI 16 sk, cN 17 bo, cN nA aw, cN nA at_] 0 0
  refine sq_ok rfl [(.aload_n 1, 0, 0, 0), (.getfield 113, 1, 5, 0), (.iload_n 2, 0, 0, 0), (.iaload, 0, 0, 0)] 0 _ _ _ _ _ (by decide +kernel) ?_
  show ∃ j5 : Nat, mj 401 (kI (v : Int)) j5 ∧ WM mX5_addWordsOut 0 0 Post 27 6 [(0, .ref 0), (1, .ref 11), (2, vI (v : Int))] [.int (kI (fo j5))] [ob 5 [vI (cnt : Int), .ref 1, .ref 2, .ref 3, .ref 4, .ref 25, .ref 26, vI (arcs : Int), vI (ln : Int), .ref 5, .ref 6, .ref 7, .ref 8, .ref 9, .ref 10], cK 300 wy, cN 300 fa, cK 300 fw, cN 301 as_, cK 2107 me, cI 401 fb, cI 300 nb, cK 4 wu, cI 200 fk, cI 512 nw, ob 1 [.ref 12, .ref 13, .ref 14, .ref 15, .ref 16, .ref 17, .ref 18, .ref 19, .ref 20, .ref 21, .ref 22, .ref 23, .ref 24, vI (nn : Int), vI (ne : Int), vI (nm : Int)], cN 512 fr, cN 512 to, cI 512 wo, cN 512 te, cZ 512 hv, cI 401 fo, cI 512 no, cN 16 mb, cN 16 mw, cI 16 ml, cN 16 ma, cI 16 sk, cN 17 bo, cN nA aw, cN nA at_] 0 0
  refine ⟨v, ⟨by omega, by omega, rfl⟩, ?_⟩
  have e1 : kI (fo v) = kI (oI (lstE fr v ne)) := by rw [hG.1 v hvn]
  rw [e1]
  refine sq_ok rfl [(.istore_n 3, 0, 0, 0), (.iconst 0, 0, 0, 0), (.istore 4, 0, 0, 0)] 6 _ _ _ _ _ (by decide +kernel) ?_
  show WM mX5_addWordsOut 0 0 Post 27 10 [(0, .ref 0), (1, .ref 11), (2, vI (v : Int)), (3, vI (oI (lstE fr v ne))), (4, vI 0)] [] [ob 5 [vI (cnt : Int), .ref 1, .ref 2, .ref 3, .ref 4, .ref 25, .ref 26, vI (arcs : Int), vI (ln : Int), .ref 5, .ref 6, .ref 7, .ref 8, .ref 9, .ref 10], cK 300 wy, cN 300 fa, cK 300 fw, cN 301 as_, cK 2107 me, cI 401 fb, cI 300 nb, cK 4 wu, cI 200 fk, cI 512 nw, ob 1 [.ref 12, .ref 13, .ref 14, .ref 15, .ref 16, .ref 17, .ref 18, .ref 19, .ref 20, .ref 21, .ref 22, .ref 23, .ref 24, vI (nn : Int), vI (ne : Int), vI (nm : Int)], cN 512 fr, cN 512 to, cI 512 wo, cN 512 te, cZ 512 hv, cI 401 fo, cI 512 no, cN 16 mb, cN 16 mw, cI 16 ml, cN 16 ma, cI 16 sk, cN 17 bo, cN nA aw, cN nA at_] 0 0
  have lp10 : ∀ (n10 : Nat) (k : Nat) (n : Nat) (wu1 : Nat → Nat) (fk1 : Nat → Int) (nw1 : Nat → Int), (k + n ≤ ne) → (wS wo (fun e => Q e ∨ (k ≤ e ∧ e < ne ∧ fr e = v)) wu1 fk1 nw1) → (512 - n) < n10 → WM mX5_addWordsOut 0 0 Post 27 10 [(0, .ref 0), (1, .ref 11), (2, vI (v : Int)), (3, vI (oI (lstE fr v k))), (4, vI (n : Int))] [] [ob 5 [vI (cnt : Int), .ref 1, .ref 2, .ref 3, .ref 4, .ref 25, .ref 26, vI (arcs : Int), vI (ln : Int), .ref 5, .ref 6, .ref 7, .ref 8, .ref 9, .ref 10], cK 300 wy, cN 300 fa, cK 300 fw, cN 301 as_, cK 2107 me, cI 401 fb, cI 300 nb, cK 4 wu1, cI 200 fk1, cI 512 nw1, ob 1 [.ref 12, .ref 13, .ref 14, .ref 15, .ref 16, .ref 17, .ref 18, .ref 19, .ref 20, .ref 21, .ref 22, .ref 23, .ref 24, vI (nn : Int), vI (ne : Int), vI (nm : Int)], cN 512 fr, cN 512 to, cI 512 wo, cN 512 te, cZ 512 hv, cI 401 fo, cI 512 no, cN 16 mb, cN 16 mw, cI 16 ml, cN 16 ma, cI 16 sk, cN 17 bo, cN nA aw, cN nA at_] 0 0 := by
    intro n10
    induction n10 with
    | zero => intro k n wu1 fk1 nw1 hk hS1 hm; exact absurd hm (Nat.not_lt_zero _)
    | succ n10 ih10 =>
      intro k n wu1 fk1 nw1 hk hS1 hm10
      have hzR : -2147483648 ≤ oI (lstE fr v k) ∧ oI (lstE fr v k) ≤ 2147483647 := oI_R (n := k) (fun j hj => (lstE_step hj).1) (by omega)
      refine sq_ok rfl [(.iload 4, 0, 0, 0), (.sipush 512, 0, 0, 0), (.if_icmp .ge 113, 0, 0, 0)] 10 _ _ _ _ _ (by decide +kernel) ?_
      show (kI 512 ≤ kI (n : Int) → WM mX5_addWordsOut 0 0 Post 27 128 [(0, .ref 0), (1, .ref 11), (2, vI (v : Int)), (3, vI (oI (lstE fr v k))), (4, vI (n : Int))] [] [ob 5 [vI (cnt : Int), .ref 1, .ref 2, .ref 3, .ref 4, .ref 25, .ref 26, vI (arcs : Int), vI (ln : Int), .ref 5, .ref 6, .ref 7, .ref 8, .ref 9, .ref 10], cK 300 wy, cN 300 fa, cK 300 fw, cN 301 as_, cK 2107 me, cI 401 fb, cI 300 nb, cK 4 wu1, cI 200 fk1, cI 512 nw1, ob 1 [.ref 12, .ref 13, .ref 14, .ref 15, .ref 16, .ref 17, .ref 18, .ref 19, .ref 20, .ref 21, .ref 22, .ref 23, .ref 24, vI (nn : Int), vI (ne : Int), vI (nm : Int)], cN 512 fr, cN 512 to, cI 512 wo, cN 512 te, cZ 512 hv, cI 401 fo, cI 512 no, cN 16 mb, cN 16 mw, cI 16 ml, cN 16 ma, cI 16 sk, cN 17 bo, cN nA aw, cN nA at_] 0 0) ∧ (¬ kI 512 ≤ kI (n : Int) → WM mX5_addWordsOut 0 0 Post 27 18 [(0, .ref 0), (1, .ref 11), (2, vI (v : Int)), (3, vI (oI (lstE fr v k))), (4, vI (n : Int))] [] [ob 5 [vI (cnt : Int), .ref 1, .ref 2, .ref 3, .ref 4, .ref 25, .ref 26, vI (arcs : Int), vI (ln : Int), .ref 5, .ref 6, .ref 7, .ref 8, .ref 9, .ref 10], cK 300 wy, cN 300 fa, cK 300 fw, cN 301 as_, cK 2107 me, cI 401 fb, cI 300 nb, cK 4 wu1, cI 200 fk1, cI 512 nw1, ob 1 [.ref 12, .ref 13, .ref 14, .ref 15, .ref 16, .ref 17, .ref 18, .ref 19, .ref 20, .ref 21, .ref 22, .ref 23, .ref 24, vI (nn : Int), vI (ne : Int), vI (nm : Int)], cN 512 fr, cN 512 to, cI 512 wo, cN 512 te, cZ 512 hv, cI 401 fo, cI 512 no, cN 16 mb, cN 16 mw, cI 16 ml, cN 16 ma, cI 16 sk, cN 17 bo, cN nA aw, cN nA at_] 0 0)
      refine ⟨fun c15 => ?_, fun c15 => ?_⟩
      · 
        rw [kI_le (by omega)] at c15
        refine sq_ok rfl [(.return_, 0, 0, 0)] 128 _ _ _ _ _ (by decide +kernel) ?_
        show ((0 ≤ 0 ∧ 0 ≤ 0) ∧ Post none [ob 5 [vI (cnt : Int), .ref 1, .ref 2, .ref 3, .ref 4, .ref 25, .ref 26, vI (arcs : Int), vI (ln : Int), .ref 5, .ref 6, .ref 7, .ref 8, .ref 9, .ref 10], cK 300 wy, cN 300 fa, cK 300 fw, cN 301 as_, cK 2107 me, cI 401 fb, cI 300 nb, cK 4 wu1, cI 200 fk1, cI 512 nw1, ob 1 [.ref 12, .ref 13, .ref 14, .ref 15, .ref 16, .ref 17, .ref 18, .ref 19, .ref 20, .ref 21, .ref 22, .ref 23, .ref 24, vI (nn : Int), vI (ne : Int), vI (nm : Int)], cN 512 fr, cN 512 to, cI 512 wo, cN 512 te, cZ 512 hv, cI 401 fo, cI 512 no, cN 16 mb, cN 16 mw, cI 16 ml, cN 16 ma, cI 16 sk, cN 17 bo, cN nA aw, cN nA at_])
        refine ⟨⟨Nat.le_refl _, Nat.le_refl _⟩, hPo _ _ ?_⟩
        exact ⟨wu1, fk1, nw1, rfl, rfl, hS1.congr (fun e _ => or_congr Iff.rfl ⟨fun q => ⟨q.2.1, q.2.2⟩, fun q => ⟨by
          rcases Nat.lt_or_ge e k with h1 | h1
          · by_cases h3 : n < 512
            · exact absurd q.2 (lstE_nil (oI_neg (show ¬ 0 ≤ oI (lstE fr v k) by omega)) e h1)
            · omega
          · exact h1, q.1, q.2⟩⟩)⟩
      · 
        rw [kI_le (by omega)] at c15
        refine sq_ok rfl [(.iload_n 3, 0, 0, 0), (.ifCond .lt 109, 0, 0, 0)] 18 _ _ _ _ _ (by decide +kernel) ?_
        show (kI (oI (lstE fr v k)) < kI 0 → WM mX5_addWordsOut 0 0 Post 27 128 [(0, .ref 0), (1, .ref 11), (2, vI (v : Int)), (3, vI (oI (lstE fr v k))), (4, vI (n : Int))] [] [ob 5 [vI (cnt : Int), .ref 1, .ref 2, .ref 3, .ref 4, .ref 25, .ref 26, vI (arcs : Int), vI (ln : Int), .ref 5, .ref 6, .ref 7, .ref 8, .ref 9, .ref 10], cK 300 wy, cN 300 fa, cK 300 fw, cN 301 as_, cK 2107 me, cI 401 fb, cI 300 nb, cK 4 wu1, cI 200 fk1, cI 512 nw1, ob 1 [.ref 12, .ref 13, .ref 14, .ref 15, .ref 16, .ref 17, .ref 18, .ref 19, .ref 20, .ref 21, .ref 22, .ref 23, .ref 24, vI (nn : Int), vI (ne : Int), vI (nm : Int)], cN 512 fr, cN 512 to, cI 512 wo, cN 512 te, cZ 512 hv, cI 401 fo, cI 512 no, cN 16 mb, cN 16 mw, cI 16 ml, cN 16 ma, cI 16 sk, cN 17 bo, cN nA aw, cN nA at_] 0 0) ∧ (¬ kI (oI (lstE fr v k)) < kI 0 → WM mX5_addWordsOut 0 0 Post 27 22 [(0, .ref 0), (1, .ref 11), (2, vI (v : Int)), (3, vI (oI (lstE fr v k))), (4, vI (n : Int))] [] [ob 5 [vI (cnt : Int), .ref 1, .ref 2, .ref 3, .ref 4, .ref 25, .ref 26, vI (arcs : Int), vI (ln : Int), .ref 5, .ref 6, .ref 7, .ref 8, .ref 9, .ref 10], cK 300 wy, cN 300 fa, cK 300 fw, cN 301 as_, cK 2107 me, cI 401 fb, cI 300 nb, cK 4 wu1, cI 200 fk1, cI 512 nw1, ob 1 [.ref 12, .ref 13, .ref 14, .ref 15, .ref 16, .ref 17, .ref 18, .ref 19, .ref 20, .ref 21, .ref 22, .ref 23, .ref 24, vI (nn : Int), vI (ne : Int), vI (nm : Int)], cN 512 fr, cN 512 to, cI 512 wo, cN 512 te, cZ 512 hv, cI 401 fo, cI 512 no, cN 16 mb, cN 16 mw, cI 16 ml, cN 16 ma, cI 16 sk, cN 17 bo, cN nA aw, cN nA at_] 0 0)
        refine ⟨fun c19 => ?_, fun c19 => ?_⟩
        · 
          rw [kI_lt (by omega)] at c19
          refine sq_ok rfl [(.return_, 0, 0, 0)] 128 _ _ _ _ _ (by decide +kernel) ?_
          show ((0 ≤ 0 ∧ 0 ≤ 0) ∧ Post none [ob 5 [vI (cnt : Int), .ref 1, .ref 2, .ref 3, .ref 4, .ref 25, .ref 26, vI (arcs : Int), vI (ln : Int), .ref 5, .ref 6, .ref 7, .ref 8, .ref 9, .ref 10], cK 300 wy, cN 300 fa, cK 300 fw, cN 301 as_, cK 2107 me, cI 401 fb, cI 300 nb, cK 4 wu1, cI 200 fk1, cI 512 nw1, ob 1 [.ref 12, .ref 13, .ref 14, .ref 15, .ref 16, .ref 17, .ref 18, .ref 19, .ref 20, .ref 21, .ref 22, .ref 23, .ref 24, vI (nn : Int), vI (ne : Int), vI (nm : Int)], cN 512 fr, cN 512 to, cI 512 wo, cN 512 te, cZ 512 hv, cI 401 fo, cI 512 no, cN 16 mb, cN 16 mw, cI 16 ml, cN 16 ma, cI 16 sk, cN 17 bo, cN nA aw, cN nA at_])
          refine ⟨⟨Nat.le_refl _, Nat.le_refl _⟩, hPo _ _ ?_⟩
          exact ⟨wu1, fk1, nw1, rfl, rfl, hS1.congr (fun e _ => or_congr Iff.rfl ⟨fun q => ⟨q.2.1, q.2.2⟩, fun q => ⟨by
            rcases Nat.lt_or_ge e k with h1 | h1
            · by_cases h3 : n < 512
              · exact absurd q.2 (lstE_nil (oI_neg (show ¬ 0 ≤ oI (lstE fr v k) by omega)) e h1)
              · omega
            · exact h1, q.1, q.2⟩⟩)⟩
        · 
          rw [kI_lt (by omega)] at c19
          obtain ⟨e, he1, he2⟩ := oI_pos (show 0 ≤ oI (lstE fr v k) by omega)
          rw [he2]
          obtain ⟨he3, he4, he5⟩ := lstE_step he1
          have hwe := hwo e (by omega)
          refine sq_ok rfl [(.aload_n 1, 0, 0, 0), (.getfield 116, 1, 2, 0), (.iload_n 3, 0, 0, 0), (.iaload, 0, 0, 0), (.istore 5, 0, 0, 0), (.iload 5, 0, 0, 0), (.ifCond .lt 83, 0, 0, 0)] 22 _ _ _ _ _ (by decide +kernel) ?_
          show ∃ j27 : Nat, mj 512 (kI (e : Int)) j27 ∧ (kI (wo j27) < kI 0 → WM mX5_addWordsOut 0 0 Post 27 115 [(0, .ref 0), (1, .ref 11), (2, vI (v : Int)), (3, vI (e : Int)), (4, vI (n : Int)), (5, vI (wo j27))] [] [ob 5 [vI (cnt : Int), .ref 1, .ref 2, .ref 3, .ref 4, .ref 25, .ref 26, vI (arcs : Int), vI (ln : Int), .ref 5, .ref 6, .ref 7, .ref 8, .ref 9, .ref 10], cK 300 wy, cN 300 fa, cK 300 fw, cN 301 as_, cK 2107 me, cI 401 fb, cI 300 nb, cK 4 wu1, cI 200 fk1, cI 512 nw1, ob 1 [.ref 12, .ref 13, .ref 14, .ref 15, .ref 16, .ref 17, .ref 18, .ref 19, .ref 20, .ref 21, .ref 22, .ref 23, .ref 24, vI (nn : Int), vI (ne : Int), vI (nm : Int)], cN 512 fr, cN 512 to, cI 512 wo, cN 512 te, cZ 512 hv, cI 401 fo, cI 512 no, cN 16 mb, cN 16 mw, cI 16 ml, cN 16 ma, cI 16 sk, cN 17 bo, cN nA aw, cN nA at_] 0 0) ∧ (¬ kI (wo j27) < kI 0 → WM mX5_addWordsOut 0 0 Post 27 35 [(0, .ref 0), (1, .ref 11), (2, vI (v : Int)), (3, vI (e : Int)), (4, vI (n : Int)), (5, vI (wo j27))] [] [ob 5 [vI (cnt : Int), .ref 1, .ref 2, .ref 3, .ref 4, .ref 25, .ref 26, vI (arcs : Int), vI (ln : Int), .ref 5, .ref 6, .ref 7, .ref 8, .ref 9, .ref 10], cK 300 wy, cN 300 fa, cK 300 fw, cN 301 as_, cK 2107 me, cI 401 fb, cI 300 nb, cK 4 wu1, cI 200 fk1, cI 512 nw1, ob 1 [.ref 12, .ref 13, .ref 14, .ref 15, .ref 16, .ref 17, .ref 18, .ref 19, .ref 20, .ref 21, .ref 22, .ref 23, .ref 24, vI (nn : Int), vI (ne : Int), vI (nm : Int)], cN 512 fr, cN 512 to, cI 512 wo, cN 512 te, cZ 512 hv, cI 401 fo, cI 512 no, cN 16 mb, cN 16 mw, cI 16 ml, cN 16 ma, cI 16 sk, cN 17 bo, cN nA aw, cN nA at_] 0 0)
          refine ⟨e, ⟨by omega, by omega, rfl⟩, ?_⟩
          refine ⟨fun c32 => ?_, fun c32 => ?_⟩
          · 
            rw [kI_lt (by omega)] at c32
            have hnx : no e = oI (lstE fr v e) := by rw [hG.2.1 e (by omega), he4]
            refine sq_ok rfl [(.aload_n 1, 0, 0, 0), (.getfield 119, 1, 6, 0), (.iload_n 3, 0, 0, 0), (.iaload, 0, 0, 0)] 115 _ _ _ _ _ (by decide +kernel) ?_
            show ∃ j120 : Nat, mj 512 (kI (e : Int)) j120 ∧ WM mX5_addWordsOut 0 0 Post 27 121 [(0, .ref 0), (1, .ref 11), (2, vI (v : Int)), (3, vI (e : Int)), (4, vI (n : Int)), (5, vI (wo e))] [.int (kI (no j120))] [ob 5 [vI (cnt : Int), .ref 1, .ref 2, .ref 3, .ref 4, .ref 25, .ref 26, vI (arcs : Int), vI (ln : Int), .ref 5, .ref 6, .ref 7, .ref 8, .ref 9, .ref 10], cK 300 wy, cN 300 fa, cK 300 fw, cN 301 as_, cK 2107 me, cI 401 fb, cI 300 nb, cK 4 wu1, cI 200 fk1, cI 512 nw1, ob 1 [.ref 12, .ref 13, .ref 14, .ref 15, .ref 16, .ref 17, .ref 18, .ref 19, .ref 20, .ref 21, .ref 22, .ref 23, .ref 24, vI (nn : Int), vI (ne : Int), vI (nm : Int)], cN 512 fr, cN 512 to, cI 512 wo, cN 512 te, cZ 512 hv, cI 401 fo, cI 512 no, cN 16 mb, cN 16 mw, cI 16 ml, cN 16 ma, cI 16 sk, cN 17 bo, cN nA aw, cN nA at_] 0 0
            refine ⟨e, ⟨by omega, by omega, rfl⟩, ?_⟩
            have e5 : kI (no e) = kI (oI (lstE fr v e)) := by rw [hnx]
            rw [e5]
            refine sq_ok rfl [(.istore_n 3, 0, 0, 0), (.iinc 4 1, 0, 0, 0), (.goto (-115), 0, 0, 0)] 121 _ _ _ _ _ (by decide +kernel) ?_
            show WM mX5_addWordsOut 0 0 Post 27 10 [(0, .ref 0), (1, .ref 11), (2, vI (v : Int)), (3, vI (oI (lstE fr v e))), (4, .int ((kI (n : Int)) + (kI 1))), (5, vI (wo e))] [] [ob 5 [vI (cnt : Int), .ref 1, .ref 2, .ref 3, .ref 4, .ref 25, .ref 26, vI (arcs : Int), vI (ln : Int), .ref 5, .ref 6, .ref 7, .ref 8, .ref 9, .ref 10], cK 300 wy, cN 300 fa, cK 300 fw, cN 301 as_, cK 2107 me, cI 401 fb, cI 300 nb, cK 4 wu1, cI 200 fk1, cI 512 nw1, ob 1 [.ref 12, .ref 13, .ref 14, .ref 15, .ref 16, .ref 17, .ref 18, .ref 19, .ref 20, .ref 21, .ref 22, .ref 23, .ref 24, vI (nn : Int), vI (ne : Int), vI (nm : Int)], cN 512 fr, cN 512 to, cI 512 wo, cN 512 te, cZ 512 hv, cI 401 fo, cI 512 no, cN 16 mb, cN 16 mw, cI 16 ml, cN 16 ma, cI 16 sk, cN 17 bo, cN nA aw, cN nA at_] 0 0
            have e6 : ((kI (n : Int)) + (kI 1)) = kI (((n + 1) : Nat) : Int) := by first | (simp only [kI_add, kI_sub, kI_mul]; done) | (simp only [kI_add, kI_sub, kI_mul]; rfl)
            rw [e6]
            exact WM.pick [0, 1, 2, 3, 4] rfl (ih10 e (n + 1) wu1 fk1 nw1 (by omega) (by
              first
              | exact (wS_add hS1 hx (by omega) (fun q => q.elim (fun q => hQ e q he4) (fun q => by omega)) _ (by rw [c59b]; rfl)).congr (fun y _ => ⟨fun q => q.elim (fun q => q.imp id (fun q => ⟨by omega, q.2.1, q.2.2⟩)) (fun q => Or.inr (by rw [q]; exact ⟨Nat.le_refl _, by omega, he4⟩)), fun q => q.elim (fun q => Or.inl (Or.inl q)) (fun q => by
                  rcases Nat.lt_or_ge y k with h1 | h1
                  · rcases Nat.lt_or_ge e y with h2 | h2
                    · exact absurd q.2.2 (he5 y h2 h1)
                    · exact Or.inr (by omega)
                  · exact Or.inl (Or.inr ⟨h1, q.2.1, q.2.2⟩))⟩)
              | exact hS1.congr (fun y hy => or_congr Iff.rfl ⟨fun q => ⟨by omega, q.2.1, q.2.2⟩, fun q => ⟨by
                  rcases Nat.lt_or_ge y k with h1 | h1
                  · rcases Nat.lt_or_ge e y with h2 | h2
                    · exact absurd q.2.2 (he5 y h2 h1)
                    · rw [show y = e by omega] at hy; omega
                  · exact h1, q.2.1, q.2.2⟩⟩)) (by omega))
          · 
            rw [kI_lt (by omega)] at c32
            obtain ⟨x, hx⟩ := Int.eq_ofNat_of_zero_le (show 0 ≤ wo e by omega)
            rw [hx] at hwe
            rw [hx]
            have hm0 := hS1.1 (x / 64) (by omega)
            have hp0 : 2 ^ (x % 64) < 18446744073709551616 := Nat.lt_of_lt_of_le (Nat.pow_lt_pow_right (by omega) (show x % 64 < 64 by omega)) (by decide)
            refine sq_ok rfl [(.lconst 1, 0, 0, 0), (.iload 5, 0, 0, 0), (.bipush 63, 0, 0, 0), (.iand, 0, 0, 0)] 35 _ _ _ _ _ (by decide +kernel) ?_
            show WM mX5_addWordsOut 0 0 Post 27 41 [(0, .ref 0), (1, .ref 11), (2, vI (v : Int)), (3, vI (e : Int)), (4, vI (n : Int)), (5, vI (x : Int))] [.int ((kI (x : Int)) &&& (kI 63)), vJ 1] [ob 5 [vI (cnt : Int), .ref 1, .ref 2, .ref 3, .ref 4, .ref 25, .ref 26, vI (arcs : Int), vI (ln : Int), .ref 5, .ref 6, .ref 7, .ref 8, .ref 9, .ref 10], cK 300 wy, cN 300 fa, cK 300 fw, cN 301 as_, cK 2107 me, cI 401 fb, cI 300 nb, cK 4 wu1, cI 200 fk1, cI 512 nw1, ob 1 [.ref 12, .ref 13, .ref 14, .ref 15, .ref 16, .ref 17, .ref 18, .ref 19, .ref 20, .ref 21, .ref 22, .ref 23, .ref 24, vI (nn : Int), vI (ne : Int), vI (nm : Int)], cN 512 fr, cN 512 to, cI 512 wo, cN 512 te, cZ 512 hv, cI 401 fo, cI 512 no, cN 16 mb, cN 16 mw, cI 16 ml, cN 16 ma, cI 16 sk, cN 17 bo, cN nA aw, cN nA at_] 0 0
            have e7 : ((kI (x : Int)) &&& (kI 63)) = kI (((x % 64) : Nat) : Int) := by exact kI_and63 (by omega)
            rw [e7]
            refine sq_ok rfl [(.lshl, 0, 0, 0)] 41 _ _ _ _ _ (by decide +kernel) ?_
            show WM mX5_addWordsOut 0 0 Post 27 42 [(0, .ref 0), (1, .ref 11), (2, vI (v : Int)), (3, vI (e : Int)), (4, vI (n : Int)), (5, vI (x : Int))] [.long ((kL 1) <<< ((kI (((x % 64) : Nat) : Int)).toInt64 &&& 63))] [ob 5 [vI (cnt : Int), .ref 1, .ref 2, .ref 3, .ref 4, .ref 25, .ref 26, vI (arcs : Int), vI (ln : Int), .ref 5, .ref 6, .ref 7, .ref 8, .ref 9, .ref 10], cK 300 wy, cN 300 fa, cK 300 fw, cN 301 as_, cK 2107 me, cI 401 fb, cI 300 nb, cK 4 wu1, cI 200 fk1, cI 512 nw1, ob 1 [.ref 12, .ref 13, .ref 14, .ref 15, .ref 16, .ref 17, .ref 18, .ref 19, .ref 20, .ref 21, .ref 22, .ref 23, .ref 24, vI (nn : Int), vI (ne : Int), vI (nm : Int)], cN 512 fr, cN 512 to, cI 512 wo, cN 512 te, cZ 512 hv, cI 401 fo, cI 512 no, cN 16 mb, cN 16 mw, cI 16 ml, cN 16 ma, cI 16 sk, cN 17 bo, cN nA aw, cN nA at_] 0 0
            have e8 : ((kL 1) <<< ((kI (((x % 64) : Nat) : Int)).toInt64 &&& 63)) = kL (((2 ^ (x % 64)) : Nat) : Int) := by exact kL_shl1 (by omega)
            rw [e8]
            refine sq_ok rfl [(.lstore 6, 0, 0, 0), (.aload_n 0, 0, 0, 0), (.getfield 40, 5, 12, 0), (.iload 5, 0, 0, 0), (.bipush 6, 0, 0, 0), (.iushr, 0, 0, 0)] 42 _ _ _ _ _ (by decide +kernel) ?_
            show WM mX5_addWordsOut 0 0 Post 27 53 [(0, .ref 0), (1, .ref 11), (2, vI (v : Int)), (3, vI (e : Int)), (4, vI (n : Int)), (5, vI (x : Int)), (6, vJ (((2 ^ (x % 64)) : Nat) : Int))] [.int (((kI (x : Int)).toUInt32 >>> ((kI 6).toUInt32 &&& Int32.toUInt32 31)).toInt32), .ref 8] [ob 5 [vI (cnt : Int), .ref 1, .ref 2, .ref 3, .ref 4, .ref 25, .ref 26, vI (arcs : Int), vI (ln : Int), .ref 5, .ref 6, .ref 7, .ref 8, .ref 9, .ref 10], cK 300 wy, cN 300 fa, cK 300 fw, cN 301 as_, cK 2107 me, cI 401 fb, cI 300 nb, cK 4 wu1, cI 200 fk1, cI 512 nw1, ob 1 [.ref 12, .ref 13, .ref 14, .ref 15, .ref 16, .ref 17, .ref 18, .ref 19, .ref 20, .ref 21, .ref 22, .ref 23, .ref 24, vI (nn : Int), vI (ne : Int), vI (nm : Int)], cN 512 fr, cN 512 to, cI 512 wo, cN 512 te, cZ 512 hv, cI 401 fo, cI 512 no, cN 16 mb, cN 16 mw, cI 16 ml, cN 16 ma, cI 16 sk, cN 17 bo, cN nA aw, cN nA at_] 0 0
            have e9 : ((kI (x : Int)).toUInt32 >>> ((kI 6).toUInt32 &&& Int32.toUInt32 31)).toInt32 = kI (((x / 64) : Nat) : Int) := by exact kI_ush6 (by omega)
            rw [e9]
            refine sq_ok rfl [(.laload, 0, 0, 0), (.lload 6, 0, 0, 0), (.land, 0, 0, 0)] 53 _ _ _ _ _ (by decide +kernel) ?_
            show ∃ j53 : Nat, mj 4 (kI (((x / 64) : Nat) : Int)) j53 ∧ WM mX5_addWordsOut 0 0 Post 27 57 [(0, .ref 0), (1, .ref 11), (2, vI (v : Int)), (3, vI (e : Int)), (4, vI (n : Int)), (5, vI (x : Int)), (6, vJ (((2 ^ (x % 64)) : Nat) : Int))] [.long ((kL ((wu1 j53 : Nat) : Int)) &&& (kL (((2 ^ (x % 64)) : Nat) : Int)))] [ob 5 [vI (cnt : Int), .ref 1, .ref 2, .ref 3, .ref 4, .ref 25, .ref 26, vI (arcs : Int), vI (ln : Int), .ref 5, .ref 6, .ref 7, .ref 8, .ref 9, .ref 10], cK 300 wy, cN 300 fa, cK 300 fw, cN 301 as_, cK 2107 me, cI 401 fb, cI 300 nb, cK 4 wu1, cI 200 fk1, cI 512 nw1, ob 1 [.ref 12, .ref 13, .ref 14, .ref 15, .ref 16, .ref 17, .ref 18, .ref 19, .ref 20, .ref 21, .ref 22, .ref 23, .ref 24, vI (nn : Int), vI (ne : Int), vI (nm : Int)], cN 512 fr, cN 512 to, cI 512 wo, cN 512 te, cZ 512 hv, cI 401 fo, cI 512 no, cN 16 mb, cN 16 mw, cI 16 ml, cN 16 ma, cI 16 sk, cN 17 bo, cN nA aw, cN nA at_] 0 0
            refine ⟨(x / 64), ⟨by omega, by omega, rfl⟩, ?_⟩
            have e10 : ((kL ((wu1 (x / 64) : Nat) : Int)) &&& (kL (((2 ^ (x % 64)) : Nat) : Int))) = kL (((wu1 (x / 64) &&& 2 ^ (x % 64)) : Nat) : Int) := by exact kL_and hm0 hp0
            rw [e10]
            refine sq_ok rfl [(.lconst 0, 0, 0, 0), (.lcmp, 0, 0, 0), (.ifCond .eq 7, 0, 0, 0)] 57 _ _ _ _ _ (by decide +kernel) ?_
            show ((lg_cmp (kL (((wu1 (x / 64) &&& 2 ^ (x % 64)) : Nat) : Int)) (kL 0)) = kI 0 → WM mX5_addWordsOut 0 0 Post 27 66 [(0, .ref 0), (1, .ref 11), (2, vI (v : Int)), (3, vI (e : Int)), (4, vI (n : Int)), (5, vI (x : Int)), (6, vJ (((2 ^ (x % 64)) : Nat) : Int))] [] [ob 5 [vI (cnt : Int), .ref 1, .ref 2, .ref 3, .ref 4, .ref 25, .ref 26, vI (arcs : Int), vI (ln : Int), .ref 5, .ref 6, .ref 7, .ref 8, .ref 9, .ref 10], cK 300 wy, cN 300 fa, cK 300 fw, cN 301 as_, cK 2107 me, cI 401 fb, cI 300 nb, cK 4 wu1, cI 200 fk1, cI 512 nw1, ob 1 [.ref 12, .ref 13, .ref 14, .ref 15, .ref 16, .ref 17, .ref 18, .ref 19, .ref 20, .ref 21, .ref 22, .ref 23, .ref 24, vI (nn : Int), vI (ne : Int), vI (nm : Int)], cN 512 fr, cN 512 to, cI 512 wo, cN 512 te, cZ 512 hv, cI 401 fo, cI 512 no, cN 16 mb, cN 16 mw, cI 16 ml, cN 16 ma, cI 16 sk, cN 17 bo, cN nA aw, cN nA at_] 0 0) ∧ (¬ (lg_cmp (kL (((wu1 (x / 64) &&& 2 ^ (x % 64)) : Nat) : Int)) (kL 0)) = kI 0 → WM mX5_addWordsOut 0 0 Post 27 62 [(0, .ref 0), (1, .ref 11), (2, vI (v : Int)), (3, vI (e : Int)), (4, vI (n : Int)), (5, vI (x : Int)), (6, vJ (((2 ^ (x % 64)) : Nat) : Int))] [] [ob 5 [vI (cnt : Int), .ref 1, .ref 2, .ref 3, .ref 4, .ref 25, .ref 26, vI (arcs : Int), vI (ln : Int), .ref 5, .ref 6, .ref 7, .ref 8, .ref 9, .ref 10], cK 300 wy, cN 300 fa, cK 300 fw, cN 301 as_, cK 2107 me, cI 401 fb, cI 300 nb, cK 4 wu1, cI 200 fk1, cI 512 nw1, ob 1 [.ref 12, .ref 13, .ref 14, .ref 15, .ref 16, .ref 17, .ref 18, .ref 19, .ref 20, .ref 21, .ref 22, .ref 23, .ref 24, vI (nn : Int), vI (ne : Int), vI (nm : Int)], cN 512 fr, cN 512 to, cI 512 wo, cN 512 te, cZ 512 hv, cI 401 fo, cI 512 no, cN 16 mb, cN 16 mw, cI 16 ml, cN 16 ma, cI 16 sk, cN 17 bo, cN nA aw, cN nA at_] 0 0)
            refine ⟨fun c59 => ?_, fun c59 => ?_⟩
            · 
              have c59b : (wu1 (x / 64)).testBit (x % 64) = false := by
                rw [lc_eq] at c59
                have := (kL_eqU (b := 0) (Nat.lt_of_le_of_lt Nat.and_le_left hm0) (by omega)).mp c59
                rw [and_bit0] at this
                exact this
              refine sq_ok rfl [(.iconst 0, 0, 0, 0), (.istore 8, 0, 0, 0), (.aload_n 0, 0, 0, 0), (.getfield 46, 5, 14, 0), (.iload_n 3, 0, 0, 0), (.iload 8, 0, 0, 0), (.ifCond .eq 13, 0, 0, 0)] 66 _ _ _ _ _ (by decide +kernel) ?_
              show (kI 0 = kI 0 → WM mX5_addWordsOut 0 0 Post 27 89 [(0, .ref 0), (1, .ref 11), (2, vI (v : Int)), (3, vI (e : Int)), (4, vI (n : Int)), (5, vI (x : Int)), (6, vJ (((2 ^ (x % 64)) : Nat) : Int)), (8, vI 0)] [vI (e : Int), .ref 10] [ob 5 [vI (cnt : Int), .ref 1, .ref 2, .ref 3, .ref 4, .ref 25, .ref 26, vI (arcs : Int), vI (ln : Int), .ref 5, .ref 6, .ref 7, .ref 8, .ref 9, .ref 10], cK 300 wy, cN 300 fa, cK 300 fw, cN 301 as_, cK 2107 me, cI 401 fb, cI 300 nb, cK 4 wu1, cI 200 fk1, cI 512 nw1, ob 1 [.ref 12, .ref 13, .ref 14, .ref 15, .ref 16, .ref 17, .ref 18, .ref 19, .ref 20, .ref 21, .ref 22, .ref 23, .ref 24, vI (nn : Int), vI (ne : Int), vI (nm : Int)], cN 512 fr, cN 512 to, cI 512 wo, cN 512 te, cZ 512 hv, cI 401 fo, cI 512 no, cN 16 mb, cN 16 mw, cI 16 ml, cN 16 ma, cI 16 sk, cN 17 bo, cN nA aw, cN nA at_] 0 0) ∧ (¬ kI 0 = kI 0 → WM mX5_addWordsOut 0 0 Post 27 79 [(0, .ref 0), (1, .ref 11), (2, vI (v : Int)), (3, vI (e : Int)), (4, vI (n : Int)), (5, vI (x : Int)), (6, vJ (((2 ^ (x % 64)) : Nat) : Int)), (8, vI 0)] [vI (e : Int), .ref 10] [ob 5 [vI (cnt : Int), .ref 1, .ref 2, .ref 3, .ref 4, .ref 25, .ref 26, vI (arcs : Int), vI (ln : Int), .ref 5, .ref 6, .ref 7, .ref 8, .ref 9, .ref 10], cK 300 wy, cN 300 fa, cK 300 fw, cN 301 as_, cK 2107 me, cI 401 fb, cI 300 nb, cK 4 wu1, cI 200 fk1, cI 512 nw1, ob 1 [.ref 12, .ref 13, .ref 14, .ref 15, .ref 16, .ref 17, .ref 18, .ref 19, .ref 20, .ref 21, .ref 22, .ref 23, .ref 24, vI (nn : Int), vI (ne : Int), vI (nm : Int)], cN 512 fr, cN 512 to, cI 512 wo, cN 512 te, cZ 512 hv, cI 401 fo, cI 512 no, cN 16 mb, cN 16 mw, cI 16 ml, cN 16 ma, cI 16 sk, cN 17 bo, cN nA aw, cN nA at_] 0 0)
              refine ⟨fun c76 => ?_, fun c76 => ?_⟩
              · 
                rw [kI_eq (by omega)] at c76
                refine sq_ok rfl [(.bipush (-2), 0, 0, 0), (.iastore, 0, 0, 0)] 89 _ _ _ _ _ (by decide +kernel) ?_
                show ∃ (j91 : Nat) (g91 : Nat → Int32), (mj 512 (kI (e : Int)) j91 ∧ g91 = upd (fun q => kI (nw1 q)) j91 (kI (-2))) ∧ WM mX5_addWordsOut 0 0 Post 27 92 [(0, .ref 0), (1, .ref 11), (2, vI (v : Int)), (3, vI (e : Int)), (4, vI (n : Int)), (5, vI (x : Int)), (6, vJ (((2 ^ (x % 64)) : Nat) : Int)), (8, vI 0)] [] [ob 5 [vI (cnt : Int), .ref 1, .ref 2, .ref 3, .ref 4, .ref 25, .ref 26, vI (arcs : Int), vI (ln : Int), .ref 5, .ref 6, .ref 7, .ref 8, .ref 9, .ref 10], cK 300 wy, cN 300 fa, cK 300 fw, cN 301 as_, cK 2107 me, cI 401 fb, cI 300 nb, cK 4 wu1, cI 200 fk1, .inl (0, 512, .inl g91), ob 1 [.ref 12, .ref 13, .ref 14, .ref 15, .ref 16, .ref 17, .ref 18, .ref 19, .ref 20, .ref 21, .ref 22, .ref 23, .ref 24, vI (nn : Int), vI (ne : Int), vI (nm : Int)], cN 512 fr, cN 512 to, cI 512 wo, cN 512 te, cZ 512 hv, cI 401 fo, cI 512 no, cN 16 mb, cN 16 mw, cI 16 ml, cN 16 ma, cI 16 sk, cN 17 bo, cN nA aw, cN nA at_] 0 0
                refine ⟨e, fun q => kI ((va_up nw1 e (-2)) q), ⟨⟨by omega, by omega, rfl⟩, st_I (rfl)⟩, ?_⟩
                refine sq_ok rfl [(.aload_n 0, 0, 0, 0), (.getfield 43, 5, 13, 0), (.iload 5, 0, 0, 0), (.iload_n 3, 0, 0, 0), (.iastore, 0, 0, 0)] 92 _ _ _ _ _ (by decide +kernel) ?_
                show ∃ (j99 : Nat) (g99 : Nat → Int32), (mj 200 (kI (x : Int)) j99 ∧ g99 = upd (fun q => kI (fk1 q)) j99 (kI (e : Int))) ∧ WM mX5_addWordsOut 0 0 Post 27 100 [(0, .ref 0), (1, .ref 11), (2, vI (v : Int)), (3, vI (e : Int)), (4, vI (n : Int)), (5, vI (x : Int)), (6, vJ (((2 ^ (x % 64)) : Nat) : Int)), (8, vI 0)] [] [ob 5 [vI (cnt : Int), .ref 1, .ref 2, .ref 3, .ref 4, .ref 25, .ref 26, vI (arcs : Int), vI (ln : Int), .ref 5, .ref 6, .ref 7, .ref 8, .ref 9, .ref 10], cK 300 wy, cN 300 fa, cK 300 fw, cN 301 as_, cK 2107 me, cI 401 fb, cI 300 nb, cK 4 wu1, .inl (0, 200, .inl g99), cI 512 (va_up nw1 e (-2)), ob 1 [.ref 12, .ref 13, .ref 14, .ref 15, .ref 16, .ref 17, .ref 18, .ref 19, .ref 20, .ref 21, .ref 22, .ref 23, .ref 24, vI (nn : Int), vI (ne : Int), vI (nm : Int)], cN 512 fr, cN 512 to, cI 512 wo, cN 512 te, cZ 512 hv, cI 401 fo, cI 512 no, cN 16 mb, cN 16 mw, cI 16 ml, cN 16 ma, cI 16 sk, cN 17 bo, cN nA aw, cN nA at_] 0 0
                refine ⟨x, fun q => kI ((va_up fk1 x (e : Int)) q), ⟨⟨by omega, by omega, rfl⟩, st_I (rfl)⟩, ?_⟩
                refine sq_ok rfl [(.aload_n 0, 0, 0, 0), (.getfield 40, 5, 12, 0), (.iload 5, 0, 0, 0), (.bipush 6, 0, 0, 0), (.iushr, 0, 0, 0)] 100 _ _ _ _ _ (by decide +kernel) ?_
                show WM mX5_addWordsOut 0 0 Post 27 109 [(0, .ref 0), (1, .ref 11), (2, vI (v : Int)), (3, vI (e : Int)), (4, vI (n : Int)), (5, vI (x : Int)), (6, vJ (((2 ^ (x % 64)) : Nat) : Int)), (8, vI 0)] [.int (((kI (x : Int)).toUInt32 >>> ((kI 6).toUInt32 &&& Int32.toUInt32 31)).toInt32), .ref 8] [ob 5 [vI (cnt : Int), .ref 1, .ref 2, .ref 3, .ref 4, .ref 25, .ref 26, vI (arcs : Int), vI (ln : Int), .ref 5, .ref 6, .ref 7, .ref 8, .ref 9, .ref 10], cK 300 wy, cN 300 fa, cK 300 fw, cN 301 as_, cK 2107 me, cI 401 fb, cI 300 nb, cK 4 wu1, cI 200 (va_up fk1 x (e : Int)), cI 512 (va_up nw1 e (-2)), ob 1 [.ref 12, .ref 13, .ref 14, .ref 15, .ref 16, .ref 17, .ref 18, .ref 19, .ref 20, .ref 21, .ref 22, .ref 23, .ref 24, vI (nn : Int), vI (ne : Int), vI (nm : Int)], cN 512 fr, cN 512 to, cI 512 wo, cN 512 te, cZ 512 hv, cI 401 fo, cI 512 no, cN 16 mb, cN 16 mw, cI 16 ml, cN 16 ma, cI 16 sk, cN 17 bo, cN nA aw, cN nA at_] 0 0
                have e13 : ((kI (x : Int)).toUInt32 >>> ((kI 6).toUInt32 &&& Int32.toUInt32 31)).toInt32 = kI (((x / 64) : Nat) : Int) := by exact kI_ush6 (by omega)
                rw [e13]
                refine sq_ok rfl [(.dup2, 0, 0, 0), (.laload, 0, 0, 0), (.lload 6, 0, 0, 0), (.lor, 0, 0, 0)] 109 _ _ _ _ _ (by decide +kernel) ?_
                show ∃ j110 : Nat, mj 4 (kI (((x / 64) : Nat) : Int)) j110 ∧ WM mX5_addWordsOut 0 0 Post 27 114 [(0, .ref 0), (1, .ref 11), (2, vI (v : Int)), (3, vI (e : Int)), (4, vI (n : Int)), (5, vI (x : Int)), (6, vJ (((2 ^ (x % 64)) : Nat) : Int)), (8, vI 0)] [.long ((kL ((wu1 j110 : Nat) : Int)) ||| (kL (((2 ^ (x % 64)) : Nat) : Int))), vI (((x / 64) : Nat) : Int), .ref 8] [ob 5 [vI (cnt : Int), .ref 1, .ref 2, .ref 3, .ref 4, .ref 25, .ref 26, vI (arcs : Int), vI (ln : Int), .ref 5, .ref 6, .ref 7, .ref 8, .ref 9, .ref 10], cK 300 wy, cN 300 fa, cK 300 fw, cN 301 as_, cK 2107 me, cI 401 fb, cI 300 nb, cK 4 wu1, cI 200 (va_up fk1 x (e : Int)), cI 512 (va_up nw1 e (-2)), ob 1 [.ref 12, .ref 13, .ref 14, .ref 15, .ref 16, .ref 17, .ref 18, .ref 19, .ref 20, .ref 21, .ref 22, .ref 23, .ref 24, vI (nn : Int), vI (ne : Int), vI (nm : Int)], cN 512 fr, cN 512 to, cI 512 wo, cN 512 te, cZ 512 hv, cI 401 fo, cI 512 no, cN 16 mb, cN 16 mw, cI 16 ml, cN 16 ma, cI 16 sk, cN 17 bo, cN nA aw, cN nA at_] 0 0
                refine ⟨(x / 64), ⟨by omega, by omega, rfl⟩, ?_⟩
                have e14 : ((kL ((wu1 (x / 64) : Nat) : Int)) ||| (kL (((2 ^ (x % 64)) : Nat) : Int))) = kL (((wu1 (x / 64) ||| 2 ^ (x % 64)) : Nat) : Int) := by exact kL_or hm0 hp0
                rw [e14]
                refine sq_ok rfl [(.lastore, 0, 0, 0)] 114 _ _ _ _ _ (by decide +kernel) ?_
                show ∃ (j114 : Nat) (g114 : Nat → Int64), (mj 4 (kI (((x / 64) : Nat) : Int)) j114 ∧ g114 = vp_updL (fun q => kL ((wu1 q : Nat) : Int)) j114 (kL (((wu1 (x / 64) ||| 2 ^ (x % 64)) : Nat) : Int))) ∧ WM mX5_addWordsOut 0 0 Post 27 115 [(0, .ref 0), (1, .ref 11), (2, vI (v : Int)), (3, vI (e : Int)), (4, vI (n : Int)), (5, vI (x : Int)), (6, vJ (((2 ^ (x % 64)) : Nat) : Int)), (8, vI 0)] [] [ob 5 [vI (cnt : Int), .ref 1, .ref 2, .ref 3, .ref 4, .ref 25, .ref 26, vI (arcs : Int), vI (ln : Int), .ref 5, .ref 6, .ref 7, .ref 8, .ref 9, .ref 10], cK 300 wy, cN 300 fa, cK 300 fw, cN 301 as_, cK 2107 me, cI 401 fb, cI 300 nb, .inl (1, 4, .inr (.inl g114)), cI 200 (va_up fk1 x (e : Int)), cI 512 (va_up nw1 e (-2)), ob 1 [.ref 12, .ref 13, .ref 14, .ref 15, .ref 16, .ref 17, .ref 18, .ref 19, .ref 20, .ref 21, .ref 22, .ref 23, .ref 24, vI (nn : Int), vI (ne : Int), vI (nm : Int)], cN 512 fr, cN 512 to, cI 512 wo, cN 512 te, cZ 512 hv, cI 401 fo, cI 512 no, cN 16 mb, cN 16 mw, cI 16 ml, cN 16 ma, cI 16 sk, cN 17 bo, cN nA aw, cN nA at_] 0 0
                refine ⟨(x / 64), fun q => kL (((va_up wu1 (x / 64) (wu1 (x / 64) ||| 2 ^ (x % 64))) q : Nat) : Int), ⟨⟨by omega, by omega, rfl⟩, st_K (rfl)⟩, ?_⟩
                have hnx : no e = oI (lstE fr v e) := by rw [hG.2.1 e (by omega), he4]
                refine sq_ok rfl [(.aload_n 1, 0, 0, 0), (.getfield 119, 1, 6, 0), (.iload_n 3, 0, 0, 0), (.iaload, 0, 0, 0)] 115 _ _ _ _ _ (by decide +kernel) ?_
                show ∃ j120 : Nat, mj 512 (kI (e : Int)) j120 ∧ WM mX5_addWordsOut 0 0 Post 27 121 [(0, .ref 0), (1, .ref 11), (2, vI (v : Int)), (3, vI (e : Int)), (4, vI (n : Int)), (5, vI (x : Int)), (6, vJ (((2 ^ (x % 64)) : Nat) : Int)), (8, vI 0)] [.int (kI (no j120))] [ob 5 [vI (cnt : Int), .ref 1, .ref 2, .ref 3, .ref 4, .ref 25, .ref 26, vI (arcs : Int), vI (ln : Int), .ref 5, .ref 6, .ref 7, .ref 8, .ref 9, .ref 10], cK 300 wy, cN 300 fa, cK 300 fw, cN 301 as_, cK 2107 me, cI 401 fb, cI 300 nb, cK 4 (va_up wu1 (x / 64) (wu1 (x / 64) ||| 2 ^ (x % 64))), cI 200 (va_up fk1 x (e : Int)), cI 512 (va_up nw1 e (-2)), ob 1 [.ref 12, .ref 13, .ref 14, .ref 15, .ref 16, .ref 17, .ref 18, .ref 19, .ref 20, .ref 21, .ref 22, .ref 23, .ref 24, vI (nn : Int), vI (ne : Int), vI (nm : Int)], cN 512 fr, cN 512 to, cI 512 wo, cN 512 te, cZ 512 hv, cI 401 fo, cI 512 no, cN 16 mb, cN 16 mw, cI 16 ml, cN 16 ma, cI 16 sk, cN 17 bo, cN nA aw, cN nA at_] 0 0
                refine ⟨e, ⟨by omega, by omega, rfl⟩, ?_⟩
                have e15 : kI (no e) = kI (oI (lstE fr v e)) := by rw [hnx]
                rw [e15]
                refine sq_ok rfl [(.istore_n 3, 0, 0, 0), (.iinc 4 1, 0, 0, 0), (.goto (-115), 0, 0, 0)] 121 _ _ _ _ _ (by decide +kernel) ?_
                show WM mX5_addWordsOut 0 0 Post 27 10 [(0, .ref 0), (1, .ref 11), (2, vI (v : Int)), (3, vI (oI (lstE fr v e))), (4, .int ((kI (n : Int)) + (kI 1))), (5, vI (x : Int)), (6, vJ (((2 ^ (x % 64)) : Nat) : Int)), (8, vI 0)] [] [ob 5 [vI (cnt : Int), .ref 1, .ref 2, .ref 3, .ref 4, .ref 25, .ref 26, vI (arcs : Int), vI (ln : Int), .ref 5, .ref 6, .ref 7, .ref 8, .ref 9, .ref 10], cK 300 wy, cN 300 fa, cK 300 fw, cN 301 as_, cK 2107 me, cI 401 fb, cI 300 nb, cK 4 (va_up wu1 (x / 64) (wu1 (x / 64) ||| 2 ^ (x % 64))), cI 200 (va_up fk1 x (e : Int)), cI 512 (va_up nw1 e (-2)), ob 1 [.ref 12, .ref 13, .ref 14, .ref 15, .ref 16, .ref 17, .ref 18, .ref 19, .ref 20, .ref 21, .ref 22, .ref 23, .ref 24, vI (nn : Int), vI (ne : Int), vI (nm : Int)], cN 512 fr, cN 512 to, cI 512 wo, cN 512 te, cZ 512 hv, cI 401 fo, cI 512 no, cN 16 mb, cN 16 mw, cI 16 ml, cN 16 ma, cI 16 sk, cN 17 bo, cN nA aw, cN nA at_] 0 0
                have e16 : ((kI (n : Int)) + (kI 1)) = kI (((n + 1) : Nat) : Int) := by first | (simp only [kI_add, kI_sub, kI_mul]; done) | (simp only [kI_add, kI_sub, kI_mul]; rfl)
                rw [e16]
                exact WM.pick [0, 1, 2, 3, 4] rfl (ih10 e (n + 1) (va_up wu1 (x / 64) (wu1 (x / 64) ||| 2 ^ (x % 64))) (va_up fk1 x (e : Int)) (va_up nw1 e (-2)) (by omega) (by
                  first
                  | exact (wS_add hS1 hx (by omega) (fun q => q.elim (fun q => hQ e q he4) (fun q => by omega)) _ (by rw [c59b]; rfl)).congr (fun y _ => ⟨fun q => q.elim (fun q => q.imp id (fun q => ⟨by omega, q.2.1, q.2.2⟩)) (fun q => Or.inr (by rw [q]; exact ⟨Nat.le_refl _, by omega, he4⟩)), fun q => q.elim (fun q => Or.inl (Or.inl q)) (fun q => by
                      rcases Nat.lt_or_ge y k with h1 | h1
                      · rcases Nat.lt_or_ge e y with h2 | h2
                        · exact absurd q.2.2 (he5 y h2 h1)
                        · exact Or.inr (by omega)
                      · exact Or.inl (Or.inr ⟨h1, q.2.1, q.2.2⟩))⟩)
                  | exact hS1.congr (fun y hy => or_congr Iff.rfl ⟨fun q => ⟨by omega, q.2.1, q.2.2⟩, fun q => ⟨by
                      rcases Nat.lt_or_ge y k with h1 | h1
                      · rcases Nat.lt_or_ge e y with h2 | h2
                        · exact absurd q.2.2 (he5 y h2 h1)
                        · rw [show y = e by omega] at hy; omega
                      · exact h1, q.2.1, q.2.2⟩⟩)) (by omega))
              · 
                exact absurd c76 (by decide)
            · 
              have c59b : (wu1 (x / 64)).testBit (x % 64) = true := by
                rw [lc_eq] at c59
                cases hb : (wu1 (x / 64)).testBit (x % 64) with
                | true => rfl
                | false => exact absurd (by rw [and_bit0.mpr hb]; rfl) c59
              refine sq_ok rfl [(.iconst 1, 0, 0, 0), (.goto 4, 0, 0, 0)] 62 _ _ _ _ _ (by decide +kernel) ?_
              show WM mX5_addWordsOut 0 0 Post 27 67 [(0, .ref 0), (1, .ref 11), (2, vI (v : Int)), (3, vI (e : Int)), (4, vI (n : Int)), (5, vI (x : Int)), (6, vJ (((2 ^ (x % 64)) : Nat) : Int))] [vI 1] [ob 5 [vI (cnt : Int), .ref 1, .ref 2, .ref 3, .ref 4, .ref 25, .ref 26, vI (arcs : Int), vI (ln : Int), .ref 5, .ref 6, .ref 7, .ref 8, .ref 9, .ref 10], cK 300 wy, cN 300 fa, cK 300 fw, cN 301 as_, cK 2107 me, cI 401 fb, cI 300 nb, cK 4 wu1, cI 200 fk1, cI 512 nw1, ob 1 [.ref 12, .ref 13, .ref 14, .ref 15, .ref 16, .ref 17, .ref 18, .ref 19, .ref 20, .ref 21, .ref 22, .ref 23, .ref 24, vI (nn : Int), vI (ne : Int), vI (nm : Int)], cN 512 fr, cN 512 to, cI 512 wo, cN 512 te, cZ 512 hv, cI 401 fo, cI 512 no, cN 16 mb, cN 16 mw, cI 16 ml, cN 16 ma, cI 16 sk, cN 17 bo, cN nA aw, cN nA at_] 0 0
              refine sq_ok rfl [(.istore 8, 0, 0, 0), (.aload_n 0, 0, 0, 0), (.getfield 46, 5, 14, 0), (.iload_n 3, 0, 0, 0), (.iload 8, 0, 0, 0), (.ifCond .eq 13, 0, 0, 0)] 67 _ _ _ _ _ (by decide +kernel) ?_
              show (kI 1 = kI 0 → WM mX5_addWordsOut 0 0 Post 27 89 [(0, .ref 0), (1, .ref 11), (2, vI (v : Int)), (3, vI (e : Int)), (4, vI (n : Int)), (5, vI (x : Int)), (6, vJ (((2 ^ (x % 64)) : Nat) : Int)), (8, vI 1)] [vI (e : Int), .ref 10] [ob 5 [vI (cnt : Int), .ref 1, .ref 2, .ref 3, .ref 4, .ref 25, .ref 26, vI (arcs : Int), vI (ln : Int), .ref 5, .ref 6, .ref 7, .ref 8, .ref 9, .ref 10], cK 300 wy, cN 300 fa, cK 300 fw, cN 301 as_, cK 2107 me, cI 401 fb, cI 300 nb, cK 4 wu1, cI 200 fk1, cI 512 nw1, ob 1 [.ref 12, .ref 13, .ref 14, .ref 15, .ref 16, .ref 17, .ref 18, .ref 19, .ref 20, .ref 21, .ref 22, .ref 23, .ref 24, vI (nn : Int), vI (ne : Int), vI (nm : Int)], cN 512 fr, cN 512 to, cI 512 wo, cN 512 te, cZ 512 hv, cI 401 fo, cI 512 no, cN 16 mb, cN 16 mw, cI 16 ml, cN 16 ma, cI 16 sk, cN 17 bo, cN nA aw, cN nA at_] 0 0) ∧ (¬ kI 1 = kI 0 → WM mX5_addWordsOut 0 0 Post 27 79 [(0, .ref 0), (1, .ref 11), (2, vI (v : Int)), (3, vI (e : Int)), (4, vI (n : Int)), (5, vI (x : Int)), (6, vJ (((2 ^ (x % 64)) : Nat) : Int)), (8, vI 1)] [vI (e : Int), .ref 10] [ob 5 [vI (cnt : Int), .ref 1, .ref 2, .ref 3, .ref 4, .ref 25, .ref 26, vI (arcs : Int), vI (ln : Int), .ref 5, .ref 6, .ref 7, .ref 8, .ref 9, .ref 10], cK 300 wy, cN 300 fa, cK 300 fw, cN 301 as_, cK 2107 me, cI 401 fb, cI 300 nb, cK 4 wu1, cI 200 fk1, cI 512 nw1, ob 1 [.ref 12, .ref 13, .ref 14, .ref 15, .ref 16, .ref 17, .ref 18, .ref 19, .ref 20, .ref 21, .ref 22, .ref 23, .ref 24, vI (nn : Int), vI (ne : Int), vI (nm : Int)], cN 512 fr, cN 512 to, cI 512 wo, cN 512 te, cZ 512 hv, cI 401 fo, cI 512 no, cN 16 mb, cN 16 mw, cI 16 ml, cN 16 ma, cI 16 sk, cN 17 bo, cN nA aw, cN nA at_] 0 0)
              refine ⟨fun c76 => ?_, fun c76 => ?_⟩
              · 
                exact absurd c76 (by decide)
              · 
                rw [kI_eq (by omega)] at c76
                refine sq_ok rfl [(.aload_n 0, 0, 0, 0), (.getfield 43, 5, 13, 0), (.iload 5, 0, 0, 0), (.iaload, 0, 0, 0), (.goto 5, 0, 0, 0)] 79 _ _ _ _ _ (by decide +kernel) ?_
                show ∃ j85 : Nat, mj 200 (kI (x : Int)) j85 ∧ WM mX5_addWordsOut 0 0 Post 27 91 [(0, .ref 0), (1, .ref 11), (2, vI (v : Int)), (3, vI (e : Int)), (4, vI (n : Int)), (5, vI (x : Int)), (6, vJ (((2 ^ (x % 64)) : Nat) : Int)), (8, vI 1)] [vI (fk1 j85), vI (e : Int), .ref 10] [ob 5 [vI (cnt : Int), .ref 1, .ref 2, .ref 3, .ref 4, .ref 25, .ref 26, vI (arcs : Int), vI (ln : Int), .ref 5, .ref 6, .ref 7, .ref 8, .ref 9, .ref 10], cK 300 wy, cN 300 fa, cK 300 fw, cN 301 as_, cK 2107 me, cI 401 fb, cI 300 nb, cK 4 wu1, cI 200 fk1, cI 512 nw1, ob 1 [.ref 12, .ref 13, .ref 14, .ref 15, .ref 16, .ref 17, .ref 18, .ref 19, .ref 20, .ref 21, .ref 22, .ref 23, .ref 24, vI (nn : Int), vI (ne : Int), vI (nm : Int)], cN 512 fr, cN 512 to, cI 512 wo, cN 512 te, cZ 512 hv, cI 401 fo, cI 512 no, cN 16 mb, cN 16 mw, cI 16 ml, cN 16 ma, cI 16 sk, cN 17 bo, cN nA aw, cN nA at_] 0 0
                refine ⟨x, ⟨by omega, by omega, rfl⟩, ?_⟩
                refine sq_ok rfl [(.iastore, 0, 0, 0)] 91 _ _ _ _ _ (by decide +kernel) ?_
                show ∃ (j91 : Nat) (g91 : Nat → Int32), (mj 512 (kI (e : Int)) j91 ∧ g91 = upd (fun q => kI (nw1 q)) j91 (kI (fk1 x))) ∧ WM mX5_addWordsOut 0 0 Post 27 92 [(0, .ref 0), (1, .ref 11), (2, vI (v : Int)), (3, vI (e : Int)), (4, vI (n : Int)), (5, vI (x : Int)), (6, vJ (((2 ^ (x % 64)) : Nat) : Int)), (8, vI 1)] [] [ob 5 [vI (cnt : Int), .ref 1, .ref 2, .ref 3, .ref 4, .ref 25, .ref 26, vI (arcs : Int), vI (ln : Int), .ref 5, .ref 6, .ref 7, .ref 8, .ref 9, .ref 10], cK 300 wy, cN 300 fa, cK 300 fw, cN 301 as_, cK 2107 me, cI 401 fb, cI 300 nb, cK 4 wu1, cI 200 fk1, .inl (0, 512, .inl g91), ob 1 [.ref 12, .ref 13, .ref 14, .ref 15, .ref 16, .ref 17, .ref 18, .ref 19, .ref 20, .ref 21, .ref 22, .ref 23, .ref 24, vI (nn : Int), vI (ne : Int), vI (nm : Int)], cN 512 fr, cN 512 to, cI 512 wo, cN 512 te, cZ 512 hv, cI 401 fo, cI 512 no, cN 16 mb, cN 16 mw, cI 16 ml, cN 16 ma, cI 16 sk, cN 17 bo, cN nA aw, cN nA at_] 0 0
                refine ⟨e, fun q => kI ((va_up nw1 e (fk1 x)) q), ⟨⟨by omega, by omega, rfl⟩, st_I (rfl)⟩, ?_⟩
                refine sq_ok rfl [(.aload_n 0, 0, 0, 0), (.getfield 43, 5, 13, 0), (.iload 5, 0, 0, 0), (.iload_n 3, 0, 0, 0), (.iastore, 0, 0, 0)] 92 _ _ _ _ _ (by decide +kernel) ?_
                show ∃ (j99 : Nat) (g99 : Nat → Int32), (mj 200 (kI (x : Int)) j99 ∧ g99 = upd (fun q => kI (fk1 q)) j99 (kI (e : Int))) ∧ WM mX5_addWordsOut 0 0 Post 27 100 [(0, .ref 0), (1, .ref 11), (2, vI (v : Int)), (3, vI (e : Int)), (4, vI (n : Int)), (5, vI (x : Int)), (6, vJ (((2 ^ (x % 64)) : Nat) : Int)), (8, vI 1)] [] [ob 5 [vI (cnt : Int), .ref 1, .ref 2, .ref 3, .ref 4, .ref 25, .ref 26, vI (arcs : Int), vI (ln : Int), .ref 5, .ref 6, .ref 7, .ref 8, .ref 9, .ref 10], cK 300 wy, cN 300 fa, cK 300 fw, cN 301 as_, cK 2107 me, cI 401 fb, cI 300 nb, cK 4 wu1, .inl (0, 200, .inl g99), cI 512 (va_up nw1 e (fk1 x)), ob 1 [.ref 12, .ref 13, .ref 14, .ref 15, .ref 16, .ref 17, .ref 18, .ref 19, .ref 20, .ref 21, .ref 22, .ref 23, .ref 24, vI (nn : Int), vI (ne : Int), vI (nm : Int)], cN 512 fr, cN 512 to, cI 512 wo, cN 512 te, cZ 512 hv, cI 401 fo, cI 512 no, cN 16 mb, cN 16 mw, cI 16 ml, cN 16 ma, cI 16 sk, cN 17 bo, cN nA aw, cN nA at_] 0 0
                refine ⟨x, fun q => kI ((va_up fk1 x (e : Int)) q), ⟨⟨by omega, by omega, rfl⟩, st_I (rfl)⟩, ?_⟩
                refine sq_ok rfl [(.aload_n 0, 0, 0, 0), (.getfield 40, 5, 12, 0), (.iload 5, 0, 0, 0), (.bipush 6, 0, 0, 0), (.iushr, 0, 0, 0)] 100 _ _ _ _ _ (by decide +kernel) ?_
                show WM mX5_addWordsOut 0 0 Post 27 109 [(0, .ref 0), (1, .ref 11), (2, vI (v : Int)), (3, vI (e : Int)), (4, vI (n : Int)), (5, vI (x : Int)), (6, vJ (((2 ^ (x % 64)) : Nat) : Int)), (8, vI 1)] [.int (((kI (x : Int)).toUInt32 >>> ((kI 6).toUInt32 &&& Int32.toUInt32 31)).toInt32), .ref 8] [ob 5 [vI (cnt : Int), .ref 1, .ref 2, .ref 3, .ref 4, .ref 25, .ref 26, vI (arcs : Int), vI (ln : Int), .ref 5, .ref 6, .ref 7, .ref 8, .ref 9, .ref 10], cK 300 wy, cN 300 fa, cK 300 fw, cN 301 as_, cK 2107 me, cI 401 fb, cI 300 nb, cK 4 wu1, cI 200 (va_up fk1 x (e : Int)), cI 512 (va_up nw1 e (fk1 x)), ob 1 [.ref 12, .ref 13, .ref 14, .ref 15, .ref 16, .ref 17, .ref 18, .ref 19, .ref 20, .ref 21, .ref 22, .ref 23, .ref 24, vI (nn : Int), vI (ne : Int), vI (nm : Int)], cN 512 fr, cN 512 to, cI 512 wo, cN 512 te, cZ 512 hv, cI 401 fo, cI 512 no, cN 16 mb, cN 16 mw, cI 16 ml, cN 16 ma, cI 16 sk, cN 17 bo, cN nA aw, cN nA at_] 0 0
                have e18 : ((kI (x : Int)).toUInt32 >>> ((kI 6).toUInt32 &&& Int32.toUInt32 31)).toInt32 = kI (((x / 64) : Nat) : Int) := by exact kI_ush6 (by omega)
                rw [e18]
                refine sq_ok rfl [(.dup2, 0, 0, 0), (.laload, 0, 0, 0), (.lload 6, 0, 0, 0), (.lor, 0, 0, 0)] 109 _ _ _ _ _ (by decide +kernel) ?_
                show ∃ j110 : Nat, mj 4 (kI (((x / 64) : Nat) : Int)) j110 ∧ WM mX5_addWordsOut 0 0 Post 27 114 [(0, .ref 0), (1, .ref 11), (2, vI (v : Int)), (3, vI (e : Int)), (4, vI (n : Int)), (5, vI (x : Int)), (6, vJ (((2 ^ (x % 64)) : Nat) : Int)), (8, vI 1)] [.long ((kL ((wu1 j110 : Nat) : Int)) ||| (kL (((2 ^ (x % 64)) : Nat) : Int))), vI (((x / 64) : Nat) : Int), .ref 8] [ob 5 [vI (cnt : Int), .ref 1, .ref 2, .ref 3, .ref 4, .ref 25, .ref 26, vI (arcs : Int), vI (ln : Int), .ref 5, .ref 6, .ref 7, .ref 8, .ref 9, .ref 10], cK 300 wy, cN 300 fa, cK 300 fw, cN 301 as_, cK 2107 me, cI 401 fb, cI 300 nb, cK 4 wu1, cI 200 (va_up fk1 x (e : Int)), cI 512 (va_up nw1 e (fk1 x)), ob 1 [.ref 12, .ref 13, .ref 14, .ref 15, .ref 16, .ref 17, .ref 18, .ref 19, .ref 20, .ref 21, .ref 22, .ref 23, .ref 24, vI (nn : Int), vI (ne : Int), vI (nm : Int)], cN 512 fr, cN 512 to, cI 512 wo, cN 512 te, cZ 512 hv, cI 401 fo, cI 512 no, cN 16 mb, cN 16 mw, cI 16 ml, cN 16 ma, cI 16 sk, cN 17 bo, cN nA aw, cN nA at_] 0 0
                refine ⟨(x / 64), ⟨by omega, by omega, rfl⟩, ?_⟩
                have e19 : ((kL ((wu1 (x / 64) : Nat) : Int)) ||| (kL (((2 ^ (x % 64)) : Nat) : Int))) = kL (((wu1 (x / 64) ||| 2 ^ (x % 64)) : Nat) : Int) := by exact kL_or hm0 hp0
                rw [e19]
                refine sq_ok rfl [(.lastore, 0, 0, 0)] 114 _ _ _ _ _ (by decide +kernel) ?_
                show ∃ (j114 : Nat) (g114 : Nat → Int64), (mj 4 (kI (((x / 64) : Nat) : Int)) j114 ∧ g114 = vp_updL (fun q => kL ((wu1 q : Nat) : Int)) j114 (kL (((wu1 (x / 64) ||| 2 ^ (x % 64)) : Nat) : Int))) ∧ WM mX5_addWordsOut 0 0 Post 27 115 [(0, .ref 0), (1, .ref 11), (2, vI (v : Int)), (3, vI (e : Int)), (4, vI (n : Int)), (5, vI (x : Int)), (6, vJ (((2 ^ (x % 64)) : Nat) : Int)), (8, vI 1)] [] [ob 5 [vI (cnt : Int), .ref 1, .ref 2, .ref 3, .ref 4, .ref 25, .ref 26, vI (arcs : Int), vI (ln : Int), .ref 5, .ref 6, .ref 7, .ref 8, .ref 9, .ref 10], cK 300 wy, cN 300 fa, cK 300 fw, cN 301 as_, cK 2107 me, cI 401 fb, cI 300 nb, .inl (1, 4, .inr (.inl g114)), cI 200 (va_up fk1 x (e : Int)), cI 512 (va_up nw1 e (fk1 x)), ob 1 [.ref 12, .ref 13, .ref 14, .ref 15, .ref 16, .ref 17, .ref 18, .ref 19, .ref 20, .ref 21, .ref 22, .ref 23, .ref 24, vI (nn : Int), vI (ne : Int), vI (nm : Int)], cN 512 fr, cN 512 to, cI 512 wo, cN 512 te, cZ 512 hv, cI 401 fo, cI 512 no, cN 16 mb, cN 16 mw, cI 16 ml, cN 16 ma, cI 16 sk, cN 17 bo, cN nA aw, cN nA at_] 0 0
                refine ⟨(x / 64), fun q => kL (((va_up wu1 (x / 64) (wu1 (x / 64) ||| 2 ^ (x % 64))) q : Nat) : Int), ⟨⟨by omega, by omega, rfl⟩, st_K (rfl)⟩, ?_⟩
                have hnx : no e = oI (lstE fr v e) := by rw [hG.2.1 e (by omega), he4]
                refine sq_ok rfl [(.aload_n 1, 0, 0, 0), (.getfield 119, 1, 6, 0), (.iload_n 3, 0, 0, 0), (.iaload, 0, 0, 0)] 115 _ _ _ _ _ (by decide +kernel) ?_
                show ∃ j120 : Nat, mj 512 (kI (e : Int)) j120 ∧ WM mX5_addWordsOut 0 0 Post 27 121 [(0, .ref 0), (1, .ref 11), (2, vI (v : Int)), (3, vI (e : Int)), (4, vI (n : Int)), (5, vI (x : Int)), (6, vJ (((2 ^ (x % 64)) : Nat) : Int)), (8, vI 1)] [.int (kI (no j120))] [ob 5 [vI (cnt : Int), .ref 1, .ref 2, .ref 3, .ref 4, .ref 25, .ref 26, vI (arcs : Int), vI (ln : Int), .ref 5, .ref 6, .ref 7, .ref 8, .ref 9, .ref 10], cK 300 wy, cN 300 fa, cK 300 fw, cN 301 as_, cK 2107 me, cI 401 fb, cI 300 nb, cK 4 (va_up wu1 (x / 64) (wu1 (x / 64) ||| 2 ^ (x % 64))), cI 200 (va_up fk1 x (e : Int)), cI 512 (va_up nw1 e (fk1 x)), ob 1 [.ref 12, .ref 13, .ref 14, .ref 15, .ref 16, .ref 17, .ref 18, .ref 19, .ref 20, .ref 21, .ref 22, .ref 23, .ref 24, vI (nn : Int), vI (ne : Int), vI (nm : Int)], cN 512 fr, cN 512 to, cI 512 wo, cN 512 te, cZ 512 hv, cI 401 fo, cI 512 no, cN 16 mb, cN 16 mw, cI 16 ml, cN 16 ma, cI 16 sk, cN 17 bo, cN nA aw, cN nA at_] 0 0
                refine ⟨e, ⟨by omega, by omega, rfl⟩, ?_⟩
                have e20 : kI (no e) = kI (oI (lstE fr v e)) := by rw [hnx]
                rw [e20]
                refine sq_ok rfl [(.istore_n 3, 0, 0, 0), (.iinc 4 1, 0, 0, 0), (.goto (-115), 0, 0, 0)] 121 _ _ _ _ _ (by decide +kernel) ?_
                show WM mX5_addWordsOut 0 0 Post 27 10 [(0, .ref 0), (1, .ref 11), (2, vI (v : Int)), (3, vI (oI (lstE fr v e))), (4, .int ((kI (n : Int)) + (kI 1))), (5, vI (x : Int)), (6, vJ (((2 ^ (x % 64)) : Nat) : Int)), (8, vI 1)] [] [ob 5 [vI (cnt : Int), .ref 1, .ref 2, .ref 3, .ref 4, .ref 25, .ref 26, vI (arcs : Int), vI (ln : Int), .ref 5, .ref 6, .ref 7, .ref 8, .ref 9, .ref 10], cK 300 wy, cN 300 fa, cK 300 fw, cN 301 as_, cK 2107 me, cI 401 fb, cI 300 nb, cK 4 (va_up wu1 (x / 64) (wu1 (x / 64) ||| 2 ^ (x % 64))), cI 200 (va_up fk1 x (e : Int)), cI 512 (va_up nw1 e (fk1 x)), ob 1 [.ref 12, .ref 13, .ref 14, .ref 15, .ref 16, .ref 17, .ref 18, .ref 19, .ref 20, .ref 21, .ref 22, .ref 23, .ref 24, vI (nn : Int), vI (ne : Int), vI (nm : Int)], cN 512 fr, cN 512 to, cI 512 wo, cN 512 te, cZ 512 hv, cI 401 fo, cI 512 no, cN 16 mb, cN 16 mw, cI 16 ml, cN 16 ma, cI 16 sk, cN 17 bo, cN nA aw, cN nA at_] 0 0
                have e21 : ((kI (n : Int)) + (kI 1)) = kI (((n + 1) : Nat) : Int) := by first | (simp only [kI_add, kI_sub, kI_mul]; done) | (simp only [kI_add, kI_sub, kI_mul]; rfl)
                rw [e21]
                exact WM.pick [0, 1, 2, 3, 4] rfl (ih10 e (n + 1) (va_up wu1 (x / 64) (wu1 (x / 64) ||| 2 ^ (x % 64))) (va_up fk1 x (e : Int)) (va_up nw1 e (fk1 x)) (by omega) (by
                  first
                  | exact (wS_add hS1 hx (by omega) (fun q => q.elim (fun q => hQ e q he4) (fun q => by omega)) _ (by rw [c59b]; rfl)).congr (fun y _ => ⟨fun q => q.elim (fun q => q.imp id (fun q => ⟨by omega, q.2.1, q.2.2⟩)) (fun q => Or.inr (by rw [q]; exact ⟨Nat.le_refl _, by omega, he4⟩)), fun q => q.elim (fun q => Or.inl (Or.inl q)) (fun q => by
                      rcases Nat.lt_or_ge y k with h1 | h1
                      · rcases Nat.lt_or_ge e y with h2 | h2
                        · exact absurd q.2.2 (he5 y h2 h1)
                        · exact Or.inr (by omega)
                      · exact Or.inl (Or.inr ⟨h1, q.2.1, q.2.2⟩))⟩)
                  | exact hS1.congr (fun y hy => or_congr Iff.rfl ⟨fun q => ⟨by omega, q.2.1, q.2.2⟩, fun q => ⟨by
                      rcases Nat.lt_or_ge y k with h1 | h1
                      · rcases Nat.lt_or_ge e y with h2 | h2
                        · exact absurd q.2.2 (he5 y h2 h1)
                        · rw [show y = e by omega] at hy; omega
                      · exact h1, q.2.1, q.2.2⟩⟩)) (by omega))
  exact WM.pick [0, 1, 2, 3, 4] rfl (lp10 _ ne 0 wu fk nw (by omega) (hS.congr (fun e _ => ⟨Or.inl, fun q => q.elim id (fun q => by omega)⟩)) (Nat.lt_succ_self _))

theorem mS_at {me : Nat → Nat} (hme : ∀ j, me j < 18446744073709551616) (s i b : Nat) (hi : i < 7) (hb : b < 64) : (mS me s).testBit (64 * i + b) = (me (7 * s + i)).testBit b := by
  rw [mS_bit hme, decide_eq_true (by omega), Bool.true_and, show (64 * i + b) / 64 = i by omega, show (64 * i + b) % 64 = b by omega]

set_option maxRecDepth 100000 in
set_option maxHeartbeats 500000 in
theorem c_X5_findWordsOut (cnt : Nat) (wy fa fw as_ aw at_ : Nat → Nat) (nA arcs ln : Nat) (me : Nat → Nat) (fb nb : Nat → Int) (wu : Nat → Nat) (fk nw : Nat → Int) (fr to : Nat → Nat) (wo : Nat → Int) (te : Nat → Nat) (hv : Nat → Bool) (fo no : Nat → Int) (mb mw : Nat → Nat) (ml : Nat → Int) (ma : Nat → Nat) (sk : Nat → Int) (bo : Nat → Nat) (nn ne nm : Nat) (hne : ne ≤ 512) (hnn : nn ≤ 401) (hG : chn fr fo no nn ne) (hwo : ∀ e, e < ne → -2 ≤ wo e ∧ wo e < 200) (hme : ∀ j, me j < 18446744073709551616) (s : Nat) (hs : s ≤ 300) (hSn : ∀ v, (mS me s).testBit v = true → v < nn) : CT mX5_findWordsOut 0 0 [.ref 0, .ref 11, vI (s : Int)] [ob 5 [vI (cnt : Int), .ref 1, .ref 2, .ref 3, .ref 4, .ref 25, .ref 26, vI (arcs : Int), vI (ln : Int), .ref 5, .ref 6, .ref 7, .ref 8, .ref 9, .ref 10], cK 300 wy, cN 300 fa, cK 300 fw, cN 301 as_, cK 2107 me, cI 401 fb, cI 300 nb, cK 4 wu, cI 200 fk, cI 512 nw, ob 1 [.ref 12, .ref 13, .ref 14, .ref 15, .ref 16, .ref 17, .ref 18, .ref 19, .ref 20, .ref 21, .ref 22, .ref 23, .ref 24, vI (nn : Int), vI (ne : Int), vI (nm : Int)], cN 512 fr, cN 512 to, cI 512 wo, cN 512 te, cZ 512 hv, cI 401 fo, cI 512 no, cN 16 mb, cN 16 mw, cI 16 ml, cN 16 ma, cI 16 sk, cN 17 bo, cN nA aw, cN nA at_] (fun r w => ∃ (wu2 : Nat → Nat) (fk2 nw2 : Nat → Int), r = none ∧ w = [ob 5 [vI (cnt : Int), .ref 1, .ref 2, .ref 3, .ref 4, .ref 25, .ref 26, vI (arcs : Int), vI (ln : Int), .ref 5, .ref 6, .ref 7, .ref 8, .ref 9, .ref 10], cK 300 wy, cN 300 fa, cK 300 fw, cN 301 as_, cK 2107 me, cI 401 fb, cI 300 nb, cK 4 wu2, cI 200 fk2, cI 512 nw2, ob 1 [.ref 12, .ref 13, .ref 14, .ref 15, .ref 16, .ref 17, .ref 18, .ref 19, .ref 20, .ref 21, .ref 22, .ref 23, .ref 24, vI (nn : Int), vI (ne : Int), vI (nm : Int)], cN 512 fr, cN 512 to, cI 512 wo, cN 512 te, cZ 512 hv, cI 401 fo, cI 512 no, cN 16 mb, cN 16 mw, cI 16 ml, cN 16 ma, cI 16 sk, cN 17 bo, cN nA aw, cN nA at_] ∧ wS wo (fun e => e < ne ∧ (mS me s).testBit (fr e) = true) wu2 fk2 nw2) := by
  refine CT.intro rfl (Nat.le_of_ble_eq_true rfl) ?_
  generalize hPost : (fun r w => ∃ (wu2 : Nat → Nat) (fk2 nw2 : Nat → Int), r = none ∧ w = [ob 5 [vI (cnt : Int), .ref 1, .ref 2, .ref 3, .ref 4, .ref 25, .ref 26, vI (arcs : Int), vI (ln : Int), .ref 5, .ref 6, .ref 7, .ref 8, .ref 9, .ref 10], cK 300 wy, cN 300 fa, cK 300 fw, cN 301 as_, cK 2107 me, cI 401 fb, cI 300 nb, cK 4 wu2, cI 200 fk2, cI 512 nw2, ob 1 [.ref 12, .ref 13, .ref 14, .ref 15, .ref 16, .ref 17, .ref 18, .ref 19, .ref 20, .ref 21, .ref 22, .ref 23, .ref 24, vI (nn : Int), vI (ne : Int), vI (nm : Int)], cN 512 fr, cN 512 to, cI 512 wo, cN 512 te, cZ 512 hv, cI 401 fo, cI 512 no, cN 16 mb, cN 16 mw, cI 16 ml, cN 16 ma, cI 16 sk, cN 17 bo, cN nA aw, cN nA at_] ∧ wS wo (fun e => e < ne ∧ (mS me s).testBit (fr e) = true) wu2 fk2 nw2 : MP) = Post
  have hPo : ∀ rr ww, (fun r w => ∃ (wu2 : Nat → Nat) (fk2 nw2 : Nat → Int), r = none ∧ w = [ob 5 [vI (cnt : Int), .ref 1, .ref 2, .ref 3, .ref 4, .ref 25, .ref 26, vI (arcs : Int), vI (ln : Int), .ref 5, .ref 6, .ref 7, .ref 8, .ref 9, .ref 10], cK 300 wy, cN 300 fa, cK 300 fw, cN 301 as_, cK 2107 me, cI 401 fb, cI 300 nb, cK 4 wu2, cI 200 fk2, cI 512 nw2, ob 1 [.ref 12, .ref 13, .ref 14, .ref 15, .ref 16, .ref 17, .ref 18, .ref 19, .ref 20, .ref 21, .ref 22, .ref 23, .ref 24, vI (nn : Int), vI (ne : Int), vI (nm : Int)], cN 512 fr, cN 512 to, cI 512 wo, cN 512 te, cZ 512 hv, cI 401 fo, cI 512 no, cN 16 mb, cN 16 mw, cI 16 ml, cN 16 ma, cI 16 sk, cN 17 bo, cN nA aw, cN nA at_] ∧ wS wo (fun e => e < ne ∧ (mS me s).testBit (fr e) = true) wu2 fk2 nw2 : MP) rr ww → Post rr ww := by rw [← hPost]; exact fun _ _ h => h
  clear hPost
  show WM mX5_findWordsOut 0 0 Post 27 0 [(0, .ref 0), (1, .ref 11), (2, vI (s : Int))] [] [ob 5 [vI (cnt : Int), .ref 1, .ref 2, .ref 3, .ref 4, .ref 25, .ref 26, vI (arcs : Int), vI (ln : Int), .ref 5, .ref 6, .ref 7, .ref 8, .ref 9, .ref 10], cK 300 wy, cN 300 fa, cK 300 fw, cN 301 as_, cK 2107 me, cI 401 fb, cI 300 nb, cK 4 wu, cI 200 fk, cI 512 nw, ob 1 [.ref 12, .ref 13, .ref 14, .ref 15, .ref 16, .ref 17, .ref 18, .ref 19, .ref 20, .ref 21, .ref 22, .ref 23, .ref 24, vI (nn : Int), vI (ne : Int), vI (nm : Int)], cN 512 fr, cN 512 to, cI 512 wo, cN 512 te, cZ 512 hv, cI 401 fo, cI 512 no, cN 16 mb, cN 16 mw, cI 16 ml, cN 16 ma, cI 16 sk, cN 17 bo, cN nA aw, cN nA at_] 0 0
  refine sq_ok rfl [(.aload_n 0, 0, 0, 0), (.getfield 40, 5, 12, 0), (.lconst 0, 0, 0, 0)] 0 _ _ _ _ _ (by decide +kernel) ?_
  show WM mX5_findWordsOut 0 0 Post 27 5 [(0, .ref 0), (1, .ref 11), (2, vI (s : Int))] [vJ 0, .ref 8] [ob 5 [vI (cnt : Int), .ref 1, .ref 2, .ref 3, .ref 4, .ref 25, .ref 26, vI (arcs : Int), vI (ln : Int), .ref 5, .ref 6, .ref 7, .ref 8, .ref 9, .ref 10], cK 300 wy, cN 300 fa, cK 300 fw, cN 301 as_, cK 2107 me, cI 401 fb, cI 300 nb, cK 4 wu, cI 200 fk, cI 512 nw, ob 1 [.ref 12, .ref 13, .ref 14, .ref 15, .ref 16, .ref 17, .ref 18, .ref 19, .ref 20, .ref 21, .ref 22, .ref 23, .ref 24, vI (nn : Int), vI (ne : Int), vI (nm : Int)], cN 512 fr, cN 512 to, cI 512 wo, cN 512 te, cZ 512 hv, cI 401 fo, cI 512 no, cN 16 mb, cN 16 mw, cI 16 ml, cN 16 ma, cI 16 sk, cN 17 bo, cN nA aw, cN nA at_] 0 0
  refine wm_callS (y := mX5_findWordsOut) mJ7_fill_d0a16 [8] (pc := 5) (rest := []) (mc' := 0) (ms' := 0) (by decide +kernel) kX5_98 (c_fillJ 4 (by omega) (fun q => ((wu q : Nat) : Int)) 0) rfl ⟨Nat.le_of_ble_eq_true rfl, Nat.le_of_ble_eq_true rfl⟩ ⟨Nat.le_of_ble_eq_true rfl, Nat.le_of_ble_eq_true rfl⟩ (Nat.le_of_ble_eq_true rfl) rfl rfl (Nat.le_of_ble_eq_true rfl) rfl ?_
  rintro _ _ ⟨rfl, rfl⟩
  obtain ⟨wz, hwz⟩ : ∃ wz : Nat → Nat, wz = fun q => if q < 4 then 0 else wu q := ⟨_, rfl⟩
  have ef : (fun q => if q < 4 then (0 : Int) else (fun q => ((wu q : Nat) : Int)) q) = fun q => ((wz q : Nat) : Int) := by subst hwz; funext q; dsimp only; split <;> rfl
  rw [ef]
  show WM mX5_findWordsOut 0 0 Post 27 8 [(0, .ref 0), (1, .ref 11), (2, vI (s : Int))] [] [ob 5 [vI (cnt : Int), .ref 1, .ref 2, .ref 3, .ref 4, .ref 25, .ref 26, vI (arcs : Int), vI (ln : Int), .ref 5, .ref 6, .ref 7, .ref 8, .ref 9, .ref 10], cK 300 wy, cN 300 fa, cK 300 fw, cN 301 as_, cK 2107 me, cI 401 fb, cI 300 nb, cK 4 wz, cI 200 fk, cI 512 nw, ob 1 [.ref 12, .ref 13, .ref 14, .ref 15, .ref 16, .ref 17, .ref 18, .ref 19, .ref 20, .ref 21, .ref 22, .ref 23, .ref 24, vI (nn : Int), vI (ne : Int), vI (nm : Int)], cN 512 fr, cN 512 to, cI 512 wo, cN 512 te, cZ 512 hv, cI 401 fo, cI 512 no, cN 16 mb, cN 16 mw, cI 16 ml, cN 16 ma, cI 16 sk, cN 17 bo, cN nA aw, cN nA at_] 0 0
  refine sq_ok rfl [(.iconst 0, 0, 0, 0), (.istore_n 3, 0, 0, 0)] 8 _ _ _ _ _ (by decide +kernel) ?_
  show WM mX5_findWordsOut 0 0 Post 27 10 [(0, .ref 0), (1, .ref 11), (2, vI (s : Int)), (3, vI 0)] [] [ob 5 [vI (cnt : Int), .ref 1, .ref 2, .ref 3, .ref 4, .ref 25, .ref 26, vI (arcs : Int), vI (ln : Int), .ref 5, .ref 6, .ref 7, .ref 8, .ref 9, .ref 10], cK 300 wy, cN 300 fa, cK 300 fw, cN 301 as_, cK 2107 me, cI 401 fb, cI 300 nb, cK 4 wz, cI 200 fk, cI 512 nw, ob 1 [.ref 12, .ref 13, .ref 14, .ref 15, .ref 16, .ref 17, .ref 18, .ref 19, .ref 20, .ref 21, .ref 22, .ref 23, .ref 24, vI (nn : Int), vI (ne : Int), vI (nm : Int)], cN 512 fr, cN 512 to, cI 512 wo, cN 512 te, cZ 512 hv, cI 401 fo, cI 512 no, cN 16 mb, cN 16 mw, cI 16 ml, cN 16 ma, cI 16 sk, cN 17 bo, cN nA aw, cN nA at_] 0 0
  have lp10 : ∀ (n10 : Nat) (i : Nat) (wu1 : Nat → Nat) (fk1 : Nat → Int) (nw1 : Nat → Int), (i ≤ 7) → (wS wo (fun e => e < ne ∧ (mS me s).testBit (fr e) = true ∧ fr e < 64 * i) wu1 fk1 nw1) → (7 - i) < n10 → WM mX5_findWordsOut 0 0 Post 27 10 [(0, .ref 0), (1, .ref 11), (2, vI (s : Int)), (3, vI (i : Int))] [] [ob 5 [vI (cnt : Int), .ref 1, .ref 2, .ref 3, .ref 4, .ref 25, .ref 26, vI (arcs : Int), vI (ln : Int), .ref 5, .ref 6, .ref 7, .ref 8, .ref 9, .ref 10], cK 300 wy, cN 300 fa, cK 300 fw, cN 301 as_, cK 2107 me, cI 401 fb, cI 300 nb, cK 4 wu1, cI 200 fk1, cI 512 nw1, ob 1 [.ref 12, .ref 13, .ref 14, .ref 15, .ref 16, .ref 17, .ref 18, .ref 19, .ref 20, .ref 21, .ref 22, .ref 23, .ref 24, vI (nn : Int), vI (ne : Int), vI (nm : Int)], cN 512 fr, cN 512 to, cI 512 wo, cN 512 te, cZ 512 hv, cI 401 fo, cI 512 no, cN 16 mb, cN 16 mw, cI 16 ml, cN 16 ma, cI 16 sk, cN 17 bo, cN nA aw, cN nA at_] 0 0 := by
    intro n10
    induction n10 with
    | zero => intro i wu1 fk1 nw1 hi hS1 hm; exact absurd hm (Nat.not_lt_zero _)
    | succ n10 ih10 =>
      intro i wu1 fk1 nw1 hi hS1 hm10
      refine sq_ok rfl [(.iload_n 3, 0, 0, 0), (.bipush 7, 0, 0, 0), (.if_icmp .ge 64, 0, 0, 0)] 10 _ _ _ _ _ (by decide +kernel) ?_
      show (kI 7 ≤ kI (i : Int) → WM mX5_findWordsOut 0 0 Post 27 77 [(0, .ref 0), (1, .ref 11), (2, vI (s : Int)), (3, vI (i : Int))] [] [ob 5 [vI (cnt : Int), .ref 1, .ref 2, .ref 3, .ref 4, .ref 25, .ref 26, vI (arcs : Int), vI (ln : Int), .ref 5, .ref 6, .ref 7, .ref 8, .ref 9, .ref 10], cK 300 wy, cN 300 fa, cK 300 fw, cN 301 as_, cK 2107 me, cI 401 fb, cI 300 nb, cK 4 wu1, cI 200 fk1, cI 512 nw1, ob 1 [.ref 12, .ref 13, .ref 14, .ref 15, .ref 16, .ref 17, .ref 18, .ref 19, .ref 20, .ref 21, .ref 22, .ref 23, .ref 24, vI (nn : Int), vI (ne : Int), vI (nm : Int)], cN 512 fr, cN 512 to, cI 512 wo, cN 512 te, cZ 512 hv, cI 401 fo, cI 512 no, cN 16 mb, cN 16 mw, cI 16 ml, cN 16 ma, cI 16 sk, cN 17 bo, cN nA aw, cN nA at_] 0 0) ∧ (¬ kI 7 ≤ kI (i : Int) → WM mX5_findWordsOut 0 0 Post 27 16 [(0, .ref 0), (1, .ref 11), (2, vI (s : Int)), (3, vI (i : Int))] [] [ob 5 [vI (cnt : Int), .ref 1, .ref 2, .ref 3, .ref 4, .ref 25, .ref 26, vI (arcs : Int), vI (ln : Int), .ref 5, .ref 6, .ref 7, .ref 8, .ref 9, .ref 10], cK 300 wy, cN 300 fa, cK 300 fw, cN 301 as_, cK 2107 me, cI 401 fb, cI 300 nb, cK 4 wu1, cI 200 fk1, cI 512 nw1, ob 1 [.ref 12, .ref 13, .ref 14, .ref 15, .ref 16, .ref 17, .ref 18, .ref 19, .ref 20, .ref 21, .ref 22, .ref 23, .ref 24, vI (nn : Int), vI (ne : Int), vI (nm : Int)], cN 512 fr, cN 512 to, cI 512 wo, cN 512 te, cZ 512 hv, cI 401 fo, cI 512 no, cN 16 mb, cN 16 mw, cI 16 ml, cN 16 ma, cI 16 sk, cN 17 bo, cN nA aw, cN nA at_] 0 0)
      refine ⟨fun c13 => ?_, fun c13 => ?_⟩
      · 
        rw [kI_le (by omega)] at c13
        refine sq_ok rfl [(.return_, 0, 0, 0)] 77 _ _ _ _ _ (by decide +kernel) ?_
        show ((0 ≤ 0 ∧ 0 ≤ 0) ∧ Post none [ob 5 [vI (cnt : Int), .ref 1, .ref 2, .ref 3, .ref 4, .ref 25, .ref 26, vI (arcs : Int), vI (ln : Int), .ref 5, .ref 6, .ref 7, .ref 8, .ref 9, .ref 10], cK 300 wy, cN 300 fa, cK 300 fw, cN 301 as_, cK 2107 me, cI 401 fb, cI 300 nb, cK 4 wu1, cI 200 fk1, cI 512 nw1, ob 1 [.ref 12, .ref 13, .ref 14, .ref 15, .ref 16, .ref 17, .ref 18, .ref 19, .ref 20, .ref 21, .ref 22, .ref 23, .ref 24, vI (nn : Int), vI (ne : Int), vI (nm : Int)], cN 512 fr, cN 512 to, cI 512 wo, cN 512 te, cZ 512 hv, cI 401 fo, cI 512 no, cN 16 mb, cN 16 mw, cI 16 ml, cN 16 ma, cI 16 sk, cN 17 bo, cN nA aw, cN nA at_])
        refine ⟨⟨Nat.le_refl _, Nat.le_refl _⟩, hPo _ _ ?_⟩
        refine ⟨wu1, fk1, nw1, rfl, rfl, hS1.congr (fun e _ => ⟨fun q => ⟨q.1, q.2.1⟩, fun q => ⟨q.1, q.2, ?_⟩⟩)⟩
        have := hG.2.2 e q.1
        omega
      · 
        rw [kI_le (by omega)] at c13
        refine sq_ok rfl [(.aload_n 0, 0, 0, 0), (.getfield 31, 5, 9, 0), (.iload_n 2, 0, 0, 0), (.bipush 7, 0, 0, 0), (.imul, 0, 0, 0), (.iload_n 3, 0, 0, 0), (.iadd, 0, 0, 0), (.laload, 0, 0, 0), (.lstore 4, 0, 0, 0), (.lload 4, 0, 0, 0)] 16 _ _ _ _ _ (by decide +kernel) ?_
        show ∃ j26 : Nat, mj 2107 (((kI (s : Int)) * (kI 7)) + (kI (i : Int))) j26 ∧ WM mX5_findWordsOut 0 0 Post 27 31 [(0, .ref 0), (1, .ref 11), (2, vI (s : Int)), (3, vI (i : Int)), (4, vJ ((me j26 : Nat) : Int))] [vJ ((me j26 : Nat) : Int)] [ob 5 [vI (cnt : Int), .ref 1, .ref 2, .ref 3, .ref 4, .ref 25, .ref 26, vI (arcs : Int), vI (ln : Int), .ref 5, .ref 6, .ref 7, .ref 8, .ref 9, .ref 10], cK 300 wy, cN 300 fa, cK 300 fw, cN 301 as_, cK 2107 me, cI 401 fb, cI 300 nb, cK 4 wu1, cI 200 fk1, cI 512 nw1, ob 1 [.ref 12, .ref 13, .ref 14, .ref 15, .ref 16, .ref 17, .ref 18, .ref 19, .ref 20, .ref 21, .ref 22, .ref 23, .ref 24, vI (nn : Int), vI (ne : Int), vI (nm : Int)], cN 512 fr, cN 512 to, cI 512 wo, cN 512 te, cZ 512 hv, cI 401 fo, cI 512 no, cN 16 mb, cN 16 mw, cI 16 ml, cN 16 ma, cI 16 sk, cN 17 bo, cN nA aw, cN nA at_] 0 0
        refine ⟨(7 * s + i), ⟨by omega, by omega, by rw [kI_mul, kI_add]; congr 1; omega⟩, ?_⟩
        refine wm_callS (y := mX5_findWordsOut) mJ13_bitCount_95d88 [] (pc := 31) (rest := []) (mc' := 0) (ms' := 0) (by decide +kernel) kX5_101 (c_bitCount (me (7 * s + i)) (hme _)) rfl ⟨Nat.le_of_ble_eq_true rfl, Nat.le_of_ble_eq_true rfl⟩ ⟨Nat.le_of_ble_eq_true rfl, Nat.le_of_ble_eq_true rfl⟩ (Nat.le_of_ble_eq_true rfl) rfl rfl (Nat.le_of_ble_eq_true rfl) rfl ?_
        rintro _ _ ⟨rfl, rfl⟩
        show WM mX5_findWordsOut 0 0 Post 27 34 [(0, .ref 0), (1, .ref 11), (2, vI (s : Int)), (3, vI (i : Int)), (4, vJ ((me (7 * s + i) : Nat) : Int))] [vI (((bl (me (7 * s + i))).length : Nat) : Int)] [ob 5 [vI (cnt : Int), .ref 1, .ref 2, .ref 3, .ref 4, .ref 25, .ref 26, vI (arcs : Int), vI (ln : Int), .ref 5, .ref 6, .ref 7, .ref 8, .ref 9, .ref 10], cK 300 wy, cN 300 fa, cK 300 fw, cN 301 as_, cK 2107 me, cI 401 fb, cI 300 nb, cK 4 wu1, cI 200 fk1, cI 512 nw1, ob 1 [.ref 12, .ref 13, .ref 14, .ref 15, .ref 16, .ref 17, .ref 18, .ref 19, .ref 20, .ref 21, .ref 22, .ref 23, .ref 24, vI (nn : Int), vI (ne : Int), vI (nm : Int)], cN 512 fr, cN 512 to, cI 512 wo, cN 512 te, cZ 512 hv, cI 401 fo, cI 512 no, cN 16 mb, cN 16 mw, cI 16 ml, cN 16 ma, cI 16 sk, cN 17 bo, cN nA aw, cN nA at_] 0 0
        refine sq_ok rfl [(.istore 6, 0, 0, 0)] 34 _ _ _ _ _ (by decide +kernel) ?_
        show WM mX5_findWordsOut 0 0 Post 27 36 [(0, .ref 0), (1, .ref 11), (2, vI (s : Int)), (3, vI (i : Int)), (4, vJ ((me (7 * s + i) : Nat) : Int)), (6, vI (((bl (me (7 * s + i))).length : Nat) : Int))] [] [ob 5 [vI (cnt : Int), .ref 1, .ref 2, .ref 3, .ref 4, .ref 25, .ref 26, vI (arcs : Int), vI (ln : Int), .ref 5, .ref 6, .ref 7, .ref 8, .ref 9, .ref 10], cK 300 wy, cN 300 fa, cK 300 fw, cN 301 as_, cK 2107 me, cI 401 fb, cI 300 nb, cK 4 wu1, cI 200 fk1, cI 512 nw1, ob 1 [.ref 12, .ref 13, .ref 14, .ref 15, .ref 16, .ref 17, .ref 18, .ref 19, .ref 20, .ref 21, .ref 22, .ref 23, .ref 24, vI (nn : Int), vI (ne : Int), vI (nm : Int)], cN 512 fr, cN 512 to, cI 512 wo, cN 512 te, cZ 512 hv, cI 401 fo, cI 512 no, cN 16 mb, cN 16 mw, cI 16 ml, cN 16 ma, cI 16 sk, cN 17 bo, cN nA aw, cN nA at_] 0 0
        have lp36 : ∀ (n36 : Nat) (rest : Nat) (nz : Int) (wu2 : Nat → Nat) (fk2 : Nat → Int) (nw2 : Nat → Int), (rest < 18446744073709551616) → (nz = ((bl rest).length : Int)) → (∀ b, rest.testBit b = true → (me (7 * s + i)).testBit b = true) → (wS wo (fun e => e < ne ∧ (mS me s).testBit (fr e) = true ∧ (fr e < 64 * i ∨ (fr e < 64 * i + 64 ∧ rest.testBit (fr e - 64 * i) = false))) wu2 fk2 nw2) → ((bl rest).length) < n36 → WM mX5_findWordsOut 0 0 Post 27 36 [(0, .ref 0), (1, .ref 11), (2, vI (s : Int)), (3, vI (i : Int)), (4, vJ (rest : Int)), (6, vI nz)] [] [ob 5 [vI (cnt : Int), .ref 1, .ref 2, .ref 3, .ref 4, .ref 25, .ref 26, vI (arcs : Int), vI (ln : Int), .ref 5, .ref 6, .ref 7, .ref 8, .ref 9, .ref 10], cK 300 wy, cN 300 fa, cK 300 fw, cN 301 as_, cK 2107 me, cI 401 fb, cI 300 nb, cK 4 wu2, cI 200 fk2, cI 512 nw2, ob 1 [.ref 12, .ref 13, .ref 14, .ref 15, .ref 16, .ref 17, .ref 18, .ref 19, .ref 20, .ref 21, .ref 22, .ref 23, .ref 24, vI (nn : Int), vI (ne : Int), vI (nm : Int)], cN 512 fr, cN 512 to, cI 512 wo, cN 512 te, cZ 512 hv, cI 401 fo, cI 512 no, cN 16 mb, cN 16 mw, cI 16 ml, cN 16 ma, cI 16 sk, cN 17 bo, cN nA aw, cN nA at_] 0 0 := by
          intro n36
          induction n36 with
          | zero => intro rest nz wu2 fk2 nw2 hr hn hrb hS2 hm; exact absurd hm (Nat.not_lt_zero _)
          | succ n36 ih36 =>
            intro rest nz wu2 fk2 nw2 hr hn hrb hS2 hm36
            have hbl : (bl rest).length ≤ 64 := Nat.le_trans (List.length_filter_le _ _) (by rw [List.length_range]; exact Nat.le_refl _)
            refine sq_ok rfl [(.iload 6, 0, 0, 0), (.ifCond .le 33, 0, 0, 0)] 36 _ _ _ _ _ (by decide +kernel) ?_
            show (kI nz ≤ kI 0 → WM mX5_findWordsOut 0 0 Post 27 71 [(0, .ref 0), (1, .ref 11), (2, vI (s : Int)), (3, vI (i : Int)), (4, vJ (rest : Int)), (6, vI nz)] [] [ob 5 [vI (cnt : Int), .ref 1, .ref 2, .ref 3, .ref 4, .ref 25, .ref 26, vI (arcs : Int), vI (ln : Int), .ref 5, .ref 6, .ref 7, .ref 8, .ref 9, .ref 10], cK 300 wy, cN 300 fa, cK 300 fw, cN 301 as_, cK 2107 me, cI 401 fb, cI 300 nb, cK 4 wu2, cI 200 fk2, cI 512 nw2, ob 1 [.ref 12, .ref 13, .ref 14, .ref 15, .ref 16, .ref 17, .ref 18, .ref 19, .ref 20, .ref 21, .ref 22, .ref 23, .ref 24, vI (nn : Int), vI (ne : Int), vI (nm : Int)], cN 512 fr, cN 512 to, cI 512 wo, cN 512 te, cZ 512 hv, cI 401 fo, cI 512 no, cN 16 mb, cN 16 mw, cI 16 ml, cN 16 ma, cI 16 sk, cN 17 bo, cN nA aw, cN nA at_] 0 0) ∧ (¬ kI nz ≤ kI 0 → WM mX5_findWordsOut 0 0 Post 27 41 [(0, .ref 0), (1, .ref 11), (2, vI (s : Int)), (3, vI (i : Int)), (4, vJ (rest : Int)), (6, vI nz)] [] [ob 5 [vI (cnt : Int), .ref 1, .ref 2, .ref 3, .ref 4, .ref 25, .ref 26, vI (arcs : Int), vI (ln : Int), .ref 5, .ref 6, .ref 7, .ref 8, .ref 9, .ref 10], cK 300 wy, cN 300 fa, cK 300 fw, cN 301 as_, cK 2107 me, cI 401 fb, cI 300 nb, cK 4 wu2, cI 200 fk2, cI 512 nw2, ob 1 [.ref 12, .ref 13, .ref 14, .ref 15, .ref 16, .ref 17, .ref 18, .ref 19, .ref 20, .ref 21, .ref 22, .ref 23, .ref 24, vI (nn : Int), vI (ne : Int), vI (nm : Int)], cN 512 fr, cN 512 to, cI 512 wo, cN 512 te, cZ 512 hv, cI 401 fo, cI 512 no, cN 16 mb, cN 16 mw, cI 16 ml, cN 16 ma, cI 16 sk, cN 17 bo, cN nA aw, cN nA at_] 0 0)
            refine ⟨fun c38 => ?_, fun c38 => ?_⟩
            · 
              rw [kI_le (by omega)] at c38
              refine sq_ok rfl [(.iinc 3 1, 0, 0, 0), (.goto (-64), 0, 0, 0)] 71 _ _ _ _ _ (by decide +kernel) ?_
              show WM mX5_findWordsOut 0 0 Post 27 10 [(0, .ref 0), (1, .ref 11), (2, vI (s : Int)), (3, .int ((kI (i : Int)) + (kI 1))), (4, vJ (rest : Int)), (6, vI nz)] [] [ob 5 [vI (cnt : Int), .ref 1, .ref 2, .ref 3, .ref 4, .ref 25, .ref 26, vI (arcs : Int), vI (ln : Int), .ref 5, .ref 6, .ref 7, .ref 8, .ref 9, .ref 10], cK 300 wy, cN 300 fa, cK 300 fw, cN 301 as_, cK 2107 me, cI 401 fb, cI 300 nb, cK 4 wu2, cI 200 fk2, cI 512 nw2, ob 1 [.ref 12, .ref 13, .ref 14, .ref 15, .ref 16, .ref 17, .ref 18, .ref 19, .ref 20, .ref 21, .ref 22, .ref 23, .ref 24, vI (nn : Int), vI (ne : Int), vI (nm : Int)], cN 512 fr, cN 512 to, cI 512 wo, cN 512 te, cZ 512 hv, cI 401 fo, cI 512 no, cN 16 mb, cN 16 mw, cI 16 ml, cN 16 ma, cI 16 sk, cN 17 bo, cN nA aw, cN nA at_] 0 0
              have e3 : ((kI (i : Int)) + (kI 1)) = kI (((i + 1) : Nat) : Int) := by first | (simp only [kI_add, kI_sub, kI_mul]; done) | (simp only [kI_add, kI_sub, kI_mul]; rfl)
              rw [e3]
              exact WM.pick [0, 1, 2, 3] rfl (ih10 (i + 1) wu2 fk2 nw2 (by omega) (hS2.congr (fun e _ => by
                have hz := bl_0 hr (List.eq_nil_of_length_eq_zero (by omega))
                subst hz
                constructor
                · rintro ⟨q1, q2, q3⟩
                  exact ⟨q1, q2, by omega⟩
                · rintro ⟨q1, q2, q3⟩
                  refine ⟨q1, q2, ?_⟩
                  rcases Nat.lt_or_ge (fr e) (64 * i) with h1 | h1
                  · exact Or.inl h1
                  · exact Or.inr ⟨by omega, Nat.zero_testBit _⟩)) (by omega))
            · 
              rw [kI_le (by omega)] at c38
              have hr0 : ¬ rest = 0 := fun h => by rw [h, bl_z] at hn; omega
              obtain ⟨u, hu, hl⟩ := bl_low hr hr0
              have hub : (mS me s).testBit (64 * i + u) = true := by rw [mS_at hme s i u (by omega) hu]; exact hrb u hl.1
              have hun := hSn _ hub
              have hbc := congrArg List.length (bl_cons hl hu)
              rw [List.length_cons] at hbc
              refine sq_ok rfl [(.aload_n 0, 0, 0, 0), (.aload_n 1, 0, 0, 0), (.bipush 64, 0, 0, 0), (.iload_n 3, 0, 0, 0), (.imul, 0, 0, 0), (.lload 4, 0, 0, 0)] 41 _ _ _ _ _ (by decide +kernel) ?_
              show WM mX5_findWordsOut 0 0 Post 27 49 [(0, .ref 0), (1, .ref 11), (2, vI (s : Int)), (3, vI (i : Int)), (4, vJ (rest : Int)), (6, vI nz)] [vJ (rest : Int), .int ((kI 64) * (kI (i : Int))), .ref 11, .ref 0] [ob 5 [vI (cnt : Int), .ref 1, .ref 2, .ref 3, .ref 4, .ref 25, .ref 26, vI (arcs : Int), vI (ln : Int), .ref 5, .ref 6, .ref 7, .ref 8, .ref 9, .ref 10], cK 300 wy, cN 300 fa, cK 300 fw, cN 301 as_, cK 2107 me, cI 401 fb, cI 300 nb, cK 4 wu2, cI 200 fk2, cI 512 nw2, ob 1 [.ref 12, .ref 13, .ref 14, .ref 15, .ref 16, .ref 17, .ref 18, .ref 19, .ref 20, .ref 21, .ref 22, .ref 23, .ref 24, vI (nn : Int), vI (ne : Int), vI (nm : Int)], cN 512 fr, cN 512 to, cI 512 wo, cN 512 te, cZ 512 hv, cI 401 fo, cI 512 no, cN 16 mb, cN 16 mw, cI 16 ml, cN 16 ma, cI 16 sk, cN 17 bo, cN nA aw, cN nA at_] 0 0
              have e4 : ((kI 64) * (kI (i : Int))) = kI (((64 * i) : Nat) : Int) := by first | (simp only [kI_add, kI_sub, kI_mul]; done) | (simp only [kI_add, kI_sub, kI_mul]; rfl)
              rw [e4]
              refine wm_callS (y := mX5_findWordsOut) mJ13_numberOfTrailingZeros_95d88 [] (pc := 49) (rest := [vI (((64 * i) : Nat) : Int), .ref 11, .ref 0]) (mc' := 0) (ms' := 0) (by decide +kernel) kX5_107 (c_ntz rest u hr hu hl) rfl ⟨Nat.le_of_ble_eq_true rfl, Nat.le_of_ble_eq_true rfl⟩ ⟨Nat.le_of_ble_eq_true rfl, Nat.le_of_ble_eq_true rfl⟩ (Nat.le_of_ble_eq_true rfl) rfl rfl (Nat.le_of_ble_eq_true rfl) rfl ?_
              rintro _ _ ⟨rfl, rfl⟩
              show WM mX5_findWordsOut 0 0 Post 27 52 [(0, .ref 0), (1, .ref 11), (2, vI (s : Int)), (3, vI (i : Int)), (4, vJ (rest : Int)), (6, vI nz)] [vI (u : Int), vI (((64 * i) : Nat) : Int), .ref 11, .ref 0] [ob 5 [vI (cnt : Int), .ref 1, .ref 2, .ref 3, .ref 4, .ref 25, .ref 26, vI (arcs : Int), vI (ln : Int), .ref 5, .ref 6, .ref 7, .ref 8, .ref 9, .ref 10], cK 300 wy, cN 300 fa, cK 300 fw, cN 301 as_, cK 2107 me, cI 401 fb, cI 300 nb, cK 4 wu2, cI 200 fk2, cI 512 nw2, ob 1 [.ref 12, .ref 13, .ref 14, .ref 15, .ref 16, .ref 17, .ref 18, .ref 19, .ref 20, .ref 21, .ref 22, .ref 23, .ref 24, vI (nn : Int), vI (ne : Int), vI (nm : Int)], cN 512 fr, cN 512 to, cI 512 wo, cN 512 te, cZ 512 hv, cI 401 fo, cI 512 no, cN 16 mb, cN 16 mw, cI 16 ml, cN 16 ma, cI 16 sk, cN 17 bo, cN nA aw, cN nA at_] 0 0
              refine sq_ok rfl [(.iadd, 0, 0, 0)] 52 _ _ _ _ _ (by decide +kernel) ?_
              show WM mX5_findWordsOut 0 0 Post 27 53 [(0, .ref 0), (1, .ref 11), (2, vI (s : Int)), (3, vI (i : Int)), (4, vJ (rest : Int)), (6, vI nz)] [.int ((kI (((64 * i) : Nat) : Int)) + (kI (u : Int))), .ref 11, .ref 0] [ob 5 [vI (cnt : Int), .ref 1, .ref 2, .ref 3, .ref 4, .ref 25, .ref 26, vI (arcs : Int), vI (ln : Int), .ref 5, .ref 6, .ref 7, .ref 8, .ref 9, .ref 10], cK 300 wy, cN 300 fa, cK 300 fw, cN 301 as_, cK 2107 me, cI 401 fb, cI 300 nb, cK 4 wu2, cI 200 fk2, cI 512 nw2, ob 1 [.ref 12, .ref 13, .ref 14, .ref 15, .ref 16, .ref 17, .ref 18, .ref 19, .ref 20, .ref 21, .ref 22, .ref 23, .ref 24, vI (nn : Int), vI (ne : Int), vI (nm : Int)], cN 512 fr, cN 512 to, cI 512 wo, cN 512 te, cZ 512 hv, cI 401 fo, cI 512 no, cN 16 mb, cN 16 mw, cI 16 ml, cN 16 ma, cI 16 sk, cN 17 bo, cN nA aw, cN nA at_] 0 0
              have e5 : ((kI (((64 * i) : Nat) : Int)) + (kI (u : Int))) = kI (((64 * i + u) : Nat) : Int) := by rw [kI_add]; rfl
              rw [e5]
              refine wm_callV (y := mX5_findWordsOut) mX5_addWordsOut [0, 1, 2, 3, 4, 5, 6, 7, 8, 9, 10, 11, 12, 13, 14, 15, 16, 17, 18, 19, 20, 21, 22, 23, 24, 25, 26] (pc := 53) (rest := []) (mc' := 0) (ms' := 0) (by decide +kernel) kX5_110 (c_X5_addWordsOut cnt wy fa fw as_ aw at_ nA arcs ln me fb nb wu2 fk2 nw2 fr to wo te hv fo no mb mw ml ma sk bo nn ne nm hne hnn hG hwo (fun e => e < ne ∧ (mS me s).testBit (fr e) = true ∧ (fr e < 64 * i ∨ (fr e < 64 * i + 64 ∧ rest.testBit (fr e - 64 * i) = false))) hS2 (64 * i + u) hun (fun e he => by rcases he.2.2 with h1 | h1; omega; intro h2; rw [h2, show 64 * i + u - 64 * i = u by omega, hl.1] at h1; exact absurd h1.2 (by decide))) rfl rfl ⟨_, rfl, rfl⟩ ⟨Nat.le_of_ble_eq_true rfl, Nat.le_of_ble_eq_true rfl⟩ ⟨Nat.le_of_ble_eq_true rfl, Nat.le_of_ble_eq_true rfl⟩ (Nat.le_of_ble_eq_true rfl) rfl rfl (Nat.le_of_ble_eq_true rfl) rfl ?_
              rintro _ _ ⟨wu3, fk3, nw3, rfl, rfl, hS3⟩
              show WM mX5_findWordsOut 0 0 Post 27 56 [(0, .ref 0), (1, .ref 11), (2, vI (s : Int)), (3, vI (i : Int)), (4, vJ (rest : Int)), (6, vI nz)] [] [ob 5 [vI (cnt : Int), .ref 1, .ref 2, .ref 3, .ref 4, .ref 25, .ref 26, vI (arcs : Int), vI (ln : Int), .ref 5, .ref 6, .ref 7, .ref 8, .ref 9, .ref 10], cK 300 wy, cN 300 fa, cK 300 fw, cN 301 as_, cK 2107 me, cI 401 fb, cI 300 nb, cK 4 wu3, cI 200 fk3, cI 512 nw3, ob 1 [.ref 12, .ref 13, .ref 14, .ref 15, .ref 16, .ref 17, .ref 18, .ref 19, .ref 20, .ref 21, .ref 22, .ref 23, .ref 24, vI (nn : Int), vI (ne : Int), vI (nm : Int)], cN 512 fr, cN 512 to, cI 512 wo, cN 512 te, cZ 512 hv, cI 401 fo, cI 512 no, cN 16 mb, cN 16 mw, cI 16 ml, cN 16 ma, cI 16 sk, cN 17 bo, cN nA aw, cN nA at_] 0 0
              refine sq_ok rfl [(.lload 4, 0, 0, 0), (.lload 4, 0, 0, 0), (.lconst 1, 0, 0, 0), (.lsub, 0, 0, 0)] 56 _ _ _ _ _ (by decide +kernel) ?_
              show WM mX5_findWordsOut 0 0 Post 27 62 [(0, .ref 0), (1, .ref 11), (2, vI (s : Int)), (3, vI (i : Int)), (4, vJ (rest : Int)), (6, vI nz)] [.long ((kL (rest : Int)) - (kL 1)), vJ (rest : Int)] [ob 5 [vI (cnt : Int), .ref 1, .ref 2, .ref 3, .ref 4, .ref 25, .ref 26, vI (arcs : Int), vI (ln : Int), .ref 5, .ref 6, .ref 7, .ref 8, .ref 9, .ref 10], cK 300 wy, cN 300 fa, cK 300 fw, cN 301 as_, cK 2107 me, cI 401 fb, cI 300 nb, cK 4 wu3, cI 200 fk3, cI 512 nw3, ob 1 [.ref 12, .ref 13, .ref 14, .ref 15, .ref 16, .ref 17, .ref 18, .ref 19, .ref 20, .ref 21, .ref 22, .ref 23, .ref 24, vI (nn : Int), vI (ne : Int), vI (nm : Int)], cN 512 fr, cN 512 to, cI 512 wo, cN 512 te, cZ 512 hv, cI 401 fo, cI 512 no, cN 16 mb, cN 16 mw, cI 16 ml, cN 16 ma, cI 16 sk, cN 17 bo, cN nA aw, cN nA at_] 0 0
              have e6 : ((kL (rest : Int)) - (kL 1)) = kL (((rest - 1) : Nat) : Int) := by rw [kL_sub]; congr 1; omega
              rw [e6]
              refine sq_ok rfl [(.land, 0, 0, 0)] 62 _ _ _ _ _ (by decide +kernel) ?_
              show WM mX5_findWordsOut 0 0 Post 27 63 [(0, .ref 0), (1, .ref 11), (2, vI (s : Int)), (3, vI (i : Int)), (4, vJ (rest : Int)), (6, vI nz)] [.long ((kL (rest : Int)) &&& (kL (((rest - 1) : Nat) : Int)))] [ob 5 [vI (cnt : Int), .ref 1, .ref 2, .ref 3, .ref 4, .ref 25, .ref 26, vI (arcs : Int), vI (ln : Int), .ref 5, .ref 6, .ref 7, .ref 8, .ref 9, .ref 10], cK 300 wy, cN 300 fa, cK 300 fw, cN 301 as_, cK 2107 me, cI 401 fb, cI 300 nb, cK 4 wu3, cI 200 fk3, cI 512 nw3, ob 1 [.ref 12, .ref 13, .ref 14, .ref 15, .ref 16, .ref 17, .ref 18, .ref 19, .ref 20, .ref 21, .ref 22, .ref 23, .ref 24, vI (nn : Int), vI (ne : Int), vI (nm : Int)], cN 512 fr, cN 512 to, cI 512 wo, cN 512 te, cZ 512 hv, cI 401 fo, cI 512 no, cN 16 mb, cN 16 mw, cI 16 ml, cN 16 ma, cI 16 sk, cN 17 bo, cN nA aw, cN nA at_] 0 0
              have e7 : ((kL (rest : Int)) &&& (kL (((rest - 1) : Nat) : Int))) = kL (((rest &&& (rest - 1)) : Nat) : Int) := by exact kL_and hr (by omega)
              rw [e7]
              refine sq_ok rfl [(.lstore 4, 0, 0, 0), (.iinc 6 (-1), 0, 0, 0), (.goto (-32), 0, 0, 0)] 63 _ _ _ _ _ (by decide +kernel) ?_
              show WM mX5_findWordsOut 0 0 Post 27 36 [(0, .ref 0), (1, .ref 11), (2, vI (s : Int)), (3, vI (i : Int)), (4, vJ (((rest &&& (rest - 1)) : Nat) : Int)), (6, .int ((kI nz) + (kI (-1))))] [] [ob 5 [vI (cnt : Int), .ref 1, .ref 2, .ref 3, .ref 4, .ref 25, .ref 26, vI (arcs : Int), vI (ln : Int), .ref 5, .ref 6, .ref 7, .ref 8, .ref 9, .ref 10], cK 300 wy, cN 300 fa, cK 300 fw, cN 301 as_, cK 2107 me, cI 401 fb, cI 300 nb, cK 4 wu3, cI 200 fk3, cI 512 nw3, ob 1 [.ref 12, .ref 13, .ref 14, .ref 15, .ref 16, .ref 17, .ref 18, .ref 19, .ref 20, .ref 21, .ref 22, .ref 23, .ref 24, vI (nn : Int), vI (ne : Int), vI (nm : Int)], cN 512 fr, cN 512 to, cI 512 wo, cN 512 te, cZ 512 hv, cI 401 fo, cI 512 no, cN 16 mb, cN 16 mw, cI 16 ml, cN 16 ma, cI 16 sk, cN 17 bo, cN nA aw, cN nA at_] 0 0
              have e8 : ((kI nz) + (kI (-1))) = kI (nz + (-1)) := by first | (simp only [kI_add, kI_sub, kI_mul]; done) | (simp only [kI_add, kI_sub, kI_mul]; rfl)
              rw [e8]
              exact WM.pick [0, 1, 2, 3, 4, 5] rfl (ih36 (rest &&& (rest - 1)) (nz + (-1)) wu3 fk3 nw3 (and_lt hr) (by omega) (fun b hb => hrb b (by rw [low_and hl] at hb; exact (Bool.and_eq_true_iff.mp hb).1)) (hS3.congr (fun e _ => by
                have hla := low_and hl (fr e - 64 * i)
                constructor
                · rintro (⟨q1, q2, q3⟩ | ⟨q1, q2⟩)
                  · refine ⟨q1, q2, q3.imp id (fun q => ⟨q.1, ?_⟩)⟩
                    rw [hla, q.2]; rfl
                  · refine ⟨q1, by rw [q2]; exact hub, Or.inr ⟨by omega, ?_⟩⟩
                    rw [hla, q2, show 64 * i + u - 64 * i = u by omega]
                    simp
                · rintro ⟨q1, q2, q3⟩
                  rcases q3 with q3 | q3
                  · exact Or.inl ⟨q1, q2, Or.inl q3⟩
                  · rw [hla] at q3
                    by_cases h1 : fr e = 64 * i + u
                    · exact Or.inr ⟨q1, h1⟩
                    · by_cases h2 : fr e < 64 * i
                      · exact Or.inl ⟨q1, q2, Or.inl h2⟩
                      · rw [decide_eq_true (show fr e - 64 * i ≠ u by omega), Bool.and_true] at q3
                        exact Or.inl ⟨q1, q2, Or.inr q3⟩)) (by omega))
        exact WM.pick [0, 1, 2, 3, 4, 5] rfl (lp36 _ (me (7 * s + i)) ((bl (me (7 * s + i))).length : Int) wu1 fk1 nw1 (hme _) rfl (fun b hb => hb) (hS1.congr (fun e _ => ⟨fun q => ⟨q.1, q.2.1, Or.inl q.2.2⟩, fun q => ⟨q.1, q.2.1, by
          rcases q.2.2 with h1 | h1
          · exact h1
          · rcases Nat.lt_or_ge (fr e) (64 * i) with h2 | h2
            · exact h2
            · have h3 := mS_at hme s i (fr e - 64 * i) (by omega) (by omega)
              rw [show 64 * i + (fr e - 64 * i) = fr e by omega, q.2.1] at h3
              exact absurd (h3.trans h1.2) (by decide)⟩⟩)) (Nat.lt_succ_self _))
  exact WM.pick [0, 1, 2, 3] rfl (lp10 _ 0 wz fk nw (by omega) ((wS_0 wo fk nw wz (fun j hj => by rw [hwz]; exact if_pos hj)).congr (fun e _ => ⟨fun q => q.elim, fun q => by omega⟩)) (Nat.lt_succ_self _))
