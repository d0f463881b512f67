/-! Graph: endMatch, layWord -/
def gts (fr te : Nat → Nat) (b f : Nat) : Nat → Nat
  | 0 => 0
  | n + 1 => if f ≤ n ∧ fr n = b then max (gts fr te b f n) (te n) else gts fr te b f n
theorem gts_le {fr te : Nat → Nat} {b f : Nat} : ∀ {n : Nat}, (∀ e, e < n → te e ≤ 10) → gts fr te b f n ≤ 10
  | 0, _ => by simp [gts]
  | n + 1, h => by
    have h1 := gts_le (fr := fr) (b := b) (f := f) (n := n) (fun e he => h e (by omega))
    have h2 := h n (by omega)
    unfold gts
    split <;> omega
theorem gts_0 {fr te : Nat → Nat} {b f : Nat} : ∀ {n : Nat}, n ≤ f → gts fr te b f n = 0
  | 0, _ => rfl
  | n + 1, h => by
    unfold gts
    rw [if_neg (by omega)]
    exact gts_0 (by omega)
def hvy (fr te : Nat → Nat) (b f ne : Nat) (hv : Nat → Bool) (n : Nat) : Nat → Bool := fun e => if f ≤ e ∧ e < n then decide (fr e ≠ b ∨ te e = gts fr te b f ne) else hv e
theorem hvy_step {fr te : Nat → Nat} {b f ne : Nat} {hv : Nat → Bool} {n : Nat} (h : f ≤ n) {x : Bool} (hx : x = decide (fr n ≠ b ∨ te n = gts fr te b f ne)) : va_up (hvy fr te b f ne hv n) n x = hvy fr te b f ne hv (n + 1) := by
  funext e
  simp only [va_up, hvy]
  by_cases h1 : e = n
  · subst h1
    rw [if_pos rfl, if_pos (by omega), hx]
  · rw [if_neg h1]
    by_cases h2 : f ≤ e ∧ e < n
    · rw [if_pos h2, if_pos (by omega)]
    · rw [if_neg h2, if_neg (by omega)]
theorem eL_app {fr to fr2 to2 : Nat → Nat} {wo wo2 : Nat → Int} {te te2 : Nat → Nat} {n m : Nat} {x : Ed} : eL fr2 to2 wo2 te2 m = eL fr to wo te n ++ [x] ↔ (m = n + 1 ∧ eL fr2 to2 wo2 te2 n = eL fr to wo te n ∧ (fr2 n, to2 n, wo2 n, te2 n) = x) := by
  constructor
  · intro h
    have hl := congrArg List.length h
    simp only [List.length_append, lst_len, List.length_singleton] at hl
    subst hl
    unfold eL at h ⊢
    rw [lst_succ] at h
    have h2 := List.append_inj' h rfl
    exact ⟨rfl, h2.1, List.singleton_inj.mp h2.2⟩
  · rintro ⟨rfl, h1, h2⟩
    unfold eL at h1 ⊢
    rw [lst_succ, h1, h2]

set_option maxRecDepth 100000 in
set_option maxHeartbeats 500000 in
theorem c_X1_endMatch (fr to : Nat → Nat) (wo : Nat → Int) (te : Nat → Nat) (hv : Nat → Bool) (fo no : Nat → Int) (mb mw : Nat → Nat) (ml : Nat → Int) (ma : Nat → Nat) (sk : Nat → Int) (bo : Nat → Nat) (nn ne nm : Nat) (hnm : nm < 16) (hnn : nn < 401) (hne : ne ≤ 512) (hfr : ∀ e, e < ne → fr e < nn) (hte : ∀ e, e < ne → te e ≤ 10) (hbo : bo nm < nn) (f : Nat) (hf : f ≤ ne) : CT mX1_endMatch 0 0 [.ref 0, vI (f : Int)] [ob 1 [.ref 1, .ref 2, .ref 3, .ref 4, .ref 5, .ref 6, .ref 7, .ref 8, .ref 9, .ref 10, .ref 11, .ref 12, .ref 13, vI (nn : Int), vI (ne : Int), vI (nm : Int)], cN 512 fr, cN 512 to, cI 512 wo, cN 512 te, cZ 512 hv, cI 401 fo, cI 512 no, cN 16 mb, cN 16 mw, cI 16 ml, cN 16 ma, cI 16 sk, cN 17 bo] (fun r w => r = none ∧ w = [ob 1 [.ref 1, .ref 2, .ref 3, .ref 4, .ref 5, .ref 6, .ref 7, .ref 8, .ref 9, .ref 10, .ref 11, .ref 12, .ref 13, vI (((nn + 1) : Nat) : Int), vI (ne : Int), vI (((nm + 1) : Nat) : Int)], cN 512 fr, cN 512 to, cI 512 wo, cN 512 te, cZ 512 (hvy fr te (bo nm) f ne hv ne), cI 401 (va_up fo nn (-2)), cI 512 no, cN 16 mb, cN 16 mw, cI 16 ml, cN 16 ma, cI 16 sk, cN 17 (va_up bo (nm + 1) nn)]) := by
  refine CT.intro rfl (Nat.le_of_ble_eq_true rfl) ?_
  generalize hPost : (fun r w => r = none ∧ w = [ob 1 [.ref 1, .ref 2, .ref 3, .ref 4, .ref 5, .ref 6, .ref 7, .ref 8, .ref 9, .ref 10, .ref 11, .ref 12, .ref 13, vI (((nn + 1) : Nat) : Int), vI (ne : Int), vI (((nm + 1) : Nat) : Int)], cN 512 fr, cN 512 to, cI 512 wo, cN 512 te, cZ 512 (hvy fr te (bo nm) f ne hv ne), cI 401 (va_up fo nn (-2)), cI 512 no, cN 16 mb, cN 16 mw, cI 16 ml, cN 16 ma, cI 16 sk, cN 17 (va_up bo (nm + 1) nn)] : MP) = Post
  have hPo : ∀ rr ww, (fun r w => r = none ∧ w = [ob 1 [.ref 1, .ref 2, .ref 3, .ref 4, .ref 5, .ref 6, .ref 7, .ref 8, .ref 9, .ref 10, .ref 11, .ref 12, .ref 13, vI (((nn + 1) : Nat) : Int), vI (ne : Int), vI (((nm + 1) : Nat) : Int)], cN 512 fr, cN 512 to, cI 512 wo, cN 512 te, cZ 512 (hvy fr te (bo nm) f ne hv ne), cI 401 (va_up fo nn (-2)), cI 512 no, cN 16 mb, cN 16 mw, cI 16 ml, cN 16 ma, cI 16 sk, cN 17 (va_up bo (nm + 1) nn)] : MP) rr ww → Post rr ww := by rw [← hPost]; exact fun _ _ h => h
  clear hPost
  show WM mX1_endMatch 0 0 Post 14 0 [(0, .ref 0), (1, vI (f : Int))] [] [ob 1 [.ref 1, .ref 2, .ref 3, .ref 4, .ref 5, .ref 6, .ref 7, .ref 8, .ref 9, .ref 10, .ref 11, .ref 12, .ref 13, vI (nn : Int), vI (ne : Int), vI (nm : Int)], cN 512 fr, cN 512 to, cI 512 wo, cN 512 te, cZ 512 hv, cI 401 fo, cI 512 no, cN 16 mb, cN 16 mw, cI 16 ml, cN 16 ma, cI 16 sk, cN 17 bo] 0 0
  refine sq_ok rfl [(.aload_n 0, 0, 0, 0), (.getfield 49, 1, 12, 0), (.aload_n 0, 0, 0, 0), (.getfield 59, 1, 15, 0), (.iaload, 0, 0, 0), (.istore_n 2, 0, 0, 0), (.iconst 0, 0, 0, 0), (.istore_n 3, 0, 0, 0), (.iload_n 1, 0, 0, 0), (.istore 4, 0, 0, 0)] 0 _ _ _ _ _ (by decide +kernel) ?_
  show ∃ j8 : Nat, mj 17 (kI (nm : Int)) j8 ∧ WM mX1_endMatch 0 0 Post 14 15 [(0, .ref 0), (1, vI (f : Int)), (2, vI ((bo j8 : Nat) : Int)), (3, vI 0), (4, vI (f : Int))] [] [ob 1 [.ref 1, .ref 2, .ref 3, .ref 4, .ref 5, .ref 6, .ref 7, .ref 8, .ref 9, .ref 10, .ref 11, .ref 12, .ref 13, vI (nn : Int), vI (ne : Int), vI (nm : Int)], cN 512 fr, cN 512 to, cI 512 wo, cN 512 te, cZ 512 hv, cI 401 fo, cI 512 no, cN 16 mb, cN 16 mw, cI 16 ml, cN 16 ma, cI 16 sk, cN 17 bo] 0 0
  refine ⟨nm, ⟨by omega, by omega, rfl⟩, ?_⟩
  have lp15 : ∀ (n15 : Nat) (e : Nat), (f ≤ e ∧ e ≤ ne) → (ne - e) < n15 → WM mX1_endMatch 0 0 Post 14 15 [(0, .ref 0), (1, vI (f : Int)), (2, vI (((bo nm) : Nat) : Int)), (3, vI (((gts fr te (bo nm) f e) : Nat) : Int)), (4, vI (e : Int))] [] [ob 1 [.ref 1, .ref 2, .ref 3, .ref 4, .ref 5, .ref 6, .ref 7, .ref 8, .ref 9, .ref 10, .ref 11, .ref 12, .ref 13, vI (nn : Int), vI (ne : Int), vI (nm : Int)], cN 512 fr, cN 512 to, cI 512 wo, cN 512 te, cZ 512 hv, cI 401 fo, cI 512 no, cN 16 mb, cN 16 mw, cI 16 ml, cN 16 ma, cI 16 sk, cN 17 bo] 0 0 := by
    intro n15
    induction n15 with
    | zero => intro e he hm; exact absurd hm (Nat.not_lt_zero _)
    | succ n15 ih15 =>
      intro e he hm15
      refine sq_ok rfl [(.iload 4, 0, 0, 0), (.aload_n 0, 0, 0, 0), (.getfield 56, 1, 14, 0), (.if_icmp .ge 32, 0, 0, 0)] 15 _ _ _ _ _ (by decide +kernel) ?_
      show (kI (ne : Int) ≤ kI (e : Int) → WM mX1_endMatch 0 0 Post 14 53 [(0, .ref 0), (1, vI (f : Int)), (2, vI (((bo nm) : Nat) : Int)), (3, vI (((gts fr te (bo nm) f e) : Nat) : Int)), (4, vI (e : Int))] [] [ob 1 [.ref 1, .ref 2, .ref 3, .ref 4, .ref 5, .ref 6, .ref 7, .ref 8, .ref 9, .ref 10, .ref 11, .ref 12, .ref 13, vI (nn : Int), vI (ne : Int), vI (nm : Int)], cN 512 fr, cN 512 to, cI 512 wo, cN 512 te, cZ 512 hv, cI 401 fo, cI 512 no, cN 16 mb, cN 16 mw, cI 16 ml, cN 16 ma, cI 16 sk, cN 17 bo] 0 0) ∧ (¬ kI (ne : Int) ≤ kI (e : Int) → WM mX1_endMatch 0 0 Post 14 24 [(0, .ref 0), (1, vI (f : Int)), (2, vI (((bo nm) : Nat) : Int)), (3, vI (((gts fr te (bo nm) f e) : Nat) : Int)), (4, vI (e : Int))] [] [ob 1 [.ref 1, .ref 2, .ref 3, .ref 4, .ref 5, .ref 6, .ref 7, .ref 8, .ref 9, .ref 10, .ref 11, .ref 12, .ref 13, vI (nn : Int), vI (ne : Int), vI (nm : Int)], cN 512 fr, cN 512 to, cI 512 wo, cN 512 te, cZ 512 hv, cI 401 fo, cI 512 no, cN 16 mb, cN 16 mw, cI 16 ml, cN 16 ma, cI 16 sk, cN 17 bo] 0 0)
      refine ⟨fun c21 => ?_, fun c21 => ?_⟩
      · 
        rw [kI_le (by omega)] at c21
        refine sq_ok rfl [(.iload_n 1, 0, 0, 0), (.istore 4, 0, 0, 0)] 53 _ _ _ _ _ (by decide +kernel) ?_
        show WM mX1_endMatch 0 0 Post 14 56 [(0, .ref 0), (1, vI (f : Int)), (2, vI (((bo nm) : Nat) : Int)), (3, vI (((gts fr te (bo nm) f e) : Nat) : Int)), (4, vI (f : Int))] [] [ob 1 [.ref 1, .ref 2, .ref 3, .ref 4, .ref 5, .ref 6, .ref 7, .ref 8, .ref 9, .ref 10, .ref 11, .ref 12, .ref 13, vI (nn : Int), vI (ne : Int), vI (nm : Int)], cN 512 fr, cN 512 to, cI 512 wo, cN 512 te, cZ 512 hv, cI 401 fo, cI 512 no, cN 16 mb, cN 16 mw, cI 16 ml, cN 16 ma, cI 16 sk, cN 17 bo] 0 0
        have lp56 : ∀ (n56 : Nat) (e : Nat) (g : Nat → Bool), (f ≤ e ∧ e ≤ ne) → (g = hvy fr te (bo nm) f ne hv e) → (ne - e) < n56 → WM mX1_endMatch 0 0 Post 14 56 [(0, .ref 0), (1, vI (f : Int)), (2, vI (((bo nm) : Nat) : Int)), (3, vI (((gts fr te (bo nm) f ne) : Nat) : Int)), (4, vI (e : Int))] [] [ob 1 [.ref 1, .ref 2, .ref 3, .ref 4, .ref 5, .ref 6, .ref 7, .ref 8, .ref 9, .ref 10, .ref 11, .ref 12, .ref 13, vI (nn : Int), vI (ne : Int), vI (nm : Int)], cN 512 fr, cN 512 to, cI 512 wo, cN 512 te, cZ 512 g, cI 401 fo, cI 512 no, cN 16 mb, cN 16 mw, cI 16 ml, cN 16 ma, cI 16 sk, cN 17 bo] 0 0 := by
          intro n56
          induction n56 with
          | zero => intro e g he hg hm; exact absurd hm (Nat.not_lt_zero _)
          | succ n56 ih56 =>
            intro e g he hg hm56
            refine sq_ok rfl [(.iload 4, 0, 0, 0), (.aload_n 0, 0, 0, 0), (.getfield 56, 1, 14, 0), (.if_icmp .ge 43, 0, 0, 0)] 56 _ _ _ _ _ (by decide +kernel) ?_
            show (kI (ne : Int) ≤ kI (e : Int) → WM mX1_endMatch 0 0 Post 14 105 [(0, .ref 0), (1, vI (f : Int)), (2, vI (((bo nm) : Nat) : Int)), (3, vI (((gts fr te (bo nm) f ne) : Nat) : Int)), (4, vI (e : Int))] [] [ob 1 [.ref 1, .ref 2, .ref 3, .ref 4, .ref 5, .ref 6, .ref 7, .ref 8, .ref 9, .ref 10, .ref 11, .ref 12, .ref 13, vI (nn : Int), vI (ne : Int), vI (nm : Int)], cN 512 fr, cN 512 to, cI 512 wo, cN 512 te, cZ 512 g, cI 401 fo, cI 512 no, cN 16 mb, cN 16 mw, cI 16 ml, cN 16 ma, cI 16 sk, cN 17 bo] 0 0) ∧ (¬ kI (ne : Int) ≤ kI (e : Int) → WM mX1_endMatch 0 0 Post 14 65 [(0, .ref 0), (1, vI (f : Int)), (2, vI (((bo nm) : Nat) : Int)), (3, vI (((gts fr te (bo nm) f ne) : Nat) : Int)), (4, vI (e : Int))] [] [ob 1 [.ref 1, .ref 2, .ref 3, .ref 4, .ref 5, .ref 6, .ref 7, .ref 8, .ref 9, .ref 10, .ref 11, .ref 12, .ref 13, vI (nn : Int), vI (ne : Int), vI (nm : Int)], cN 512 fr, cN 512 to, cI 512 wo, cN 512 te, cZ 512 g, cI 401 fo, cI 512 no, cN 16 mb, cN 16 mw, cI 16 ml, cN 16 ma, cI 16 sk, cN 17 bo] 0 0)
            refine ⟨fun c62 => ?_, fun c62 => ?_⟩
            · 
              rw [kI_le (by omega)] at c62
              refine sq_ok rfl [(.aload_n 0, 0, 0, 0), (.dup, 0, 0, 0), (.getfield 59, 1, 15, 0), (.iconst 1, 0, 0, 0), (.iadd, 0, 0, 0), (.putfield 59, 1, 15, 0), (.aload_n 0, 0, 0, 0), (.getfield 49, 1, 12, 0), (.aload_n 0, 0, 0, 0), (.getfield 59, 1, 15, 0), (.aload_n 0, 0, 0, 0)] 105 _ _ _ _ _ (by decide +kernel) ?_
              show WM mX1_endMatch 0 0 Post 14 124 [(0, .ref 0), (1, vI (f : Int)), (2, vI (((bo nm) : Nat) : Int)), (3, vI (((gts fr te (bo nm) f ne) : Nat) : Int)), (4, vI (e : Int))] [.ref 0, .int ((kI (nm : Int)) + (kI 1)), .ref 13] [ob 1 [.ref 1, .ref 2, .ref 3, .ref 4, .ref 5, .ref 6, .ref 7, .ref 8, .ref 9, .ref 10, .ref 11, .ref 12, .ref 13, vI (nn : Int), vI (ne : Int), .int ((kI (nm : Int)) + (kI 1))], cN 512 fr, cN 512 to, cI 512 wo, cN 512 te, cZ 512 g, cI 401 fo, cI 512 no, cN 16 mb, cN 16 mw, cI 16 ml, cN 16 ma, cI 16 sk, cN 17 bo] 0 0
              have e3 : ((kI (nm : Int)) + (kI 1)) = kI (((nm + 1) : Nat) : Int) := by first | (simp only [kI_add, kI_sub, kI_mul]; done) | (simp only [kI_add, kI_sub, kI_mul]; rfl)
              rw [e3]
              refine wm_callV (y := mX1_endMatch) mX1_addNode [0, 1, 2, 3, 4, 5, 6, 7, 8, 9, 10, 11, 12, 13] (pc := 124) (rest := [vI (((nm + 1) : Nat) : Int), .ref 13]) (mc' := 0) (ms' := 0) (by decide +kernel) kX1_62 (c_X1_addNode fr to wo te g fo no mb mw ml ma sk bo nn ne (nm + 1) hnn) rfl rfl ⟨_, rfl, rfl⟩ ⟨Nat.le_of_ble_eq_true rfl, Nat.le_of_ble_eq_true rfl⟩ ⟨Nat.le_of_ble_eq_true rfl, Nat.le_of_ble_eq_true rfl⟩ (Nat.le_of_ble_eq_true rfl) rfl rfl (Nat.le_of_ble_eq_true rfl) rfl ?_
              rintro _ _ ⟨rfl, rfl⟩
              show WM mX1_endMatch 0 0 Post 14 127 [(0, .ref 0), (1, vI (f : Int)), (2, vI (((bo nm) : Nat) : Int)), (3, vI (((gts fr te (bo nm) f ne) : Nat) : Int)), (4, vI (e : Int))] [vI (nn : Int), vI (((nm + 1) : Nat) : Int), .ref 13] [ob 1 [.ref 1, .ref 2, .ref 3, .ref 4, .ref 5, .ref 6, .ref 7, .ref 8, .ref 9, .ref 10, .ref 11, .ref 12, .ref 13, vI (((nn + 1) : Nat) : Int), vI (ne : Int), vI (((nm + 1) : Nat) : Int)], cN 512 fr, cN 512 to, cI 512 wo, cN 512 te, cZ 512 g, cI 401 (va_up fo nn (-2)), cI 512 no, cN 16 mb, cN 16 mw, cI 16 ml, cN 16 ma, cI 16 sk, cN 17 bo] 0 0
              refine sq_ok rfl [(.iastore, 0, 0, 0)] 127 _ _ _ _ _ (by decide +kernel) ?_
              show ∃ (j127 : Nat) (g127 : Nat → Int32), (mj 17 (kI (((nm + 1) : Nat) : Int)) j127 ∧ g127 = upd (fun q => kI ((bo q : Nat) : Int)) j127 (kI (nn : Int))) ∧ WM mX1_endMatch 0 0 Post 14 128 [(0, .ref 0), (1, vI (f : Int)), (2, vI (((bo nm) : Nat) : Int)), (3, vI (((gts fr te (bo nm) f ne) : Nat) : Int)), (4, vI (e : Int))] [] [ob 1 [.ref 1, .ref 2, .ref 3, .ref 4, .ref 5, .ref 6, .ref 7, .ref 8, .ref 9, .ref 10, .ref 11, .ref 12, .ref 13, vI (((nn + 1) : Nat) : Int), vI (ne : Int), vI (((nm + 1) : Nat) : Int)], cN 512 fr, cN 512 to, cI 512 wo, cN 512 te, cZ 512 g, cI 401 (va_up fo nn (-2)), cI 512 no, cN 16 mb, cN 16 mw, cI 16 ml, cN 16 ma, cI 16 sk, .inl (0, 17, .inl g127)] 0 0
              refine ⟨(nm + 1), fun q => kI (((va_up bo (nm + 1) nn) q : Nat) : Int), ⟨⟨by omega, by omega, rfl⟩, st_N (rfl)⟩, ?_⟩
              refine sq_ok rfl [(.return_, 0, 0, 0)] 128 _ _ _ _ _ (by decide +kernel) ?_
              show ((0 ≤ 0 ∧ 0 ≤ 0) ∧ Post none [ob 1 [.ref 1, .ref 2, .ref 3, .ref 4, .ref 5, .ref 6, .ref 7, .ref 8, .ref 9, .ref 10, .ref 11, .ref 12, .ref 13, vI (((nn + 1) : Nat) : Int), vI (ne : Int), vI (((nm + 1) : Nat) : Int)], cN 512 fr, cN 512 to, cI 512 wo, cN 512 te, cZ 512 g, cI 401 (va_up fo nn (-2)), cI 512 no, cN 16 mb, cN 16 mw, cI 16 ml, cN 16 ma, cI 16 sk, cN 17 (va_up bo (nm + 1) nn)])
              refine ⟨⟨Nat.le_refl _, Nat.le_refl _⟩, hPo _ _ ?_⟩
              exact ⟨rfl, by rw [hg, show e = ne by omega]⟩
            · 
              rw [kI_le (by omega)] at c62
              have hfe := hfr e (by omega)
              have hee := hte e (by omega)
              have hgl : gts fr te (bo nm) f ne ≤ 10 := gts_le (fun j hj => hte j (by omega))
              refine sq_ok rfl [(.aload_n 0, 0, 0, 0), (.getfield 24, 1, 4, 0), (.iload 4, 0, 0, 0), (.aload_n 0, 0, 0, 0), (.getfield 9, 1, 0, 0), (.iload 4, 0, 0, 0), (.iaload, 0, 0, 0), (.iload_n 2, 0, 0, 0), (.if_icmp .ne 14, 0, 0, 0)] 65 _ _ _ _ _ (by decide +kernel) ?_
              show ∃ j77 : Nat, mj 512 (kI (e : Int)) j77 ∧ (¬ kI ((fr j77 : Nat) : Int) = kI (((bo nm) : Nat) : Int) → WM mX1_endMatch 0 0 Post 14 93 [(0, .ref 0), (1, vI (f : Int)), (2, vI (((bo nm) : Nat) : Int)), (3, vI (((gts fr te (bo nm) f ne) : Nat) : Int)), (4, vI (e : Int))] [vI (e : Int), .ref 5] [ob 1 [.ref 1, .ref 2, .ref 3, .ref 4, .ref 5, .ref 6, .ref 7, .ref 8, .ref 9, .ref 10, .ref 11, .ref 12, .ref 13, vI (nn : Int), vI (ne : Int), vI (nm : Int)], cN 512 fr, cN 512 to, cI 512 wo, cN 512 te, cZ 512 g, cI 401 fo, cI 512 no, cN 16 mb, cN 16 mw, cI 16 ml, cN 16 ma, cI 16 sk, cN 17 bo] 0 0) ∧ (kI ((fr j77 : Nat) : Int) = kI (((bo nm) : Nat) : Int) → WM mX1_endMatch 0 0 Post 14 82 [(0, .ref 0), (1, vI (f : Int)), (2, vI (((bo nm) : Nat) : Int)), (3, vI (((gts fr te (bo nm) f ne) : Nat) : Int)), (4, vI (e : Int))] [vI (e : Int), .ref 5] [ob 1 [.ref 1, .ref 2, .ref 3, .ref 4, .ref 5, .ref 6, .ref 7, .ref 8, .ref 9, .ref 10, .ref 11, .ref 12, .ref 13, vI (nn : Int), vI (ne : Int), vI (nm : Int)], cN 512 fr, cN 512 to, cI 512 wo, cN 512 te, cZ 512 g, cI 401 fo, cI 512 no, cN 16 mb, cN 16 mw, cI 16 ml, cN 16 ma, cI 16 sk, cN 17 bo] 0 0)
              refine ⟨e, ⟨by omega, by omega, rfl⟩, ?_⟩
              refine ⟨fun c79 => ?_, fun c79 => ?_⟩
              · 
                rw [kI_eq (by omega)] at c79
                refine sq_ok rfl [(.iconst 1, 0, 0, 0), (.goto 4, 0, 0, 0)] 93 _ _ _ _ _ (by decide +kernel) ?_
                show WM mX1_endMatch 0 0 Post 14 98 [(0, .ref 0), (1, vI (f : Int)), (2, vI (((bo nm) : Nat) : Int)), (3, vI (((gts fr te (bo nm) f ne) : Nat) : Int)), (4, vI (e : Int))] [vI 1, vI (e : Int), .ref 5] [ob 1 [.ref 1, .ref 2, .ref 3, .ref 4, .ref 5, .ref 6, .ref 7, .ref 8, .ref 9, .ref 10, .ref 11, .ref 12, .ref 13, vI (nn : Int), vI (ne : Int), vI (nm : Int)], cN 512 fr, cN 512 to, cI 512 wo, cN 512 te, cZ 512 g, cI 401 fo, cI 512 no, cN 16 mb, cN 16 mw, cI 16 ml, cN 16 ma, cI 16 sk, cN 17 bo] 0 0
                refine sq_ok rfl [(.bastore, 0, 0, 0)] 98 _ _ _ _ _ (by decide +kernel) ?_
                show ∃ (j98 : Nat) (g98 : Nat → Int32), (mj 512 (kI (e : Int)) j98 ∧ g98 = upd (fun q => bI (g q)) j98 (vp_nar .boolean (kI 1))) ∧ WM mX1_endMatch 0 0 Post 14 99 [(0, .ref 0), (1, vI (f : Int)), (2, vI (((bo nm) : Nat) : Int)), (3, vI (((gts fr te (bo nm) f ne) : Nat) : Int)), (4, vI (e : Int))] [] [ob 1 [.ref 1, .ref 2, .ref 3, .ref 4, .ref 5, .ref 6, .ref 7, .ref 8, .ref 9, .ref 10, .ref 11, .ref 12, .ref 13, vI (nn : Int), vI (ne : Int), vI (nm : Int)], cN 512 fr, cN 512 to, cI 512 wo, cN 512 te, .inl (3, 512, .inl g98), cI 401 fo, cI 512 no, cN 16 mb, cN 16 mw, cI 16 ml, cN 16 ma, cI 16 sk, cN 17 bo] 0 0
                refine ⟨e, fun q => bI ((va_up g e true) q), ⟨⟨by omega, by omega, rfl⟩, st_Z (rfl)⟩, ?_⟩
                refine sq_ok rfl [(.iinc 4 1, 0, 0, 0), (.goto (-46), 0, 0, 0)] 99 _ _ _ _ _ (by decide +kernel) ?_
                show WM mX1_endMatch 0 0 Post 14 56 [(0, .ref 0), (1, vI (f : Int)), (2, vI (((bo nm) : Nat) : Int)), (3, vI (((gts fr te (bo nm) f ne) : Nat) : Int)), (4, .int ((kI (e : Int)) + (kI 1)))] [] [ob 1 [.ref 1, .ref 2, .ref 3, .ref 4, .ref 5, .ref 6, .ref 7, .ref 8, .ref 9, .ref 10, .ref 11, .ref 12, .ref 13, vI (nn : Int), vI (ne : Int), vI (nm : Int)], cN 512 fr, cN 512 to, cI 512 wo, cN 512 te, cZ 512 (va_up g e true), cI 401 fo, cI 512 no, cN 16 mb, cN 16 mw, cI 16 ml, cN 16 ma, cI 16 sk, cN 17 bo] 0 0
                have e5 : ((kI (e : Int)) + (kI 1)) = kI (((e + 1) : Nat) : Int) := by first | (simp only [kI_add, kI_sub, kI_mul]; done) | (simp only [kI_add, kI_sub, kI_mul]; rfl)
                rw [e5]
                exact WM.pick [0, 1, 2, 3, 4] rfl (ih56 (e + 1) (va_up g e true) (by omega) (by subst hg; first | exact hvy_step (by omega) (decide_eq_true (by omega)).symm | exact hvy_step (by omega) (decide_eq_false (by omega)).symm) (by omega))
              · 
                rw [kI_eq (by omega)] at c79
                refine sq_ok rfl [(.aload_n 0, 0, 0, 0), (.getfield 21, 1, 3, 0), (.iload 4, 0, 0, 0), (.iaload, 0, 0, 0), (.iload_n 3, 0, 0, 0), (.if_icmp .ne 7, 0, 0, 0)] 82 _ _ _ _ _ (by decide +kernel) ?_
                show ∃ j88 : Nat, mj 512 (kI (e : Int)) j88 ∧ (¬ kI ((te j88 : Nat) : Int) = kI (((gts fr te (bo nm) f ne) : Nat) : Int) → WM mX1_endMatch 0 0 Post 14 97 [(0, .ref 0), (1, vI (f : Int)), (2, vI (((bo nm) : Nat) : Int)), (3, vI (((gts fr te (bo nm) f ne) : Nat) : Int)), (4, vI (e : Int))] [vI (e : Int), .ref 5] [ob 1 [.ref 1, .ref 2, .ref 3, .ref 4, .ref 5, .ref 6, .ref 7, .ref 8, .ref 9, .ref 10, .ref 11, .ref 12, .ref 13, vI (nn : Int), vI (ne : Int), vI (nm : Int)], cN 512 fr, cN 512 to, cI 512 wo, cN 512 te, cZ 512 g, cI 401 fo, cI 512 no, cN 16 mb, cN 16 mw, cI 16 ml, cN 16 ma, cI 16 sk, cN 17 bo] 0 0) ∧ (kI ((te j88 : Nat) : Int) = kI (((gts fr te (bo nm) f ne) : Nat) : Int) → WM mX1_endMatch 0 0 Post 14 93 [(0, .ref 0), (1, vI (f : Int)), (2, vI (((bo nm) : Nat) : Int)), (3, vI (((gts fr te (bo nm) f ne) : Nat) : Int)), (4, vI (e : Int))] [vI (e : Int), .ref 5] [ob 1 [.ref 1, .ref 2, .ref 3, .ref 4, .ref 5, .ref 6, .ref 7, .ref 8, .ref 9, .ref 10, .ref 11, .ref 12, .ref 13, vI (nn : Int), vI (ne : Int), vI (nm : Int)], cN 512 fr, cN 512 to, cI 512 wo, cN 512 te, cZ 512 g, cI 401 fo, cI 512 no, cN 16 mb, cN 16 mw, cI 16 ml, cN 16 ma, cI 16 sk, cN 17 bo] 0 0)
                refine ⟨e, ⟨by omega, by omega, rfl⟩, ?_⟩
                refine ⟨fun c90 => ?_, fun c90 => ?_⟩
                · 
                  rw [kI_eq (by omega)] at c90
                  refine sq_ok rfl [(.iconst 0, 0, 0, 0), (.bastore, 0, 0, 0)] 97 _ _ _ _ _ (by decide +kernel) ?_
                  show ∃ (j98 : Nat) (g98 : Nat → Int32), (mj 512 (kI (e : Int)) j98 ∧ g98 = upd (fun q => bI (g q)) j98 (vp_nar .boolean (kI 0))) ∧ WM mX1_endMatch 0 0 Post 14 99 [(0, .ref 0), (1, vI (f : Int)), (2, vI (((bo nm) : Nat) : Int)), (3, vI (((gts fr te (bo nm) f ne) : Nat) : Int)), (4, vI (e : Int))] [] [ob 1 [.ref 1, .ref 2, .ref 3, .ref 4, .ref 5, .ref 6, .ref 7, .ref 8, .ref 9, .ref 10, .ref 11, .ref 12, .ref 13, vI (nn : Int), vI (ne : Int), vI (nm : Int)], cN 512 fr, cN 512 to, cI 512 wo, cN 512 te, .inl (3, 512, .inl g98), cI 401 fo, cI 512 no, cN 16 mb, cN 16 mw, cI 16 ml, cN 16 ma, cI 16 sk, cN 17 bo] 0 0
                  refine ⟨e, fun q => bI ((va_up g e false) q), ⟨⟨by omega, by omega, rfl⟩, st_Z (rfl)⟩, ?_⟩
                  refine sq_ok rfl [(.iinc 4 1, 0, 0, 0), (.goto (-46), 0, 0, 0)] 99 _ _ _ _ _ (by decide +kernel) ?_
                  show WM mX1_endMatch 0 0 Post 14 56 [(0, .ref 0), (1, vI (f : Int)), (2, vI (((bo nm) : Nat) : Int)), (3, vI (((gts fr te (bo nm) f ne) : Nat) : Int)), (4, .int ((kI (e : Int)) + (kI 1)))] [] [ob 1 [.ref 1, .ref 2, .ref 3, .ref 4, .ref 5, .ref 6, .ref 7, .ref 8, .ref 9, .ref 10, .ref 11, .ref 12, .ref 13, vI (nn : Int), vI (ne : Int), vI (nm : Int)], cN 512 fr, cN 512 to, cI 512 wo, cN 512 te, cZ 512 (va_up g e false), cI 401 fo, cI 512 no, cN 16 mb, cN 16 mw, cI 16 ml, cN 16 ma, cI 16 sk, cN 17 bo] 0 0
                  have e7 : ((kI (e : Int)) + (kI 1)) = kI (((e + 1) : Nat) : Int) := by first | (simp only [kI_add, kI_sub, kI_mul]; done) | (simp only [kI_add, kI_sub, kI_mul]; rfl)
                  rw [e7]
                  exact WM.pick [0, 1, 2, 3, 4] rfl (ih56 (e + 1) (va_up g e false) (by omega) (by subst hg; first | exact hvy_step (by omega) (decide_eq_true (by omega)).symm | exact hvy_step (by omega) (decide_eq_false (by omega)).symm) (by omega))
                · 
                  rw [kI_eq (by omega)] at c90
                  refine sq_ok rfl [(.iconst 1, 0, 0, 0), (.goto 4, 0, 0, 0)] 93 _ _ _ _ _ (by decide +kernel) ?_
                  show WM mX1_endMatch 0 0 Post 14 98 [(0, .ref 0), (1, vI (f : Int)), (2, vI (((bo nm) : Nat) : Int)), (3, vI (((gts fr te (bo nm) f ne) : Nat) : Int)), (4, vI (e : Int))] [vI 1, vI (e : Int), .ref 5] [ob 1 [.ref 1, .ref 2, .ref 3, .ref 4, .ref 5, .ref 6, .ref 7, .ref 8, .ref 9, .ref 10, .ref 11, .ref 12, .ref 13, vI (nn : Int), vI (ne : Int), vI (nm : Int)], cN 512 fr, cN 512 to, cI 512 wo, cN 512 te, cZ 512 g, cI 401 fo, cI 512 no, cN 16 mb, cN 16 mw, cI 16 ml, cN 16 ma, cI 16 sk, cN 17 bo] 0 0
                  refine sq_ok rfl [(.bastore, 0, 0, 0)] 98 _ _ _ _ _ (by decide +kernel) ?_
                  show ∃ (j98 : Nat) (g98 : Nat → Int32), (mj 512 (kI (e : Int)) j98 ∧ g98 = upd (fun q => bI (g q)) j98 (vp_nar .boolean (kI 1))) ∧ WM mX1_endMatch 0 0 Post 14 99 [(0, .ref 0), (1, vI (f : Int)), (2, vI (((bo nm) : Nat) : Int)), (3, vI (((gts fr te (bo nm) f ne) : Nat) : Int)), (4, vI (e : Int))] [] [ob 1 [.ref 1, .ref 2, .ref 3, .ref 4, .ref 5, .ref 6, .ref 7, .ref 8, .ref 9, .ref 10, .ref 11, .ref 12, .ref 13, vI (nn : Int), vI (ne : Int), vI (nm : Int)], cN 512 fr, cN 512 to, cI 512 wo, cN 512 te, .inl (3, 512, .inl g98), cI 401 fo, cI 512 no, cN 16 mb, cN 16 mw, cI 16 ml, cN 16 ma, cI 16 sk, cN 17 bo] 0 0
                  refine ⟨e, fun q => bI ((va_up g e true) q), ⟨⟨by omega, by omega, rfl⟩, st_Z (rfl)⟩, ?_⟩
                  refine sq_ok rfl [(.iinc 4 1, 0, 0, 0), (.goto (-46), 0, 0, 0)] 99 _ _ _ _ _ (by decide +kernel) ?_
                  show WM mX1_endMatch 0 0 Post 14 56 [(0, .ref 0), (1, vI (f : Int)), (2, vI (((bo nm) : Nat) : Int)), (3, vI (((gts fr te (bo nm) f ne) : Nat) : Int)), (4, .int ((kI (e : Int)) + (kI 1)))] [] [ob 1 [.ref 1, .ref 2, .ref 3, .ref 4, .ref 5, .ref 6, .ref 7, .ref 8, .ref 9, .ref 10, .ref 11, .ref 12, .ref 13, vI (nn : Int), vI (ne : Int), vI (nm : Int)], cN 512 fr, cN 512 to, cI 512 wo, cN 512 te, cZ 512 (va_up g e true), cI 401 fo, cI 512 no, cN 16 mb, cN 16 mw, cI 16 ml, cN 16 ma, cI 16 sk, cN 17 bo] 0 0
                  have e8 : ((kI (e : Int)) + (kI 1)) = kI (((e + 1) : Nat) : Int) := by first | (simp only [kI_add, kI_sub, kI_mul]; done) | (simp only [kI_add, kI_sub, kI_mul]; rfl)
                  rw [e8]
                  exact WM.pick [0, 1, 2, 3, 4] rfl (ih56 (e + 1) (va_up g e true) (by omega) (by subst hg; first | exact hvy_step (by omega) (decide_eq_true (by omega)).symm | exact hvy_step (by omega) (decide_eq_false (by omega)).symm) (by omega))
        rw [show e = ne by omega]
        exact WM.pick [0, 1, 2, 3, 4] rfl (lp56 _ f hv (by omega) (by funext q; unfold hvy; rw [if_neg (by omega)]) (Nat.lt_succ_self _))
      · 
        rw [kI_le (by omega)] at c21
        have hfe := hfr e (by omega)
        have hee := hte e (by omega)
        have hgl : (gts fr te (bo nm) f e) ≤ 10 := gts_le (fun j hj => hte j (by omega))
        refine sq_ok rfl [(.aload_n 0, 0, 0, 0), (.getfield 9, 1, 0, 0), (.iload 4, 0, 0, 0), (.iaload, 0, 0, 0), (.iload_n 2, 0, 0, 0), (.if_icmp .ne 15, 0, 0, 0)] 24 _ _ _ _ _ (by decide +kernel) ?_
        show ∃ j30 : Nat, mj 512 (kI (e : Int)) j30 ∧ (¬ kI ((fr j30 : Nat) : Int) = kI (((bo nm) : Nat) : Int) → WM mX1_endMatch 0 0 Post 14 47 [(0, .ref 0), (1, vI (f : Int)), (2, vI (((bo nm) : Nat) : Int)), (3, vI (((gts fr te (bo nm) f e) : Nat) : Int)), (4, vI (e : Int))] [] [ob 1 [.ref 1, .ref 2, .ref 3, .ref 4, .ref 5, .ref 6, .ref 7, .ref 8, .ref 9, .ref 10, .ref 11, .ref 12, .ref 13, vI (nn : Int), vI (ne : Int), vI (nm : Int)], cN 512 fr, cN 512 to, cI 512 wo, cN 512 te, cZ 512 hv, cI 401 fo, cI 512 no, cN 16 mb, cN 16 mw, cI 16 ml, cN 16 ma, cI 16 sk, cN 17 bo] 0 0) ∧ (kI ((fr j30 : Nat) : Int) = kI (((bo nm) : Nat) : Int) → WM mX1_endMatch 0 0 Post 14 35 [(0, .ref 0), (1, vI (f : Int)), (2, vI (((bo nm) : Nat) : Int)), (3, vI (((gts fr te (bo nm) f e) : Nat) : Int)), (4, vI (e : Int))] [] [ob 1 [.ref 1, .ref 2, .ref 3, .ref 4, .ref 5, .ref 6, .ref 7, .ref 8, .ref 9, .ref 10, .ref 11, .ref 12, .ref 13, vI (nn : Int), vI (ne : Int), vI (nm : Int)], cN 512 fr, cN 512 to, cI 512 wo, cN 512 te, cZ 512 hv, cI 401 fo, cI 512 no, cN 16 mb, cN 16 mw, cI 16 ml, cN 16 ma, cI 16 sk, cN 17 bo] 0 0)
        refine ⟨e, ⟨by omega, by omega, rfl⟩, ?_⟩
        refine ⟨fun c32 => ?_, fun c32 => ?_⟩
        · 
          rw [kI_eq (by omega)] at c32
          have hgt : gts fr te (bo nm) f (e + 1) = (gts fr te (bo nm) f e) := by simp only [gts]; rw [if_neg (by omega)]
          refine sq_ok rfl [(.iinc 4 1, 0, 0, 0), (.goto (-35), 0, 0, 0)] 47 _ _ _ _ _ (by decide +kernel) ?_
          show WM mX1_endMatch 0 0 Post 14 15 [(0, .ref 0), (1, vI (f : Int)), (2, vI (((bo nm) : Nat) : Int)), (3, vI (((gts fr te (bo nm) f e) : Nat) : Int)), (4, .int ((kI (e : Int)) + (kI 1)))] [] [ob 1 [.ref 1, .ref 2, .ref 3, .ref 4, .ref 5, .ref 6, .ref 7, .ref 8, .ref 9, .ref 10, .ref 11, .ref 12, .ref 13, vI (nn : Int), vI (ne : Int), vI (nm : Int)], cN 512 fr, cN 512 to, cI 512 wo, cN 512 te, cZ 512 hv, cI 401 fo, cI 512 no, cN 16 mb, cN 16 mw, cI 16 ml, cN 16 ma, cI 16 sk, cN 17 bo] 0 0
          have e10 : ((kI (e : Int)) + (kI 1)) = kI (((e + 1) : Nat) : Int) := by first | (simp only [kI_add, kI_sub, kI_mul]; done) | (simp only [kI_add, kI_sub, kI_mul]; rfl)
          rw [e10]
          rw [← hgt]
          exact WM.pick [0, 1, 2, 3, 4] rfl (ih15 (e + 1) (by omega) (by omega))
        · 
          rw [kI_eq (by omega)] at c32
          have hgt : gts fr te (bo nm) f (e + 1) = max (gts fr te (bo nm) f e) (te e) := by simp only [gts]; rw [if_pos (by omega)]
          refine sq_ok rfl [(.iload_n 3, 0, 0, 0), (.aload_n 0, 0, 0, 0), (.getfield 21, 1, 3, 0), (.iload 4, 0, 0, 0), (.iaload, 0, 0, 0)] 35 _ _ _ _ _ (by decide +kernel) ?_
          show ∃ j42 : Nat, mj 512 (kI (e : Int)) j42 ∧ WM mX1_endMatch 0 0 Post 14 43 [(0, .ref 0), (1, vI (f : Int)), (2, vI (((bo nm) : Nat) : Int)), (3, vI (((gts fr te (bo nm) f e) : Nat) : Int)), (4, vI (e : Int))] [vI ((te j42 : Nat) : Int), vI (((gts fr te (bo nm) f e) : Nat) : Int)] [ob 1 [.ref 1, .ref 2, .ref 3, .ref 4, .ref 5, .ref 6, .ref 7, .ref 8, .ref 9, .ref 10, .ref 11, .ref 12, .ref 13, vI (nn : Int), vI (ne : Int), vI (nm : Int)], cN 512 fr, cN 512 to, cI 512 wo, cN 512 te, cZ 512 hv, cI 401 fo, cI 512 no, cN 16 mb, cN 16 mw, cI 16 ml, cN 16 ma, cI 16 sk, cN 17 bo] 0 0
          refine ⟨e, ⟨by omega, by omega, rfl⟩, ?_⟩
          refine wm_max (by unfold iR; omega) (by unfold iR; omega) (by decide +kernel) kX1_113 ⟨Nat.le_of_ble_eq_true rfl, Nat.le_of_ble_eq_true rfl⟩ ⟨Nat.le_of_ble_eq_true rfl, Nat.le_of_ble_eq_true rfl⟩ ?_
          rw [show (max (((gts fr te (bo nm) f e) : Nat) : Int) ((te e : Nat) : Int)) = (((max (gts fr te (bo nm) f e) (te e)) : Nat) : Int) from by omega]
          show WM mX1_endMatch 0 0 Post 14 46 [(0, .ref 0), (1, vI (f : Int)), (2, vI (((bo nm) : Nat) : Int)), (3, vI (((gts fr te (bo nm) f e) : Nat) : Int)), (4, vI (e : Int))] [vI (((max (gts fr te (bo nm) f e) (te e)) : Nat) : Int)] [ob 1 [.ref 1, .ref 2, .ref 3, .ref 4, .ref 5, .ref 6, .ref 7, .ref 8, .ref 9, .ref 10, .ref 11, .ref 12, .ref 13, vI (nn : Int), vI (ne : Int), vI (nm : Int)], cN 512 fr, cN 512 to, cI 512 wo, cN 512 te, cZ 512 hv, cI 401 fo, cI 512 no, cN 16 mb, cN 16 mw, cI 16 ml, cN 16 ma, cI 16 sk, cN 17 bo] 0 0
          refine sq_ok rfl [(.istore_n 3, 0, 0, 0), (.iinc 4 1, 0, 0, 0), (.goto (-35), 0, 0, 0)] 46 _ _ _ _ _ (by decide +kernel) ?_
          show WM mX1_endMatch 0 0 Post 14 15 [(0, .ref 0), (1, vI (f : Int)), (2, vI (((bo nm) : Nat) : Int)), (3, vI (((max (gts fr te (bo nm) f e) (te e)) : Nat) : Int)), (4, .int ((kI (e : Int)) + (kI 1)))] [] [ob 1 [.ref 1, .ref 2, .ref 3, .ref 4, .ref 5, .ref 6, .ref 7, .ref 8, .ref 9, .ref 10, .ref 11, .ref 12, .ref 13, vI (nn : Int), vI (ne : Int), vI (nm : Int)], cN 512 fr, cN 512 to, cI 512 wo, cN 512 te, cZ 512 hv, cI 401 fo, cI 512 no, cN 16 mb, cN 16 mw, cI 16 ml, cN 16 ma, cI 16 sk, cN 17 bo] 0 0
          have e11 : ((kI (e : Int)) + (kI 1)) = kI (((e + 1) : Nat) : Int) := by first | (simp only [kI_add, kI_sub, kI_mul]; done) | (simp only [kI_add, kI_sub, kI_mul]; rfl)
          rw [e11]
          rw [← hgt]
          exact WM.pick [0, 1, 2, 3, 4] rfl (ih15 (e + 1) (by omega) (by omega))
  rw [show (0 : Int) = ((gts fr te (bo nm) f f : Nat) : Int) from by rw [gts_0 (Nat.le_refl f)]; rfl]
  exact WM.pick [0, 1, 2, 3, 4] rfl (lp15 _ f (by omega) (Nat.lt_succ_self _))
