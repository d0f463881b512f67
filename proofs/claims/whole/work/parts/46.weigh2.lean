/-! Weigher.go -/

set_option maxRecDepth 100000 in
set_option maxHeartbeats 500000 in
theorem c_X8_goFrom (ga gb : Nat → Nat) (ho : Bool) (fr to : Nat → Nat) (wo : Nat → Int) (te : Nat → Nat) (hv : Nat → Bool) (fo no : Nat → Int) (mb mw : Nat → Nat) (ml : Nat → Int) (ma : Nat → Nat) (sk : Nat → Int) (bo : Nat → Nat) (nn ne nm : Nat) (hnm : nm ≤ 16) (hne : ne ≤ 512) (hnn : nn ≤ 401) (hG : chn fr fo no nn ne) (hto : ∀ e, e < ne → to e < nn) (hte : ∀ e, e < ne → te e ≤ 10) (hskn : ∀ m, m < nm → -2 ≤ sk m ∧ sk m < ne) (hwo : ∀ e, e < ne → -2 ≤ wo e ∧ wo e < 200) (hb : ∀ v, v < nn → ga v ≤ 10000000000000000) (v : Nat) (hvn : v < nn) (x : Int) (hx : -2147483648 ≤ x ∧ x ≤ 2147483647) (Q : Nat → Prop) (hQ : ∀ e, Q e → e < ne) (hM : isMx nn Q (fun e => tnO (ga (fr e)) (te e)) to gb) : CT mX8_goFrom 0 0 [.ref 0, .ref 1, vI (v : Int), vI x] [ob 8 [.ref 15, .ref 16, vZ ho], ob 1 [.ref 2, .ref 3, .ref 4, .ref 5, .ref 6, .ref 7, .ref 8, .ref 9, .ref 10, .ref 11, .ref 12, .ref 13, .ref 14, vI (nn : Int), vI (ne : Int), vI (nm : Int)], cN 512 fr, cN 512 to, cI 512 wo, cN 512 te, cZ 512 hv, cI 401 fo, cI 512 no, cN 16 mb, cN 16 mw, cI 16 ml, cN 16 ma, cI 16 sk, cN 17 bo, cK 401 ga, cK 401 gb] (fun r w => ∃ gb2 : Nat → Nat, r = none ∧ w = [ob 8 [.ref 15, .ref 16, vZ ho], ob 1 [.ref 2, .ref 3, .ref 4, .ref 5, .ref 6, .ref 7, .ref 8, .ref 9, .ref 10, .ref 11, .ref 12, .ref 13, .ref 14, vI (nn : Int), vI (ne : Int), vI (nm : Int)], cN 512 fr, cN 512 to, cI 512 wo, cN 512 te, cZ 512 hv, cI 401 fo, cI 512 no, cN 16 mb, cN 16 mw, cI 16 ml, cN 16 ma, cI 16 sk, cN 17 bo, cK 401 ga, cK 401 gb2] ∧ isMx nn (fun e => Q e ∨ (e < ne ∧ fr e = v ∧ wo e = x ∧ alE ho hv e = true)) (fun e => tnO (ga (fr e)) (te e)) to gb2) := by
  refine CT.intro rfl (Nat.le_of_ble_eq_true rfl) ?_
  generalize hPost : (fun r w => ∃ gb2 : Nat → Nat, r = none ∧ w = [ob 8 [.ref 15, .ref 16, vZ ho], ob 1 [.ref 2, .ref 3, .ref 4, .ref 5, .ref 6, .ref 7, .ref 8, .ref 9, .ref 10, .ref 11, .ref 12, .ref 13, .ref 14, vI (nn : Int), vI (ne : Int), vI (nm : Int)], cN 512 fr, cN 512 to, cI 512 wo, cN 512 te, cZ 512 hv, cI 401 fo, cI 512 no, cN 16 mb, cN 16 mw, cI 16 ml, cN 16 ma, cI 16 sk, cN 17 bo, cK 401 ga, cK 401 gb2] ∧ isMx nn (fun e => Q e ∨ (e < ne ∧ fr e = v ∧ wo e = x ∧ alE ho hv e = true)) (fun e => tnO (ga (fr e)) (te e)) to gb2 : MP) = Post
  have hPo : ∀ rr ww, (fun r w => ∃ gb2 : Nat → Nat, r = none ∧ w = [ob 8 [.ref 15, .ref 16, vZ ho], ob 1 [.ref 2, .ref 3, .ref 4, .ref 5, .ref 6, .ref 7, .ref 8, .ref 9, .ref 10, .ref 11, .ref 12, .ref 13, .ref 14, vI (nn : Int), vI (ne : Int), vI (nm : Int)], cN 512 fr, cN 512 to, cI 512 wo, cN 512 te, cZ 512 hv, cI 401 fo, cI 512 no, cN 16 mb, cN 16 mw, cI 16 ml, cN 16 ma, cI 16 sk, cN 17 bo, cK 401 ga, cK 401 gb2] ∧ isMx nn (fun e => Q e ∨ (e < ne ∧ fr e = v ∧ wo e = x ∧ alE ho hv e = true)) (fun e => tnO (ga (fr e)) (te e)) to gb2 : MP) rr ww → Post rr ww := by rw [← hPost]; exact fun _ _ h => h
  clear hPost
  show WM mX8_goFrom 0 0 Post 17 0 [(0, .ref 0), (1, .ref 1), (2, vI (v : Int)), (3, vI x)] [] [ob 8 [.ref 15, .ref 16, vZ ho], ob 1 [.ref 2, .ref 3, .ref 4, .ref 5, .ref 6, .ref 7, .ref 8, .ref 9, .ref 10, .ref 11, .ref 12, .ref 13, .ref 14, vI (nn : Int), vI (ne : Int), vI (nm : Int)], cN 512 fr, cN 512 to, cI 512 wo, cN 512 te, cZ 512 hv, cI 401 fo, cI 512 no, cN 16 mb, cN 16 mw, cI 16 ml, cN 16 ma, cI 16 sk, cN 17 bo, cK 401 ga, cK 401 gb] 0 0
  refine sq_ok rfl [(.aload_n 1, 0, 0, 0), (.getfield 44, 1, 5, 0), (.iload_n 2, 0, 0, 0), (.iaload, 0, 0, 0)] 0 _ _ _ _ _ (by decide +kernel) ?_
  show ∃ j5 : Nat, mj 401 (kI (v : Int)) j5 ∧ WM mX8_goFrom 0 0 Post 17 6 [(0, .ref 0), (1, .ref 1), (2, vI (v : Int)), (3, vI x)] [.int (kI (fo j5))] [ob 8 [.ref 15, .ref 16, vZ ho], ob 1 [.ref 2, .ref 3, .ref 4, .ref 5, .ref 6, .ref 7, .ref 8, .ref 9, .ref 10, .ref 11, .ref 12, .ref 13, .ref 14, vI (nn : Int), vI (ne : Int), vI (nm : Int)], cN 512 fr, cN 512 to, cI 512 wo, cN 512 te, cZ 512 hv, cI 401 fo, cI 512 no, cN 16 mb, cN 16 mw, cI 16 ml, cN 16 ma, cI 16 sk, cN 17 bo, cK 401 ga, cK 401 gb] 0 0
  refine ⟨v, ⟨by omega, by omega, rfl⟩, ?_⟩
  have e1 : kI (fo v) = kI (oI (lstE fr v ne)) := by rw [hG.1 v hvn]
  rw [e1]
  refine sq_ok rfl [(.istore 4, 0, 0, 0), (.iconst 0, 0, 0, 0), (.istore 5, 0, 0, 0)] 6 _ _ _ _ _ (by decide +kernel) ?_
  show WM mX8_goFrom 0 0 Post 17 11 [(0, .ref 0), (1, .ref 1), (2, vI (v : Int)), (3, vI x), (4, vI (oI (lstE fr v ne))), (5, vI 0)] [] [ob 8 [.ref 15, .ref 16, vZ ho], ob 1 [.ref 2, .ref 3, .ref 4, .ref 5, .ref 6, .ref 7, .ref 8, .ref 9, .ref 10, .ref 11, .ref 12, .ref 13, .ref 14, vI (nn : Int), vI (ne : Int), vI (nm : Int)], cN 512 fr, cN 512 to, cI 512 wo, cN 512 te, cZ 512 hv, cI 401 fo, cI 512 no, cN 16 mb, cN 16 mw, cI 16 ml, cN 16 ma, cI 16 sk, cN 17 bo, cK 401 ga, cK 401 gb] 0 0
  have lp11 : ∀ (n11 : Nat) (k : Nat) (n : Nat) (gb1 : Nat → Nat), (k + n ≤ ne) → (isMx nn (fun e => Q e ∨ (k ≤ e ∧ e < ne ∧ fr e = v ∧ wo e = x ∧ alE ho hv e = true)) (fun e => tnO (ga (fr e)) (te e)) to gb1) → (512 - n) < n11 → WM mX8_goFrom 0 0 Post 17 11 [(0, .ref 0), (1, .ref 1), (2, vI (v : Int)), (3, vI x), (4, vI (oI (lstE fr v k))), (5, vI (n : Int))] [] [ob 8 [.ref 15, .ref 16, vZ ho], ob 1 [.ref 2, .ref 3, .ref 4, .ref 5, .ref 6, .ref 7, .ref 8, .ref 9, .ref 10, .ref 11, .ref 12, .ref 13, .ref 14, vI (nn : Int), vI (ne : Int), vI (nm : Int)], cN 512 fr, cN 512 to, cI 512 wo, cN 512 te, cZ 512 hv, cI 401 fo, cI 512 no, cN 16 mb, cN 16 mw, cI 16 ml, cN 16 ma, cI 16 sk, cN 17 bo, cK 401 ga, cK 401 gb1] 0 0 := by
    intro n11
    induction n11 with
    | zero => intro k n gb1 hk hM1 hm; exact absurd hm (Nat.not_lt_zero _)
    | succ n11 ih11 =>
      intro k n gb1 hk hM1 hm11
      have hzR : -2147483648 ≤ oI (lstE fr v k) ∧ oI (lstE fr v k) ≤ 2147483647 := oI_R (n := k) (fun j hj => (lstE_step hj).1) (by omega)
      refine sq_ok rfl [(.iload 5, 0, 0, 0), (.sipush 512, 0, 0, 0), (.if_icmp .ge 49, 0, 0, 0)] 11 _ _ _ _ _ (by decide +kernel) ?_
      show (kI 512 ≤ kI (n : Int) → WM mX8_goFrom 0 0 Post 17 65 [(0, .ref 0), (1, .ref 1), (2, vI (v : Int)), (3, vI x), (4, vI (oI (lstE fr v k))), (5, vI (n : Int))] [] [ob 8 [.ref 15, .ref 16, vZ ho], ob 1 [.ref 2, .ref 3, .ref 4, .ref 5, .ref 6, .ref 7, .ref 8, .ref 9, .ref 10, .ref 11, .ref 12, .ref 13, .ref 14, vI (nn : Int), vI (ne : Int), vI (nm : Int)], cN 512 fr, cN 512 to, cI 512 wo, cN 512 te, cZ 512 hv, cI 401 fo, cI 512 no, cN 16 mb, cN 16 mw, cI 16 ml, cN 16 ma, cI 16 sk, cN 17 bo, cK 401 ga, cK 401 gb1] 0 0) ∧ (¬ kI 512 ≤ kI (n : Int) → WM mX8_goFrom 0 0 Post 17 19 [(0, .ref 0), (1, .ref 1), (2, vI (v : Int)), (3, vI x), (4, vI (oI (lstE fr v k))), (5, vI (n : Int))] [] [ob 8 [.ref 15, .ref 16, vZ ho], ob 1 [.ref 2, .ref 3, .ref 4, .ref 5, .ref 6, .ref 7, .ref 8, .ref 9, .ref 10, .ref 11, .ref 12, .ref 13, .ref 14, vI (nn : Int), vI (ne : Int), vI (nm : Int)], cN 512 fr, cN 512 to, cI 512 wo, cN 512 te, cZ 512 hv, cI 401 fo, cI 512 no, cN 16 mb, cN 16 mw, cI 16 ml, cN 16 ma, cI 16 sk, cN 17 bo, cK 401 ga, cK 401 gb1] 0 0)
      refine ⟨fun c16 => ?_, fun c16 => ?_⟩
      · 
        rw [kI_le (by omega)] at c16
        refine sq_ok rfl [(.return_, 0, 0, 0)] 65 _ _ _ _ _ (by decide +kernel) ?_
        show ((0 ≤ 0 ∧ 0 ≤ 0) ∧ Post none [ob 8 [.ref 15, .ref 16, vZ ho], ob 1 [.ref 2, .ref 3, .ref 4, .ref 5, .ref 6, .ref 7, .ref 8, .ref 9, .ref 10, .ref 11, .ref 12, .ref 13, .ref 14, vI (nn : Int), vI (ne : Int), vI (nm : Int)], cN 512 fr, cN 512 to, cI 512 wo, cN 512 te, cZ 512 hv, cI 401 fo, cI 512 no, cN 16 mb, cN 16 mw, cI 16 ml, cN 16 ma, cI 16 sk, cN 17 bo, cK 401 ga, cK 401 gb1])
        refine ⟨⟨Nat.le_refl _, Nat.le_refl _⟩, hPo _ _ ?_⟩
        exact ⟨gb1, rfl, rfl, hM1.congr (fun e => or_congr Iff.rfl ⟨fun q => q.2, fun q => ⟨by
          rcases Nat.lt_or_ge e k with h1 | h1
          · by_cases h3 : n < 512
            · exact absurd q.2.1 (lstE_nil (oI_neg (show ¬ 0 ≤ oI (lstE fr v k) by omega)) e h1)
            · omega
          · exact h1, q⟩⟩)⟩
      · 
        rw [kI_le (by omega)] at c16
        refine sq_ok rfl [(.iload 4, 0, 0, 0), (.ifCond .lt 44, 0, 0, 0)] 19 _ _ _ _ _ (by decide +kernel) ?_
        show (kI (oI (lstE fr v k)) < kI 0 → WM mX8_goFrom 0 0 Post 17 65 [(0, .ref 0), (1, .ref 1), (2, vI (v : Int)), (3, vI x), (4, vI (oI (lstE fr v k))), (5, vI (n : Int))] [] [ob 8 [.ref 15, .ref 16, vZ ho], ob 1 [.ref 2, .ref 3, .ref 4, .ref 5, .ref 6, .ref 7, .ref 8, .ref 9, .ref 10, .ref 11, .ref 12, .ref 13, .ref 14, vI (nn : Int), vI (ne : Int), vI (nm : Int)], cN 512 fr, cN 512 to, cI 512 wo, cN 512 te, cZ 512 hv, cI 401 fo, cI 512 no, cN 16 mb, cN 16 mw, cI 16 ml, cN 16 ma, cI 16 sk, cN 17 bo, cK 401 ga, cK 401 gb1] 0 0) ∧ (¬ kI (oI (lstE fr v k)) < kI 0 → WM mX8_goFrom 0 0 Post 17 24 [(0, .ref 0), (1, .ref 1), (2, vI (v : Int)), (3, vI x), (4, vI (oI (lstE fr v k))), (5, vI (n : Int))] [] [ob 8 [.ref 15, .ref 16, vZ ho], ob 1 [.ref 2, .ref 3, .ref 4, .ref 5, .ref 6, .ref 7, .ref 8, .ref 9, .ref 10, .ref 11, .ref 12, .ref 13, .ref 14, vI (nn : Int), vI (ne : Int), vI (nm : Int)], cN 512 fr, cN 512 to, cI 512 wo, cN 512 te, cZ 512 hv, cI 401 fo, cI 512 no, cN 16 mb, cN 16 mw, cI 16 ml, cN 16 ma, cI 16 sk, cN 17 bo, cK 401 ga, cK 401 gb1] 0 0)
        refine ⟨fun c21 => ?_, fun c21 => ?_⟩
        · 
          rw [kI_lt (by omega)] at c21
          refine sq_ok rfl [(.return_, 0, 0, 0)] 65 _ _ _ _ _ (by decide +kernel) ?_
          show ((0 ≤ 0 ∧ 0 ≤ 0) ∧ Post none [ob 8 [.ref 15, .ref 16, vZ ho], ob 1 [.ref 2, .ref 3, .ref 4, .ref 5, .ref 6, .ref 7, .ref 8, .ref 9, .ref 10, .ref 11, .ref 12, .ref 13, .ref 14, vI (nn : Int), vI (ne : Int), vI (nm : Int)], cN 512 fr, cN 512 to, cI 512 wo, cN 512 te, cZ 512 hv, cI 401 fo, cI 512 no, cN 16 mb, cN 16 mw, cI 16 ml, cN 16 ma, cI 16 sk, cN 17 bo, cK 401 ga, cK 401 gb1])
          refine ⟨⟨Nat.le_refl _, Nat.le_refl _⟩, hPo _ _ ?_⟩
          exact ⟨gb1, rfl, rfl, hM1.congr (fun e => or_congr Iff.rfl ⟨fun q => q.2, fun q => ⟨by
            rcases Nat.lt_or_ge e k with h1 | h1
            · by_cases h3 : n < 512
              · exact absurd q.2.1 (lstE_nil (oI_neg (show ¬ 0 ≤ oI (lstE fr v k) by omega)) e h1)
              · omega
            · exact h1, q⟩⟩)⟩
        · 
          rw [kI_lt (by omega)] at c21
          obtain ⟨e, he1, he2⟩ := oI_pos (show 0 ≤ oI (lstE fr v k) by omega)
          rw [he2]
          obtain ⟨he3, he4, he5⟩ := lstE_step he1
          have hwe := hwo e (by omega)
          have hnx : no e = oI (lstE fr v e) := by rw [hG.2.1 e (by omega), he4]
          have hgl : ∀ u, u < nn → gb1 u ≤ 10000000000000000 := hM1.le (fun j hj => Nat.le_trans (tnO_le (hte j (by rcases hj with hj | hj; exact hQ j hj; exact hj.2.1))) (hb _ (hG.2.2 j (by rcases hj with hj | hj; exact hQ j hj; exact hj.2.1))))
          have hfe := hG.2.2 e (by omega)
          have htoe := hto e (by omega)
          have hin : ∀ y, e ≤ y → y < ne → fr y = v → y ≠ e → k ≤ y := fun y h1 h2 h3 h4 => by
            rcases Nat.lt_or_ge y k with h5 | h5
            · exact absurd h3 (he5 y (by omega) h5)
            · exact h5
          refine sq_ok rfl [(.aload_n 1, 0, 0, 0), (.getfield 48, 1, 2, 0), (.iload 4, 0, 0, 0), (.iaload, 0, 0, 0), (.iload_n 3, 0, 0, 0), (.if_icmp .ne 18, 0, 0, 0)] 24 _ _ _ _ _ (by decide +kernel) ?_
          show ∃ j30 : Nat, mj 512 (kI (e : Int)) j30 ∧ (¬ kI (wo j30) = kI x → WM mX8_goFrom 0 0 Post 17 50 [(0, .ref 0), (1, .ref 1), (2, vI (v : Int)), (3, vI x), (4, vI (e : Int)), (5, vI (n : Int))] [] [ob 8 [.ref 15, .ref 16, vZ ho], ob 1 [.ref 2, .ref 3, .ref 4, .ref 5, .ref 6, .ref 7, .ref 8, .ref 9, .ref 10, .ref 11, .ref 12, .ref 13, .ref 14, vI (nn : Int), vI (ne : Int), vI (nm : Int)], cN 512 fr, cN 512 to, cI 512 wo, cN 512 te, cZ 512 hv, cI 401 fo, cI 512 no, cN 16 mb, cN 16 mw, cI 16 ml, cN 16 ma, cI 16 sk, cN 17 bo, cK 401 ga, cK 401 gb1] 0 0) ∧ (kI (wo j30) = kI x → WM mX8_goFrom 0 0 Post 17 35 [(0, .ref 0), (1, .ref 1), (2, vI (v : Int)), (3, vI x), (4, vI (e : Int)), (5, vI (n : Int))] [] [ob 8 [.ref 15, .ref 16, vZ ho], ob 1 [.ref 2, .ref 3, .ref 4, .ref 5, .ref 6, .ref 7, .ref 8, .ref 9, .ref 10, .ref 11, .ref 12, .ref 13, .ref 14, vI (nn : Int), vI (ne : Int), vI (nm : Int)], cN 512 fr, cN 512 to, cI 512 wo, cN 512 te, cZ 512 hv, cI 401 fo, cI 512 no, cN 16 mb, cN 16 mw, cI 16 ml, cN 16 ma, cI 16 sk, cN 17 bo, cK 401 ga, cK 401 gb1] 0 0)
          refine ⟨e, ⟨by omega, by omega, rfl⟩, ?_⟩
          refine ⟨fun c32 => ?_, fun c32 => ?_⟩
          · 
            rw [kI_eq (by omega)] at c32
            refine sq_ok rfl [(.aload_n 1, 0, 0, 0), (.getfield 55, 1, 6, 0), (.iload 4, 0, 0, 0), (.iaload, 0, 0, 0)] 50 _ _ _ _ _ (by decide +kernel) ?_
            show ∃ j56 : Nat, mj 512 (kI (e : Int)) j56 ∧ WM mX8_goFrom 0 0 Post 17 57 [(0, .ref 0), (1, .ref 1), (2, vI (v : Int)), (3, vI x), (4, vI (e : Int)), (5, vI (n : Int))] [.int (kI (no j56))] [ob 8 [.ref 15, .ref 16, vZ ho], ob 1 [.ref 2, .ref 3, .ref 4, .ref 5, .ref 6, .ref 7, .ref 8, .ref 9, .ref 10, .ref 11, .ref 12, .ref 13, .ref 14, vI (nn : Int), vI (ne : Int), vI (nm : Int)], cN 512 fr, cN 512 to, cI 512 wo, cN 512 te, cZ 512 hv, cI 401 fo, cI 512 no, cN 16 mb, cN 16 mw, cI 16 ml, cN 16 ma, cI 16 sk, cN 17 bo, cK 401 ga, cK 401 gb1] 0 0
            refine ⟨e, ⟨by omega, by omega, rfl⟩, ?_⟩
            have e5 : kI (no e) = kI (oI (lstE fr v e)) := by rw [hnx]
            rw [e5]
            refine sq_ok rfl [(.istore 4, 0, 0, 0), (.iinc 5 1, 0, 0, 0), (.goto (-51), 0, 0, 0)] 57 _ _ _ _ _ (by decide +kernel) ?_
            show WM mX8_goFrom 0 0 Post 17 11 [(0, .ref 0), (1, .ref 1), (2, vI (v : Int)), (3, vI x), (4, vI (oI (lstE fr v e))), (5, .int ((kI (n : Int)) + (kI 1)))] [] [ob 8 [.ref 15, .ref 16, vZ ho], ob 1 [.ref 2, .ref 3, .ref 4, .ref 5, .ref 6, .ref 7, .ref 8, .ref 9, .ref 10, .ref 11, .ref 12, .ref 13, .ref 14, vI (nn : Int), vI (ne : Int), vI (nm : Int)], cN 512 fr, cN 512 to, cI 512 wo, cN 512 te, cZ 512 hv, cI 401 fo, cI 512 no, cN 16 mb, cN 16 mw, cI 16 ml, cN 16 ma, cI 16 sk, cN 17 bo, cK 401 ga, cK 401 gb1] 0 0
            have e6 : ((kI (n : Int)) + (kI 1)) = kI (((n + 1) : Nat) : Int) := by first | (simp only [kI_add, kI_sub, kI_mul]; done) | (simp only [kI_add, kI_sub, kI_mul]; rfl)
            rw [e6]
            exact WM.pick [0, 1, 2, 3, 4, 5] rfl (ih11 e (n + 1) gb1 (by omega) (by
                by_cases hcw : wo e = x
                · first
                  | exact absurd hcw c32
                  | (cases hal : alE ho hv e with
                    | true =>
                      rw [show alO true (to e) (tnO (ga (fr e)) (te e)) gb1 = va_up gb1 (to e) (max (gb1 (to e)) (tnO (ga (fr e)) (te e))) from rfl]
                      refine (hM1.add (e := e)).congr (fun y => ⟨fun q => ?_, fun q => ?_⟩)
                      · rcases q with (q | q) | q
                        · exact Or.inl q
                        · exact Or.inr ⟨by omega, q.2⟩
                        · rw [q]; exact Or.inr ⟨Nat.le_refl _, by omega, he4, hcw, hal⟩
                      · rcases q with q | q
                        · exact Or.inl (Or.inl q)
                        · by_cases hy : y = e
                          · exact Or.inr hy
                          · exact Or.inl (Or.inr ⟨hin y q.1 q.2.1 q.2.2.1 hy, q.2⟩)
                    | false =>
                      rw [show alO false (to e) (tnO (ga (fr e)) (te e)) gb1 = gb1 from rfl]
                      refine hM1.congr (fun y => or_congr Iff.rfl ⟨fun q => ⟨by omega, q.2⟩, fun q => ⟨hin y q.1 q.2.1 q.2.2.1 (fun hy => ?_), q.2⟩⟩)
                      rw [hy, hal] at q
                      exact absurd q.2.2.2.2 (by decide))
                · first
                  | exact absurd c32 hcw
                  | exact hM1.congr (fun y => or_congr Iff.rfl ⟨fun q => ⟨by omega, q.2⟩, fun q => ⟨hin y q.1 q.2.1 q.2.2.1 (fun hy => hcw (by rw [← hy]; exact q.2.2.2.1)), q.2⟩⟩)) (by omega))
          · 
            rw [kI_eq (by omega)] at c32
            refine sq_ok rfl [(.aload_n 0, 0, 0, 0), (.aload_n 1, 0, 0, 0), (.iload 4, 0, 0, 0), (.aload_n 0, 0, 0, 0), (.getfield 9, 8, 0, 0), (.aload_n 0, 0, 0, 0), (.getfield 15, 8, 1, 0)] 35 _ _ _ _ _ (by decide +kernel) ?_
            show WM mX8_goFrom 0 0 Post 17 47 [(0, .ref 0), (1, .ref 1), (2, vI (v : Int)), (3, vI x), (4, vI (e : Int)), (5, vI (n : Int))] [.ref 16, .ref 15, vI (e : Int), .ref 1, .ref 0] [ob 8 [.ref 15, .ref 16, vZ ho], ob 1 [.ref 2, .ref 3, .ref 4, .ref 5, .ref 6, .ref 7, .ref 8, .ref 9, .ref 10, .ref 11, .ref 12, .ref 13, .ref 14, vI (nn : Int), vI (ne : Int), vI (nm : Int)], cN 512 fr, cN 512 to, cI 512 wo, cN 512 te, cZ 512 hv, cI 401 fo, cI 512 no, cN 16 mb, cN 16 mw, cI 16 ml, cN 16 ma, cI 16 sk, cN 17 bo, cK 401 ga, cK 401 gb1] 0 0
            refine wm_callV (y := mX8_goFrom) mX8_along [0, 1, 2, 3, 4, 5, 6, 7, 8, 9, 10, 11, 12, 13, 14, 15, 16] (pc := 47) (rest := []) (mc' := 0) (ms' := 0) (by decide +kernel) kX8_51 (c_X8_along ga gb1 ho fr to wo te hv fo no mb mw ml ma sk bo nn ne nm e (by omega) (by omega) (by omega) (hte e (by omega)) (hb _ hfe) (hgl _ htoe)) rfl rfl ⟨_, rfl, rfl⟩ ⟨Nat.le_of_ble_eq_true rfl, Nat.le_of_ble_eq_true rfl⟩ ⟨Nat.le_of_ble_eq_true rfl, Nat.le_of_ble_eq_true rfl⟩ (Nat.le_of_ble_eq_true rfl) rfl rfl (Nat.le_of_ble_eq_true rfl) rfl ?_
            rintro _ _ ⟨rfl, rfl⟩
            show WM mX8_goFrom 0 0 Post 17 50 [(0, .ref 0), (1, .ref 1), (2, vI (v : Int)), (3, vI x), (4, vI (e : Int)), (5, vI (n : Int))] [] [ob 8 [.ref 15, .ref 16, vZ ho], ob 1 [.ref 2, .ref 3, .ref 4, .ref 5, .ref 6, .ref 7, .ref 8, .ref 9, .ref 10, .ref 11, .ref 12, .ref 13, .ref 14, vI (nn : Int), vI (ne : Int), vI (nm : Int)], cN 512 fr, cN 512 to, cI 512 wo, cN 512 te, cZ 512 hv, cI 401 fo, cI 512 no, cN 16 mb, cN 16 mw, cI 16 ml, cN 16 ma, cI 16 sk, cN 17 bo, cK 401 ga, cK 401 (alO (alE ho hv e) (to e) (tnO (ga (fr e)) (te e)) gb1)] 0 0
            refine sq_ok rfl [(.aload_n 1, 0, 0, 0), (.getfield 55, 1, 6, 0), (.iload 4, 0, 0, 0), (.iaload, 0, 0, 0)] 50 _ _ _ _ _ (by decide +kernel) ?_
            show ∃ j56 : Nat, mj 512 (kI (e : Int)) j56 ∧ WM mX8_goFrom 0 0 Post 17 57 [(0, .ref 0), (1, .ref 1), (2, vI (v : Int)), (3, vI x), (4, vI (e : Int)), (5, vI (n : Int))] [.int (kI (no j56))] [ob 8 [.ref 15, .ref 16, vZ ho], ob 1 [.ref 2, .ref 3, .ref 4, .ref 5, .ref 6, .ref 7, .ref 8, .ref 9, .ref 10, .ref 11, .ref 12, .ref 13, .ref 14, vI (nn : Int), vI (ne : Int), vI (nm : Int)], cN 512 fr, cN 512 to, cI 512 wo, cN 512 te, cZ 512 hv, cI 401 fo, cI 512 no, cN 16 mb, cN 16 mw, cI 16 ml, cN 16 ma, cI 16 sk, cN 17 bo, cK 401 ga, cK 401 (alO (alE ho hv e) (to e) (tnO (ga (fr e)) (te e)) gb1)] 0 0
            refine ⟨e, ⟨by omega, by omega, rfl⟩, ?_⟩
            have e7 : kI (no e) = kI (oI (lstE fr v e)) := by rw [hnx]
            rw [e7]
            refine sq_ok rfl [(.istore 4, 0, 0, 0), (.iinc 5 1, 0, 0, 0), (.goto (-51), 0, 0, 0)] 57 _ _ _ _ _ (by decide +kernel) ?_
            show WM mX8_goFrom 0 0 Post 17 11 [(0, .ref 0), (1, .ref 1), (2, vI (v : Int)), (3, vI x), (4, vI (oI (lstE fr v e))), (5, .int ((kI (n : Int)) + (kI 1)))] [] [ob 8 [.ref 15, .ref 16, vZ ho], ob 1 [.ref 2, .ref 3, .ref 4, .ref 5, .ref 6, .ref 7, .ref 8, .ref 9, .ref 10, .ref 11, .ref 12, .ref 13, .ref 14, vI (nn : Int), vI (ne : Int), vI (nm : Int)], cN 512 fr, cN 512 to, cI 512 wo, cN 512 te, cZ 512 hv, cI 401 fo, cI 512 no, cN 16 mb, cN 16 mw, cI 16 ml, cN 16 ma, cI 16 sk, cN 17 bo, cK 401 ga, cK 401 (alO (alE ho hv e) (to e) (tnO (ga (fr e)) (te e)) gb1)] 0 0
            have e8 : ((kI (n : Int)) + (kI 1)) = kI (((n + 1) : Nat) : Int) := by first | (simp only [kI_add, kI_sub, kI_mul]; done) | (simp only [kI_add, kI_sub, kI_mul]; rfl)
            rw [e8]
            exact WM.pick [0, 1, 2, 3, 4, 5] rfl (ih11 e (n + 1) (alO (alE ho hv e) (to e) (tnO (ga (fr e)) (te e)) gb1) (by omega) (by
                by_cases hcw : wo e = x
                · first
                  | exact absurd hcw c32
                  | (cases hal : alE ho hv e with
                    | true =>
                      rw [show alO true (to e) (tnO (ga (fr e)) (te e)) gb1 = va_up gb1 (to e) (max (gb1 (to e)) (tnO (ga (fr e)) (te e))) from rfl]
                      refine (hM1.add (e := e)).congr (fun y => ⟨fun q => ?_, fun q => ?_⟩)
                      · rcases q with (q | q) | q
                        · exact Or.inl q
                        · exact Or.inr ⟨by omega, q.2⟩
                        · rw [q]; exact Or.inr ⟨Nat.le_refl _, by omega, he4, hcw, hal⟩
                      · rcases q with q | q
                        · exact Or.inl (Or.inl q)
                        · by_cases hy : y = e
                          · exact Or.inr hy
                          · exact Or.inl (Or.inr ⟨hin y q.1 q.2.1 q.2.2.1 hy, q.2⟩)
                    | false =>
                      rw [show alO false (to e) (tnO (ga (fr e)) (te e)) gb1 = gb1 from rfl]
                      refine hM1.congr (fun y => or_congr Iff.rfl ⟨fun q => ⟨by omega, q.2⟩, fun q => ⟨hin y q.1 q.2.1 q.2.2.1 (fun hy => ?_), q.2⟩⟩)
                      rw [hy, hal] at q
                      exact absurd q.2.2.2.2 (by decide))
                · first
                  | exact absurd c32 hcw
                  | exact hM1.congr (fun y => or_congr Iff.rfl ⟨fun q => ⟨by omega, q.2⟩, fun q => ⟨hin y q.1 q.2.1 q.2.2.1 (fun hy => hcw (by rw [← hy]; exact q.2.2.2.1)), q.2⟩⟩)) (by omega))
  exact WM.pick [0, 1, 2, 3, 4, 5] rfl (lp11 _ ne 0 gb (by omega) (hM.congr (fun e => ⟨Or.inl, fun q => q.elim id (fun q => by omega)⟩)) (Nat.lt_succ_self _))

set_option maxRecDepth 100000 in
set_option maxHeartbeats 500000 in
theorem c_X8_go (ga gb : Nat → Nat) (ho : Bool) (fr to : Nat → Nat) (wo : Nat → Int) (te : Nat → Nat) (hv : Nat → Bool) (fo no : Nat → Int) (mb mw : Nat → Nat) (ml : Nat → Int) (ma : Nat → Nat) (sk : Nat → Int) (bo : Nat → Nat) (nn ne nm : Nat) (hnm : nm ≤ 16) (hne : ne ≤ 512) (hnn : nn ≤ 401) (hG : chn fr fo no nn ne) (hto : ∀ e, e < ne → to e < nn) (hte : ∀ e, e < ne → te e ≤ 10) (hskn : ∀ m, m < nm → -2 ≤ sk m ∧ sk m < ne) (hwo : ∀ e, e < ne → -2 ≤ wo e ∧ wo e < 200) (hb : ∀ v, v < nn → ga v ≤ 10000000000000000) (x : Int) (hx : -2147483648 ≤ x ∧ x ≤ 2147483647) : CTm mX8_go 0 0 15 [.ref 0, .ref 1, vI x] [ob 8 [.ref 15, .ref 16, vZ ho], ob 1 [.ref 2, .ref 3, .ref 4, .ref 5, .ref 6, .ref 7, .ref 8, .ref 9, .ref 10, .ref 11, .ref 12, .ref 13, .ref 14, vI (nn : Int), vI (ne : Int), vI (nm : Int)], cN 512 fr, cN 512 to, cI 512 wo, cN 512 te, cZ 512 hv, cI 401 fo, cI 512 no, cN 16 mb, cN 16 mw, cI 16 ml, cN 16 ma, cI 16 sk, cN 17 bo, cK 401 ga, cK 401 gb] (fun r w => ∃ ga2 gb2 : Nat → Nat, r = none ∧ w = [ob 8 [.ref 15, .ref 16, vZ ho], ob 1 [.ref 2, .ref 3, .ref 4, .ref 5, .ref 6, .ref 7, .ref 8, .ref 9, .ref 10, .ref 11, .ref 12, .ref 13, .ref 14, vI (nn : Int), vI (ne : Int), vI (nm : Int)], cN 512 fr, cN 512 to, cI 512 wo, cN 512 te, cZ 512 hv, cI 401 fo, cI 512 no, cN 16 mb, cN 16 mw, cI 16 ml, cN 16 ma, cI 16 sk, cN 17 bo, cK 401 ga2, cK 401 gb2] ∧ ∀ v, v < nn → ga2 v = wgG ho hv fr to wo te sk ne nm x ga v) := by
  refine CTm.intro rfl (Nat.le_of_ble_eq_true rfl) ?_
  generalize hPost : (fun r w => ∃ ga2 gb2 : Nat → Nat, r = none ∧ w = [ob 8 [.ref 15, .ref 16, vZ ho], ob 1 [.ref 2, .ref 3, .ref 4, .ref 5, .ref 6, .ref 7, .ref 8, .ref 9, .ref 10, .ref 11, .ref 12, .ref 13, .ref 14, vI (nn : Int), vI (ne : Int), vI (nm : Int)], cN 512 fr, cN 512 to, cI 512 wo, cN 512 te, cZ 512 hv, cI 401 fo, cI 512 no, cN 16 mb, cN 16 mw, cI 16 ml, cN 16 ma, cI 16 sk, cN 17 bo, cK 401 ga2, cK 401 gb2] ∧ ∀ v, v < nn → ga2 v = wgG ho hv fr to wo te sk ne nm x ga v : MP) = Post
  have hPo : ∀ rr ww, (fun r w => ∃ ga2 gb2 : Nat → Nat, r = none ∧ w = [ob 8 [.ref 15, .ref 16, vZ ho], ob 1 [.ref 2, .ref 3, .ref 4, .ref 5, .ref 6, .ref 7, .ref 8, .ref 9, .ref 10, .ref 11, .ref 12, .ref 13, .ref 14, vI (nn : Int), vI (ne : Int), vI (nm : Int)], cN 512 fr, cN 512 to, cI 512 wo, cN 512 te, cZ 512 hv, cI 401 fo, cI 512 no, cN 16 mb, cN 16 mw, cI 16 ml, cN 16 ma, cI 16 sk, cN 17 bo, cK 401 ga2, cK 401 gb2] ∧ ∀ v, v < nn → ga2 v = wgG ho hv fr to wo te sk ne nm x ga v : MP) rr ww → Post rr ww := by rw [← hPost]; exact fun _ _ h => h
  clear hPost
  have hsd : ∀ j, j < nm → 0 ≤ sk j → fr (sk j).toNat < nn ∧ to (sk j).toNat < nn ∧ te (sk j).toNat ≤ 10 := fun j hj h0 => by have h1 := hskn j hj; exact ⟨hG.2.2 _ (by omega), hto _ (by omega), hte _ (by omega)⟩
  show WM mX8_go 0 0 Post 15 0 [(0, .ref 0), (1, .ref 1), (2, vI x)] [] [ob 8 [.ref 15, .ref 16, vZ ho], ob 1 [.ref 2, .ref 3, .ref 4, .ref 5, .ref 6, .ref 7, .ref 8, .ref 9, .ref 10, .ref 11, .ref 12, .ref 13, .ref 14, vI (nn : Int), vI (ne : Int), vI (nm : Int)], cN 512 fr, cN 512 to, cI 512 wo, cN 512 te, cZ 512 hv, cI 401 fo, cI 512 no, cN 16 mb, cN 16 mw, cI 16 ml, cN 16 ma, cI 16 sk, cN 17 bo, cK 401 ga, cK 401 gb] 0 0
  refine sq_ok rfl [(.aload_n 0, 0, 0, 0), (.getfield 15, 8, 1, 0), (.iconst 0, 0, 0, 0), (.aload_n 1, 0, 0, 0), (.getfield 22, 1, 13, 0), (.lconst 0, 0, 0, 0)] 0 _ _ _ _ _ (by decide +kernel) ?_
  show WM mX8_go 0 0 Post 15 10 [(0, .ref 0), (1, .ref 1), (2, vI x)] [vJ 0, vI (nn : Int), vI 0, .ref 16] [ob 8 [.ref 15, .ref 16, vZ ho], ob 1 [.ref 2, .ref 3, .ref 4, .ref 5, .ref 6, .ref 7, .ref 8, .ref 9, .ref 10, .ref 11, .ref 12, .ref 13, .ref 14, vI (nn : Int), vI (ne : Int), vI (nm : Int)], cN 512 fr, cN 512 to, cI 512 wo, cN 512 te, cZ 512 hv, cI 401 fo, cI 512 no, cN 16 mb, cN 16 mw, cI 16 ml, cN 16 ma, cI 16 sk, cN 17 bo, cK 401 ga, cK 401 gb] 0 0
  refine wm_callS (y := mX8_go) mJ7_fill_bad5a [16] (pc := 10) (rest := []) (mc' := 0) (ms' := 0) (by decide +kernel) kX8_28 (c_fillJr 401 0 nn (by omega) (by omega) (by omega) (fun q => ((gb q : Nat) : Int)) 0) rfl ⟨Nat.le_of_ble_eq_true rfl, Nat.le_of_ble_eq_true rfl⟩ ⟨Nat.le_of_ble_eq_true rfl, Nat.le_of_ble_eq_true rfl⟩ (Nat.le_of_ble_eq_true rfl) rfl rfl (Nat.le_of_ble_eq_true rfl) rfl ?_
  rintro _ _ ⟨rfl, rfl⟩
  obtain ⟨g0, hg0⟩ : ∃ g0 : Nat → Nat, g0 = fun q => if 0 ≤ q ∧ q < nn then 0 else gb q := ⟨_, rfl⟩
  have ef : (fun q => if 0 ≤ q ∧ q < nn then (0 : Int) else (fun q => ((gb q : Nat) : Int)) q) = fun q => ((g0 q : Nat) : Int) := by subst hg0; funext q; dsimp only; split <;> rfl
  rw [ef]
  show WM mX8_go 0 0 Post 15 13 [(0, .ref 0), (1, .ref 1), (2, vI x)] [] [ob 8 [.ref 15, .ref 16, vZ ho], ob 1 [.ref 2, .ref 3, .ref 4, .ref 5, .ref 6, .ref 7, .ref 8, .ref 9, .ref 10, .ref 11, .ref 12, .ref 13, .ref 14, vI (nn : Int), vI (ne : Int), vI (nm : Int)], cN 512 fr, cN 512 to, cI 512 wo, cN 512 te, cZ 512 hv, cI 401 fo, cI 512 no, cN 16 mb, cN 16 mw, cI 16 ml, cN 16 ma, cI 16 sk, cN 17 bo, cK 401 ga, cK 401 g0] 0 0
  refine sq_ok rfl [(.iconst 0, 0, 0, 0), (.istore_n 3, 0, 0, 0)] 13 _ _ _ _ _ (by decide +kernel) ?_
  show WM mX8_go 0 0 Post 15 15 [(0, .ref 0), (1, .ref 1), (2, vI x), (3, vI 0)] [] [ob 8 [.ref 15, .ref 16, vZ ho], ob 1 [.ref 2, .ref 3, .ref 4, .ref 5, .ref 6, .ref 7, .ref 8, .ref 9, .ref 10, .ref 11, .ref 12, .ref 13, .ref 14, vI (nn : Int), vI (ne : Int), vI (nm : Int)], cN 512 fr, cN 512 to, cI 512 wo, cN 512 te, cZ 512 hv, cI 401 fo, cI 512 no, cN 16 mb, cN 16 mw, cI 16 ml, cN 16 ma, cI 16 sk, cN 17 bo, cK 401 ga, cK 401 g0] 0 0
  have lp15 : ∀ (n15 : Nat) (v : Nat) (gb1 : Nat → Nat), (v ≤ nn) → (isMx nn (fun e => e < ne ∧ fr e < v ∧ 0 < ga (fr e) ∧ wo e = x ∧ alE ho hv e = true) (fun e => tnO (ga (fr e)) (te e)) to gb1) → (nn - v) < n15 → WM mX8_go 0 0 Post 15 15 [(0, .ref 0), (1, .ref 1), (2, vI x), (3, vI (v : Int))] [] [ob 8 [.ref 15, .ref 16, vZ ho], ob 1 [.ref 2, .ref 3, .ref 4, .ref 5, .ref 6, .ref 7, .ref 8, .ref 9, .ref 10, .ref 11, .ref 12, .ref 13, .ref 14, vI (nn : Int), vI (ne : Int), vI (nm : Int)], cN 512 fr, cN 512 to, cI 512 wo, cN 512 te, cZ 512 hv, cI 401 fo, cI 512 no, cN 16 mb, cN 16 mw, cI 16 ml, cN 16 ma, cI 16 sk, cN 17 bo, cK 401 ga, cK 401 gb1] 0 0 := by
    intro n15
    induction n15 with
    | zero => intro v gb1 hvn hM1 hm; exact absurd hm (Nat.not_lt_zero _)
    | succ n15 ih15 =>
      intro v gb1 hvn hM1 hm15
      refine sq_ok rfl [(.iload_n 3, 0, 0, 0), (.aload_n 1, 0, 0, 0), (.getfield 22, 1, 13, 0), (.if_icmp .ge 27, 0, 0, 0)] 15 _ _ _ _ _ (by decide +kernel) ?_
      show (kI (nn : Int) ≤ kI (v : Int) → WM mX8_go 0 0 Post 15 47 [(0, .ref 0), (1, .ref 1), (2, vI x), (3, vI (v : Int))] [] [ob 8 [.ref 15, .ref 16, vZ ho], ob 1 [.ref 2, .ref 3, .ref 4, .ref 5, .ref 6, .ref 7, .ref 8, .ref 9, .ref 10, .ref 11, .ref 12, .ref 13, .ref 14, vI (nn : Int), vI (ne : Int), vI (nm : Int)], cN 512 fr, cN 512 to, cI 512 wo, cN 512 te, cZ 512 hv, cI 401 fo, cI 512 no, cN 16 mb, cN 16 mw, cI 16 ml, cN 16 ma, cI 16 sk, cN 17 bo, cK 401 ga, cK 401 gb1] 0 0) ∧ (¬ kI (nn : Int) ≤ kI (v : Int) → WM mX8_go 0 0 Post 15 23 [(0, .ref 0), (1, .ref 1), (2, vI x), (3, vI (v : Int))] [] [ob 8 [.ref 15, .ref 16, vZ ho], ob 1 [.ref 2, .ref 3, .ref 4, .ref 5, .ref 6, .ref 7, .ref 8, .ref 9, .ref 10, .ref 11, .ref 12, .ref 13, .ref 14, vI (nn : Int), vI (ne : Int), vI (nm : Int)], cN 512 fr, cN 512 to, cI 512 wo, cN 512 te, cZ 512 hv, cI 401 fo, cI 512 no, cN 16 mb, cN 16 mw, cI 16 ml, cN 16 ma, cI 16 sk, cN 17 bo, cK 401 ga, cK 401 gb1] 0 0)
      refine ⟨fun c20 => ?_, fun c20 => ?_⟩
      · 
        rw [kI_le (by omega)] at c20
        have hgl : ∀ u, u < nn → gb1 u ≤ 10000000000000000 := hM1.le (fun j hj => Nat.le_trans (tnO_le (hte j hj.1)) (hb _ (hG.2.2 j hj.1)))
        refine sq_ok rfl [(.aload_n 0, 0, 0, 0), (.aload_n 1, 0, 0, 0), (.aload_n 0, 0, 0, 0), (.getfield 15, 8, 1, 0)] 47 _ _ _ _ _ (by decide +kernel) ?_
        show WM mX8_go 0 0 Post 15 53 [(0, .ref 0), (1, .ref 1), (2, vI x), (3, vI (v : Int))] [.ref 16, .ref 1, .ref 0] [ob 8 [.ref 15, .ref 16, vZ ho], ob 1 [.ref 2, .ref 3, .ref 4, .ref 5, .ref 6, .ref 7, .ref 8, .ref 9, .ref 10, .ref 11, .ref 12, .ref 13, .ref 14, vI (nn : Int), vI (ne : Int), vI (nm : Int)], cN 512 fr, cN 512 to, cI 512 wo, cN 512 te, cZ 512 hv, cI 401 fo, cI 512 no, cN 16 mb, cN 16 mw, cI 16 ml, cN 16 ma, cI 16 sk, cN 17 bo, cK 401 ga, cK 401 gb1] 0 0
        refine wm_callV (y := mX8_go) mX8_skip [0, 1, 2, 3, 4, 5, 6, 7, 8, 9, 10, 11, 12, 13, 14, 15, 16] (pc := 53) (rest := []) (mc' := 0) (ms' := 0) (by decide +kernel) kX8_36 (c_X8_skipB ga gb1 ho fr to wo te hv fo no mb mw ml ma sk bo nn ne nm hnm hne hnn hG hto hte hskn hgl) rfl rfl ⟨_, rfl, rfl⟩ ⟨Nat.le_of_ble_eq_true rfl, Nat.le_of_ble_eq_true rfl⟩ ⟨Nat.le_of_ble_eq_true rfl, Nat.le_of_ble_eq_true rfl⟩ (Nat.le_of_ble_eq_true rfl) rfl rfl (Nat.le_of_ble_eq_true rfl) rfl ?_
        rintro _ _ ⟨rfl, rfl⟩
        show WM mX8_go 0 0 Post 15 56 [(0, .ref 0), (1, .ref 1), (2, vI x), (3, vI (v : Int))] [] [ob 8 [.ref 15, .ref 16, vZ ho], ob 1 [.ref 2, .ref 3, .ref 4, .ref 5, .ref 6, .ref 7, .ref 8, .ref 9, .ref 10, .ref 11, .ref 12, .ref 13, .ref 14, vI (nn : Int), vI (ne : Int), vI (nm : Int)], cN 512 fr, cN 512 to, cI 512 wo, cN 512 te, cZ 512 hv, cI 401 fo, cI 512 no, cN 16 mb, cN 16 mw, cI 16 ml, cN 16 ma, cI 16 sk, cN 17 bo, cK 401 ga, cK 401 (skF (alE ho hv) fr to te sk nm gb1)] 0 0
        refine sq_ok rfl [(.aload_n 0, 0, 0, 0), (.getfield 9, 8, 0, 0), (.astore_n 3, 0, 0, 0), (.aload_n 0, 0, 0, 0), (.aload_n 0, 0, 0, 0), (.getfield 15, 8, 1, 0), (.putfield 9, 8, 0, 0), (.aload_n 0, 0, 0, 0), (.aload_n 3, 0, 0, 0), (.putfield 15, 8, 1, 0)] 56 _ _ _ _ _ (by decide +kernel) ?_
        show WM mX8_go 0 0 Post 15 74 [(0, .ref 0), (1, .ref 1), (2, vI x), (3, .ref 15)] [] [ob 8 [.ref 16, .ref 15, vZ ho], ob 1 [.ref 2, .ref 3, .ref 4, .ref 5, .ref 6, .ref 7, .ref 8, .ref 9, .ref 10, .ref 11, .ref 12, .ref 13, .ref 14, vI (nn : Int), vI (ne : Int), vI (nm : Int)], cN 512 fr, cN 512 to, cI 512 wo, cN 512 te, cZ 512 hv, cI 401 fo, cI 512 no, cN 16 mb, cN 16 mw, cI 16 ml, cN 16 ma, cI 16 sk, cN 17 bo, cK 401 ga, cK 401 (skF (alE ho hv) fr to te sk nm gb1)] 0 0
        refine WM.move (L' := [(0, .ref 0), (1, .ref 1), (2, vI x), (3, .ref 16)]) (st' := []) (w' := [ob 8 [.ref 15, .ref 16, vZ ho], ob 1 [.ref 2, .ref 3, .ref 4, .ref 5, .ref 6, .ref 7, .ref 8, .ref 9, .ref 10, .ref 11, .ref 12, .ref 13, .ref 14, vI (nn : Int), vI (ne : Int), vI (nm : Int)], cN 512 fr, cN 512 to, cI 512 wo, cN 512 te, cZ 512 hv, cI 401 fo, cI 512 no, cN 16 mb, cN 16 mw, cI 16 ml, cN 16 ma, cI 16 sk, cN 17 bo, cK 401 (skF (alE ho hv) fr to te sk nm gb1), cK 401 ga]) [0, 1, 2, 3, 4, 5, 6, 7, 8, 9, 10, 11, 12, 13, 14, 16, 15] ?_ rfl rfl rfl
        refine sq_ok rfl [(.return_, 0, 0, 0)] 74 _ _ _ _ _ (by decide +kernel) ?_
        show ((0 ≤ 0 ∧ 0 ≤ 0) ∧ Post none [ob 8 [.ref 15, .ref 16, vZ ho], ob 1 [.ref 2, .ref 3, .ref 4, .ref 5, .ref 6, .ref 7, .ref 8, .ref 9, .ref 10, .ref 11, .ref 12, .ref 13, .ref 14, vI (nn : Int), vI (ne : Int), vI (nm : Int)], cN 512 fr, cN 512 to, cI 512 wo, cN 512 te, cZ 512 hv, cI 401 fo, cI 512 no, cN 16 mb, cN 16 mw, cI 16 ml, cN 16 ma, cI 16 sk, cN 17 bo, cK 401 (skF (alE ho hv) fr to te sk nm gb1), cK 401 ga])
        refine ⟨⟨Nat.le_refl _, Nat.le_refl _⟩, hPo _ _ ?_⟩
        refine ⟨_, _, rfl, rfl, fun v2 hv2 => ?_⟩
        rw [show v = nn by omega] at hM1
        refine skF_ext (fun u hu => ?_) hsd v2 hv2
        refine hM1.eq (ok := fun e => alE ho hv e && (wo e == x)) (fun e he => ⟨he.1, by rw [he.2.2.2.2, he.2.2.2.1]; simp⟩) (fun e h1 h2 h3 => ?_) hto u hu
        rw [Bool.and_eq_true] at h2
        have h4 : ga (fr e) = 0 := by
          rcases Nat.eq_zero_or_pos (ga (fr e)) with h5 | h5
          · exact h5
          · exact absurd ⟨h1, hG.2.2 e h1, h5, by simpa using h2.2, h2.1⟩ h3
        show tnO (ga (fr e)) (te e) = 0
        rw [h4]
        exact tnO_0 _
      · 
        rw [kI_le (by omega)] at c20
        have hbv := hb v (by omega)
        refine sq_ok rfl [(.aload_n 0, 0, 0, 0), (.getfield 9, 8, 0, 0), (.iload_n 3, 0, 0, 0), (.laload, 0, 0, 0), (.lconst 0, 0, 0, 0), (.lcmp, 0, 0, 0), (.ifCond .le 10, 0, 0, 0)] 23 _ _ _ _ _ (by decide +kernel) ?_
        show ∃ j28 : Nat, mj 401 (kI (v : Int)) j28 ∧ ((lg_cmp (kL ((ga j28 : Nat) : Int)) (kL 0)) ≤ kI 0 → WM mX8_go 0 0 Post 15 41 [(0, .ref 0), (1, .ref 1), (2, vI x), (3, vI (v : Int))] [] [ob 8 [.ref 15, .ref 16, vZ ho], ob 1 [.ref 2, .ref 3, .ref 4, .ref 5, .ref 6, .ref 7, .ref 8, .ref 9, .ref 10, .ref 11, .ref 12, .ref 13, .ref 14, vI (nn : Int), vI (ne : Int), vI (nm : Int)], cN 512 fr, cN 512 to, cI 512 wo, cN 512 te, cZ 512 hv, cI 401 fo, cI 512 no, cN 16 mb, cN 16 mw, cI 16 ml, cN 16 ma, cI 16 sk, cN 17 bo, cK 401 ga, cK 401 gb1] 0 0) ∧ (¬ (lg_cmp (kL ((ga j28 : Nat) : Int)) (kL 0)) ≤ kI 0 → WM mX8_go 0 0 Post 15 34 [(0, .ref 0), (1, .ref 1), (2, vI x), (3, vI (v : Int))] [] [ob 8 [.ref 15, .ref 16, vZ ho], ob 1 [.ref 2, .ref 3, .ref 4, .ref 5, .ref 6, .ref 7, .ref 8, .ref 9, .ref 10, .ref 11, .ref 12, .ref 13, .ref 14, vI (nn : Int), vI (ne : Int), vI (nm : Int)], cN 512 fr, cN 512 to, cI 512 wo, cN 512 te, cZ 512 hv, cI 401 fo, cI 512 no, cN 16 mb, cN 16 mw, cI 16 ml, cN 16 ma, cI 16 sk, cN 17 bo, cK 401 ga, cK 401 gb1] 0 0)
        refine ⟨v, ⟨by omega, by omega, rfl⟩, ?_⟩
        refine ⟨fun c31 => ?_, fun c31 => ?_⟩
        · 
          rw [lc_le, kL_le (by omega)] at c31
          refine sq_ok rfl [(.iinc 3 1, 0, 0, 0), (.goto (-29), 0, 0, 0)] 41 _ _ _ _ _ (by decide +kernel) ?_
          show WM mX8_go 0 0 Post 15 15 [(0, .ref 0), (1, .ref 1), (2, vI x), (3, .int ((kI (v : Int)) + (kI 1)))] [] [ob 8 [.ref 15, .ref 16, vZ ho], ob 1 [.ref 2, .ref 3, .ref 4, .ref 5, .ref 6, .ref 7, .ref 8, .ref 9, .ref 10, .ref 11, .ref 12, .ref 13, .ref 14, vI (nn : Int), vI (ne : Int), vI (nm : Int)], cN 512 fr, cN 512 to, cI 512 wo, cN 512 te, cZ 512 hv, cI 401 fo, cI 512 no, cN 16 mb, cN 16 mw, cI 16 ml, cN 16 ma, cI 16 sk, cN 17 bo, cK 401 ga, cK 401 gb1] 0 0
          have e3 : ((kI (v : Int)) + (kI 1)) = kI (((v + 1) : Nat) : Int) := by first | (simp only [kI_add, kI_sub, kI_mul]; done) | (simp only [kI_add, kI_sub, kI_mul]; rfl)
          rw [e3]
          exact WM.pick [0, 1, 2, 3] rfl (ih15 (v + 1) gb1 (by omega) (by
              first
              | exact hM3.congr (fun e => ⟨fun q => q.elim (fun q => ⟨q.1, by omega, q.2.2⟩) (fun q => ⟨q.1, by omega, by rw [q.2.1]; omega, q.2.2⟩), fun q => by
                  by_cases h5 : fr e = v
                  · exact Or.inr ⟨q.1, h5, q.2.2.2⟩
                  · exact Or.inl ⟨q.1, by omega, q.2.2⟩⟩)
              | exact hM1.congr (fun e => ⟨fun q => ⟨q.1, by omega, q.2.2⟩, fun q => ⟨q.1, by
                  by_cases h5 : fr e = v
                  · have := q.2.2.1; rw [h5] at this; omega
                  · omega, q.2.2⟩⟩)) (by omega))
        · 
          rw [lc_le, kL_le (by omega)] at c31
          refine sq_ok rfl [(.aload_n 0, 0, 0, 0), (.aload_n 1, 0, 0, 0), (.iload_n 3, 0, 0, 0), (.iload_n 2, 0, 0, 0)] 34 _ _ _ _ _ (by decide +kernel) ?_
          show WM mX8_go 0 0 Post 15 38 [(0, .ref 0), (1, .ref 1), (2, vI x), (3, vI (v : Int))] [vI x, vI (v : Int), .ref 1, .ref 0] [ob 8 [.ref 15, .ref 16, vZ ho], ob 1 [.ref 2, .ref 3, .ref 4, .ref 5, .ref 6, .ref 7, .ref 8, .ref 9, .ref 10, .ref 11, .ref 12, .ref 13, .ref 14, vI (nn : Int), vI (ne : Int), vI (nm : Int)], cN 512 fr, cN 512 to, cI 512 wo, cN 512 te, cZ 512 hv, cI 401 fo, cI 512 no, cN 16 mb, cN 16 mw, cI 16 ml, cN 16 ma, cI 16 sk, cN 17 bo, cK 401 ga, cK 401 gb1] 0 0
          refine wm_callV (y := mX8_go) mX8_goFrom [0, 1, 2, 3, 4, 5, 6, 7, 8, 9, 10, 11, 12, 13, 14, 15, 16] (pc := 38) (rest := []) (mc' := 0) (ms' := 0) (by decide +kernel) kX8_40 (c_X8_goFrom ga gb1 ho fr to wo te hv fo no mb mw ml ma sk bo nn ne nm hnm hne hnn hG hto hte hskn hwo hb v (by omega) x hx (fun e => e < ne ∧ fr e < v ∧ 0 < ga (fr e) ∧ wo e = x ∧ alE ho hv e = true) (fun e he => he.1) hM1) rfl rfl ⟨_, rfl, rfl⟩ ⟨Nat.le_of_ble_eq_true rfl, Nat.le_of_ble_eq_true rfl⟩ ⟨Nat.le_of_ble_eq_true rfl, Nat.le_of_ble_eq_true rfl⟩ (Nat.le_of_ble_eq_true rfl) rfl rfl (Nat.le_of_ble_eq_true rfl) rfl ?_
          rintro _ _ ⟨gb3, rfl, rfl, hM3⟩
          show WM mX8_go 0 0 Post 15 41 [(0, .ref 0), (1, .ref 1), (2, vI x), (3, vI (v : Int))] [] [ob 8 [.ref 15, .ref 16, vZ ho], ob 1 [.ref 2, .ref 3, .ref 4, .ref 5, .ref 6, .ref 7, .ref 8, .ref 9, .ref 10, .ref 11, .ref 12, .ref 13, .ref 14, vI (nn : Int), vI (ne : Int), vI (nm : Int)], cN 512 fr, cN 512 to, cI 512 wo, cN 512 te, cZ 512 hv, cI 401 fo, cI 512 no, cN 16 mb, cN 16 mw, cI 16 ml, cN 16 ma, cI 16 sk, cN 17 bo, cK 401 ga, cK 401 gb3] 0 0
          refine sq_ok rfl [(.iinc 3 1, 0, 0, 0), (.goto (-29), 0, 0, 0)] 41 _ _ _ _ _ (by decide +kernel) ?_
          show WM mX8_go 0 0 Post 15 15 [(0, .ref 0), (1, .ref 1), (2, vI x), (3, .int ((kI (v : Int)) + (kI 1)))] [] [ob 8 [.ref 15, .ref 16, vZ ho], ob 1 [.ref 2, .ref 3, .ref 4, .ref 5, .ref 6, .ref 7, .ref 8, .ref 9, .ref 10, .ref 11, .ref 12, .ref 13, .ref 14, vI (nn : Int), vI (ne : Int), vI (nm : Int)], cN 512 fr, cN 512 to, cI 512 wo, cN 512 te, cZ 512 hv, cI 401 fo, cI 512 no, cN 16 mb, cN 16 mw, cI 16 ml, cN 16 ma, cI 16 sk, cN 17 bo, cK 401 ga, cK 401 gb3] 0 0
          have e4 : ((kI (v : Int)) + (kI 1)) = kI (((v + 1) : Nat) : Int) := by first | (simp only [kI_add, kI_sub, kI_mul]; done) | (simp only [kI_add, kI_sub, kI_mul]; rfl)
          rw [e4]
          exact WM.pick [0, 1, 2, 3] rfl (ih15 (v + 1) gb3 (by omega) (by
              first
              | exact hM3.congr (fun e => ⟨fun q => q.elim (fun q => ⟨q.1, by omega, q.2.2⟩) (fun q => ⟨q.1, by omega, by rw [q.2.1]; omega, q.2.2⟩), fun q => by
                  by_cases h5 : fr e = v
                  · exact Or.inr ⟨q.1, h5, q.2.2.2⟩
                  · exact Or.inl ⟨q.1, by omega, q.2.2⟩⟩)
              | exact hM1.congr (fun e => ⟨fun q => ⟨q.1, by omega, q.2.2⟩, fun q => ⟨q.1, by
                  by_cases h5 : fr e = v
                  · have := q.2.2.1; rw [h5] at this; omega
                  · omega, q.2.2⟩⟩)) (by omega))
  exact WM.pick [0, 1, 2, 3] rfl (lp15 _ 0 g0 (by omega) ⟨fun e he => absurd he.2.1 (Nat.not_lt_zero _), fun v hv => Or.inl (by rw [hg0]; exact if_pos ⟨Nat.zero_le _, hv⟩)⟩ (Nat.lt_succ_self _))

def isMn (wo : Nat → Int) (Q : Nat → Prop) (r : Nat) : Prop := r ≤ 200 ∧ (∀ e, Q e → (r : Int) ≤ wo e) ∧ (r = 200 ∨ ∃ e, Q e ∧ wo e = (r : Int))
theorem isMn.congr {wo : Nat → Int} {Q Q' : Nat → Prop} {r : Nat} (h : isMn wo Q r) (hq : ∀ e, Q e ↔ Q' e) : isMn wo Q' r := ⟨h.1, fun e he => h.2.1 e ((hq e).mpr he), h.2.2.imp id (fun ⟨e, h1, h2⟩ => ⟨e, (hq e).mp h1, h2⟩)⟩
theorem isMn.add {wo : Nat → Int} {Q : Nat → Prop} {r e x : Nat} (h : isMn wo Q r) (hx : wo e = (x : Int)) (hx2 : x < 200) : isMn wo (fun y => Q y ∨ y = e) (min r x) := by
  refine ⟨by have := h.1; omega, fun y hy => ?_, ?_⟩
  · rcases hy with hy | hy
    · have := h.2.1 y hy; omega
    · rw [hy, hx]; omega
  · rcases Nat.le_total r x with h1 | h1
    · rw [Nat.min_eq_left h1]; exact h.2.2.imp id (fun ⟨y, g1, g2⟩ => ⟨y, Or.inl g1, g2⟩)
    · rw [Nat.min_eq_right h1]; exact Or.inr ⟨e, Or.inr rfl, hx⟩
theorem isMn.join {wo : Nat → Int} {Q R : Nat → Prop} {r s : Nat} (h : isMn wo Q r) (g : isMn wo R s) : isMn wo (fun y => Q y ∨ R y) (min r s) := by
  refine ⟨by have := h.1; omega, fun y hy => ?_, ?_⟩
  · rcases hy with hy | hy
    · have := h.2.1 y hy; omega
    · have := g.2.1 y hy; omega
  · rcases Nat.le_total r s with h1 | h1
    · rw [Nat.min_eq_left h1]; exact h.2.2.imp id (fun ⟨y, g1, g2⟩ => ⟨y, Or.inl g1, g2⟩)
    · rw [Nat.min_eq_right h1]; exact g.2.2.imp id (fun ⟨y, g1, g2⟩ => ⟨y, Or.inr g1, g2⟩)

set_option maxRecDepth 100000 in
set_option maxHeartbeats 500000 in
theorem c_X8_leastWordFrom (ga gb : Nat → Nat) (ho : Bool) (fr to : Nat → Nat) (wo : Nat → Int) (te : Nat → Nat) (hv : Nat → Bool) (fo no : Nat → Int) (mb mw : Nat → Nat) (ml : Nat → Int) (ma : Nat → Nat) (sk : Nat → Int) (bo : Nat → Nat) (nn ne nm : Nat) (hnm : nm ≤ 16) (hne : ne ≤ 512) (hnn : nn ≤ 401) (hG : chn fr fo no nn ne) (hto : ∀ e, e < ne → to e < nn) (hte : ∀ e, e < ne → te e ≤ 10) (hskn : ∀ m, m < nm → -2 ≤ sk m ∧ sk m < ne) (hwo : ∀ e, e < ne → -2 ≤ wo e ∧ wo e < 200) (v : Nat) (hvn : v < nn) : CT mX8_leastWordFrom 0 0 [.ref 0, .ref 1, vI (v : Int)] [ob 8 [.ref 15, .ref 16, vZ ho], ob 1 [.ref 2, .ref 3, .ref 4, .ref 5, .ref 6, .ref 7, .ref 8, .ref 9, .ref 10, .ref 11, .ref 12, .ref 13, .ref 14, vI (nn : Int), vI (ne : Int), vI (nm : Int)], cN 512 fr, cN 512 to, cI 512 wo, cN 512 te, cZ 512 hv, cI 401 fo, cI 512 no, cN 16 mb, cN 16 mw, cI 16 ml, cN 16 ma, cI 16 sk, cN 17 bo, cK 401 ga, cK 401 gb] (fun r w => ∃ m : Nat, r = some (vI (m : Int)) ∧ w = [ob 8 [.ref 15, .ref 16, vZ ho], ob 1 [.ref 2, .ref 3, .ref 4, .ref 5, .ref 6, .ref 7, .ref 8, .ref 9, .ref 10, .ref 11, .ref 12, .ref 13, .ref 14, vI (nn : Int), vI (ne : Int), vI (nm : Int)], cN 512 fr, cN 512 to, cI 512 wo, cN 512 te, cZ 512 hv, cI 401 fo, cI 512 no, cN 16 mb, cN 16 mw, cI 16 ml, cN 16 ma, cI 16 sk, cN 17 bo, cK 401 ga, cK 401 gb] ∧ isMn wo (fun e => e < ne ∧ fr e = v ∧ 0 ≤ wo e ∧ alE ho hv e = true) m) := by
  refine CT.intro rfl (Nat.le_of_ble_eq_true rfl) ?_
  generalize hPost : (fun r w => ∃ m : Nat, r = some (vI (m : Int)) ∧ w = [ob 8 [.ref 15, .ref 16, vZ ho], ob 1 [.ref 2, .ref 3, .ref 4, .ref 5, .ref 6, .ref 7, .ref 8, .ref 9, .ref 10, .ref 11, .ref 12, .ref 13, .ref 14, vI (nn : Int), vI (ne : Int), vI (nm : Int)], cN 512 fr, cN 512 to, cI 512 wo, cN 512 te, cZ 512 hv, cI 401 fo, cI 512 no, cN 16 mb, cN 16 mw, cI 16 ml, cN 16 ma, cI 16 sk, cN 17 bo, cK 401 ga, cK 401 gb] ∧ isMn wo (fun e => e < ne ∧ fr e = v ∧ 0 ≤ wo e ∧ alE ho hv e = true) m : MP) = Post
  have hPo : ∀ rr ww, (fun r w => ∃ m : Nat, r = some (vI (m : Int)) ∧ w = [ob 8 [.ref 15, .ref 16, vZ ho], ob 1 [.ref 2, .ref 3, .ref 4, .ref 5, .ref 6, .ref 7, .ref 8, .ref 9, .ref 10, .ref 11, .ref 12, .ref 13, .ref 14, vI (nn : Int), vI (ne : Int), vI (nm : Int)], cN 512 fr, cN 512 to, cI 512 wo, cN 512 te, cZ 512 hv, cI 401 fo, cI 512 no, cN 16 mb, cN 16 mw, cI 16 ml, cN 16 ma, cI 16 sk, cN 17 bo, cK 401 ga, cK 401 gb] ∧ isMn wo (fun e => e < ne ∧ fr e = v ∧ 0 ≤ wo e ∧ alE ho hv e = true) m : MP) rr ww → Post rr ww := by rw [← hPost]; exact fun _ _ h => h
  clear hPost
  show WM mX8_leastWordFrom 0 0 Post 17 0 [(0, .ref 0), (1, .ref 1), (2, vI (v : Int))] [] [ob 8 [.ref 15, .ref 16, vZ ho], ob 1 [.ref 2, .ref 3, .ref 4, .ref 5, .ref 6, .ref 7, .ref 8, .ref 9, .ref 10, .ref 11, .ref 12, .ref 13, .ref 14, vI (nn : Int), vI (ne : Int), vI (nm : Int)], cN 512 fr, cN 512 to, cI 512 wo, cN 512 te, cZ 512 hv, cI 401 fo, cI 512 no, cN 16 mb, cN 16 mw, cI 16 ml, cN 16 ma, cI 16 sk, cN 17 bo, cK 401 ga, cK 401 gb] 0 0
  refine sq_ok rfl [(.sipush 200, 0, 0, 0), (.istore_n 3, 0, 0, 0), (.aload_n 1, 0, 0, 0), (.getfield 44, 1, 5, 0), (.iload_n 2, 0, 0, 0), (.iaload, 0, 0, 0)] 0 _ _ _ _ _ (by decide +kernel) ?_
  show ∃ j9 : Nat, mj 401 (kI (v : Int)) j9 ∧ WM mX8_leastWordFrom 0 0 Post 17 10 [(0, .ref 0), (1, .ref 1), (2, vI (v : Int)), (3, vI 200)] [.int (kI (fo j9))] [ob 8 [.ref 15, .ref 16, vZ ho], ob 1 [.ref 2, .ref 3, .ref 4, .ref 5, .ref 6, .ref 7, .ref 8, .ref 9, .ref 10, .ref 11, .ref 12, .ref 13, .ref 14, vI (nn : Int), vI (ne : Int), vI (nm : Int)], cN 512 fr, cN 512 to, cI 512 wo, cN 512 te, cZ 512 hv, cI 401 fo, cI 512 no, cN 16 mb, cN 16 mw, cI 16 ml, cN 16 ma, cI 16 sk, cN 17 bo, cK 401 ga, cK 401 gb] 0 0
  refine ⟨v, ⟨by omega, by omega, rfl⟩, ?_⟩
  have e1 : kI (fo v) = kI (oI (lstE fr v ne)) := by rw [hG.1 v hvn]
  rw [e1]
  refine sq_ok rfl [(.istore 4, 0, 0, 0), (.iconst 0, 0, 0, 0), (.istore 5, 0, 0, 0)] 10 _ _ _ _ _ (by decide +kernel) ?_
  show WM mX8_leastWordFrom 0 0 Post 17 15 [(0, .ref 0), (1, .ref 1), (2, vI (v : Int)), (3, vI 200), (4, vI (oI (lstE fr v ne))), (5, vI 0)] [] [ob 8 [.ref 15, .ref 16, vZ ho], ob 1 [.ref 2, .ref 3, .ref 4, .ref 5, .ref 6, .ref 7, .ref 8, .ref 9, .ref 10, .ref 11, .ref 12, .ref 13, .ref 14, vI (nn : Int), vI (ne : Int), vI (nm : Int)], cN 512 fr, cN 512 to, cI 512 wo, cN 512 te, cZ 512 hv, cI 401 fo, cI 512 no, cN 16 mb, cN 16 mw, cI 16 ml, cN 16 ma, cI 16 sk, cN 17 bo, cK 401 ga, cK 401 gb] 0 0
  have lp15 : ∀ (n15 : Nat) (lw : Nat) (k : Nat) (n : Nat), (k + n ≤ ne) → (isMn wo (fun e => k ≤ e ∧ e < ne ∧ fr e = v ∧ 0 ≤ wo e ∧ alE ho hv e = true) lw) → (512 - n) < n15 → WM mX8_leastWordFrom 0 0 Post 17 15 [(0, .ref 0), (1, .ref 1), (2, vI (v : Int)), (3, vI (lw : Int)), (4, vI (oI (lstE fr v k))), (5, vI (n : Int))] [] [ob 8 [.ref 15, .ref 16, vZ ho], ob 1 [.ref 2, .ref 3, .ref 4, .ref 5, .ref 6, .ref 7, .ref 8, .ref 9, .ref 10, .ref 11, .ref 12, .ref 13, .ref 14, vI (nn : Int), vI (ne : Int), vI (nm : Int)], cN 512 fr, cN 512 to, cI 512 wo, cN 512 te, cZ 512 hv, cI 401 fo, cI 512 no, cN 16 mb, cN 16 mw, cI 16 ml, cN 16 ma, cI 16 sk, cN 17 bo, cK 401 ga, cK 401 gb] 0 0 := by
    intro n15
    induction n15 with
    | zero => intro lw k n hk hM1 hm; exact absurd hm (Nat.not_lt_zero _)
    | succ n15 ih15 =>
      intro lw k n hk hM1 hm15
      have hzR : -2147483648 ≤ oI (lstE fr v k) ∧ oI (lstE fr v k) ≤ 2147483647 := oI_R (n := k) (fun j hj => (lstE_step hj).1) (by omega)
      have hlw := hM1.1
      refine sq_ok rfl [(.iload 5, 0, 0, 0), (.sipush 512, 0, 0, 0), (.if_icmp .ge 62, 0, 0, 0)] 15 _ _ _ _ _ (by decide +kernel) ?_
      show (kI 512 ≤ kI (n : Int) → WM mX8_leastWordFrom 0 0 Post 17 82 [(0, .ref 0), (1, .ref 1), (2, vI (v : Int)), (3, vI (lw : Int)), (4, vI (oI (lstE fr v k))), (5, vI (n : Int))] [] [ob 8 [.ref 15, .ref 16, vZ ho], ob 1 [.ref 2, .ref 3, .ref 4, .ref 5, .ref 6, .ref 7, .ref 8, .ref 9, .ref 10, .ref 11, .ref 12, .ref 13, .ref 14, vI (nn : Int), vI (ne : Int), vI (nm : Int)], cN 512 fr, cN 512 to, cI 512 wo, cN 512 te, cZ 512 hv, cI 401 fo, cI 512 no, cN 16 mb, cN 16 mw, cI 16 ml, cN 16 ma, cI 16 sk, cN 17 bo, cK 401 ga, cK 401 gb] 0 0) ∧ (¬ kI 512 ≤ kI (n : Int) → WM mX8_leastWordFrom 0 0 Post 17 23 [(0, .ref 0), (1, .ref 1), (2, vI (v : Int)), (3, vI (lw : Int)), (4, vI (oI (lstE fr v k))), (5, vI (n : Int))] [] [ob 8 [.ref 15, .ref 16, vZ ho], ob 1 [.ref 2, .ref 3, .ref 4, .ref 5, .ref 6, .ref 7, .ref 8, .ref 9, .ref 10, .ref 11, .ref 12, .ref 13, .ref 14, vI (nn : Int), vI (ne : Int), vI (nm : Int)], cN 512 fr, cN 512 to, cI 512 wo, cN 512 te, cZ 512 hv, cI 401 fo, cI 512 no, cN 16 mb, cN 16 mw, cI 16 ml, cN 16 ma, cI 16 sk, cN 17 bo, cK 401 ga, cK 401 gb] 0 0)
      refine ⟨fun c20 => ?_, fun c20 => ?_⟩
      · 
        rw [kI_le (by omega)] at c20
        refine sq_ok rfl [(.iload_n 3, 0, 0, 0), (.ireturn, 0, 0, 0)] 82 _ _ _ _ _ (by decide +kernel) ?_
        show ((0 ≤ 0 ∧ 0 ≤ 0) ∧ Post (some (vI (lw : Int))) [ob 8 [.ref 15, .ref 16, vZ ho], ob 1 [.ref 2, .ref 3, .ref 4, .ref 5, .ref 6, .ref 7, .ref 8, .ref 9, .ref 10, .ref 11, .ref 12, .ref 13, .ref 14, vI (nn : Int), vI (ne : Int), vI (nm : Int)], cN 512 fr, cN 512 to, cI 512 wo, cN 512 te, cZ 512 hv, cI 401 fo, cI 512 no, cN 16 mb, cN 16 mw, cI 16 ml, cN 16 ma, cI 16 sk, cN 17 bo, cK 401 ga, cK 401 gb])
        refine ⟨⟨Nat.le_refl _, Nat.le_refl _⟩, hPo _ _ ?_⟩
        exact ⟨lw, rfl, rfl, hM1.congr (fun e => ⟨fun q => q.2, fun q => ⟨by
          rcases Nat.lt_or_ge e k with h1 | h1
          · by_cases h3 : n < 512
            · exact absurd q.2.1 (lstE_nil (oI_neg (show ¬ 0 ≤ oI (lstE fr v k) by omega)) e h1)
            · omega
          · exact h1, q⟩⟩)⟩
      · 
        rw [kI_le (by omega)] at c20
        refine sq_ok rfl [(.iload 4, 0, 0, 0), (.ifCond .lt 57, 0, 0, 0)] 23 _ _ _ _ _ (by decide +kernel) ?_
        show (kI (oI (lstE fr v k)) < kI 0 → WM mX8_leastWordFrom 0 0 Post 17 82 [(0, .ref 0), (1, .ref 1), (2, vI (v : Int)), (3, vI (lw : Int)), (4, vI (oI (lstE fr v k))), (5, vI (n : Int))] [] [ob 8 [.ref 15, .ref 16, vZ ho], ob 1 [.ref 2, .ref 3, .ref 4, .ref 5, .ref 6, .ref 7, .ref 8, .ref 9, .ref 10, .ref 11, .ref 12, .ref 13, .ref 14, vI (nn : Int), vI (ne : Int), vI (nm : Int)], cN 512 fr, cN 512 to, cI 512 wo, cN 512 te, cZ 512 hv, cI 401 fo, cI 512 no, cN 16 mb, cN 16 mw, cI 16 ml, cN 16 ma, cI 16 sk, cN 17 bo, cK 401 ga, cK 401 gb] 0 0) ∧ (¬ kI (oI (lstE fr v k)) < kI 0 → WM mX8_leastWordFrom 0 0 Post 17 28 [(0, .ref 0), (1, .ref 1), (2, vI (v : Int)), (3, vI (lw : Int)), (4, vI (oI (lstE fr v k))), (5, vI (n : Int))] [] [ob 8 [.ref 15, .ref 16, vZ ho], ob 1 [.ref 2, .ref 3, .ref 4, .ref 5, .ref 6, .ref 7, .ref 8, .ref 9, .ref 10, .ref 11, .ref 12, .ref 13, .ref 14, vI (nn : Int), vI (ne : Int), vI (nm : Int)], cN 512 fr, cN 512 to, cI 512 wo, cN 512 te, cZ 512 hv, cI 401 fo, cI 512 no, cN 16 mb, cN 16 mw, cI 16 ml, cN 16 ma, cI 16 sk, cN 17 bo, cK 401 ga, cK 401 gb] 0 0)
        refine ⟨fun c25 => ?_, fun c25 => ?_⟩
        · 
          rw [kI_lt (by omega)] at c25
          refine sq_ok rfl [(.iload_n 3, 0, 0, 0), (.ireturn, 0, 0, 0)] 82 _ _ _ _ _ (by decide +kernel) ?_
          show ((0 ≤ 0 ∧ 0 ≤ 0) ∧ Post (some (vI (lw : Int))) [ob 8 [.ref 15, .ref 16, vZ ho], ob 1 [.ref 2, .ref 3, .ref 4, .ref 5, .ref 6, .ref 7, .ref 8, .ref 9, .ref 10, .ref 11, .ref 12, .ref 13, .ref 14, vI (nn : Int), vI (ne : Int), vI (nm : Int)], cN 512 fr, cN 512 to, cI 512 wo, cN 512 te, cZ 512 hv, cI 401 fo, cI 512 no, cN 16 mb, cN 16 mw, cI 16 ml, cN 16 ma, cI 16 sk, cN 17 bo, cK 401 ga, cK 401 gb])
          refine ⟨⟨Nat.le_refl _, Nat.le_refl _⟩, hPo _ _ ?_⟩
          exact ⟨lw, rfl, rfl, hM1.congr (fun e => ⟨fun q => q.2, fun q => ⟨by
            rcases Nat.lt_or_ge e k with h1 | h1
            · by_cases h3 : n < 512
              · exact absurd q.2.1 (lstE_nil (oI_neg (show ¬ 0 ≤ oI (lstE fr v k) by omega)) e h1)
              · omega
            · exact h1, q⟩⟩)⟩
        · 
          rw [kI_lt (by omega)] at c25
          obtain ⟨e, he1, he2⟩ := oI_pos (show 0 ≤ oI (lstE fr v k) by omega)
          rw [he2]
          obtain ⟨he3, he4, he5⟩ := lstE_step he1
          have hwe := hwo e (by omega)
          have hnx : no e = oI (lstE fr v e) := by rw [hG.2.1 e (by omega), he4]
          have hin : ∀ y, e ≤ y → y < ne → fr y = v → y ≠ e → k ≤ y := fun y h1 h2 h3 h4 => by
            rcases Nat.lt_or_ge y k with h5 | h5
            · exact absurd h3 (he5 y (by omega) h5)
            · exact h5
          refine sq_ok rfl [(.aload_n 1, 0, 0, 0), (.getfield 48, 1, 2, 0), (.iload 4, 0, 0, 0), (.iaload, 0, 0, 0), (.ifCond .lt 32, 0, 0, 0)] 28 _ _ _ _ _ (by decide +kernel) ?_
          show ∃ j34 : Nat, mj 512 (kI (e : Int)) j34 ∧ (kI (wo j34) < kI 0 → WM mX8_leastWordFrom 0 0 Post 17 67 [(0, .ref 0), (1, .ref 1), (2, vI (v : Int)), (3, vI (lw : Int)), (4, vI (e : Int)), (5, vI (n : Int))] [] [ob 8 [.ref 15, .ref 16, vZ ho], ob 1 [.ref 2, .ref 3, .ref 4, .ref 5, .ref 6, .ref 7, .ref 8, .ref 9, .ref 10, .ref 11, .ref 12, .ref 13, .ref 14, vI (nn : Int), vI (ne : Int), vI (nm : Int)], cN 512 fr, cN 512 to, cI 512 wo, cN 512 te, cZ 512 hv, cI 401 fo, cI 512 no, cN 16 mb, cN 16 mw, cI 16 ml, cN 16 ma, cI 16 sk, cN 17 bo, cK 401 ga, cK 401 gb] 0 0) ∧ (¬ kI (wo j34) < kI 0 → WM mX8_leastWordFrom 0 0 Post 17 38 [(0, .ref 0), (1, .ref 1), (2, vI (v : Int)), (3, vI (lw : Int)), (4, vI (e : Int)), (5, vI (n : Int))] [] [ob 8 [.ref 15, .ref 16, vZ ho], ob 1 [.ref 2, .ref 3, .ref 4, .ref 5, .ref 6, .ref 7, .ref 8, .ref 9, .ref 10, .ref 11, .ref 12, .ref 13, .ref 14, vI (nn : Int), vI (ne : Int), vI (nm : Int)], cN 512 fr, cN 512 to, cI 512 wo, cN 512 te, cZ 512 hv, cI 401 fo, cI 512 no, cN 16 mb, cN 16 mw, cI 16 ml, cN 16 ma, cI 16 sk, cN 17 bo, cK 401 ga, cK 401 gb] 0 0)
          refine ⟨e, ⟨by omega, by omega, rfl⟩, ?_⟩
          refine ⟨fun c35 => ?_, fun c35 => ?_⟩
          · 
            rw [kI_lt (by omega)] at c35
            refine sq_ok rfl [(.aload_n 1, 0, 0, 0), (.getfield 55, 1, 6, 0), (.iload 4, 0, 0, 0), (.iaload, 0, 0, 0)] 67 _ _ _ _ _ (by decide +kernel) ?_
            show ∃ j73 : Nat, mj 512 (kI (e : Int)) j73 ∧ WM mX8_leastWordFrom 0 0 Post 17 74 [(0, .ref 0), (1, .ref 1), (2, vI (v : Int)), (3, vI (lw : Int)), (4, vI (e : Int)), (5, vI (n : Int))] [.int (kI (no j73))] [ob 8 [.ref 15, .ref 16, vZ ho], ob 1 [.ref 2, .ref 3, .ref 4, .ref 5, .ref 6, .ref 7, .ref 8, .ref 9, .ref 10, .ref 11, .ref 12, .ref 13, .ref 14, vI (nn : Int), vI (ne : Int), vI (nm : Int)], cN 512 fr, cN 512 to, cI 512 wo, cN 512 te, cZ 512 hv, cI 401 fo, cI 512 no, cN 16 mb, cN 16 mw, cI 16 ml, cN 16 ma, cI 16 sk, cN 17 bo, cK 401 ga, cK 401 gb] 0 0
            refine ⟨e, ⟨by omega, by omega, rfl⟩, ?_⟩
            have e5 : kI (no e) = kI (oI (lstE fr v e)) := by rw [hnx]
            rw [e5]
            refine sq_ok rfl [(.istore 4, 0, 0, 0), (.iinc 5 1, 0, 0, 0), (.goto (-64), 0, 0, 0)] 74 _ _ _ _ _ (by decide +kernel) ?_
            show WM mX8_leastWordFrom 0 0 Post 17 15 [(0, .ref 0), (1, .ref 1), (2, vI (v : Int)), (3, vI (lw : Int)), (4, vI (oI (lstE fr v e))), (5, .int ((kI (n : Int)) + (kI 1)))] [] [ob 8 [.ref 15, .ref 16, vZ ho], ob 1 [.ref 2, .ref 3, .ref 4, .ref 5, .ref 6, .ref 7, .ref 8, .ref 9, .ref 10, .ref 11, .ref 12, .ref 13, .ref 14, vI (nn : Int), vI (ne : Int), vI (nm : Int)], cN 512 fr, cN 512 to, cI 512 wo, cN 512 te, cZ 512 hv, cI 401 fo, cI 512 no, cN 16 mb, cN 16 mw, cI 16 ml, cN 16 ma, cI 16 sk, cN 17 bo, cK 401 ga, cK 401 gb] 0 0
            have e6 : ((kI (n : Int)) + (kI 1)) = kI (((n + 1) : Nat) : Int) := by first | (simp only [kI_add, kI_sub, kI_mul]; done) | (simp only [kI_add, kI_sub, kI_mul]; rfl)
            rw [e6]
            exact WM.pick [0, 1, 2, 3, 4, 5] rfl (ih15 lw e (n + 1) (by omega) (by
                first
                | exact hMa.congr (fun y => ⟨fun q => q.elim (fun q => ⟨by omega, q.2⟩) (fun q => by rw [q]; exact ⟨Nat.le_refl _, by omega, he4, by omega, hal⟩), fun q => by
                    by_cases hy : y = e
                    · exact Or.inr hy
                    · exact Or.inl ⟨hin y q.1 q.2.1 q.2.2.1 hy, q.2⟩⟩)
                | exact hM1.congr (fun y => ⟨fun q => ⟨by omega, q.2⟩, fun q => ⟨hin y q.1 q.2.1 q.2.2.1 (fun hy => by rw [hy] at q; first | omega | (rw [hal] at q; exact absurd q.2.2.2.2 (by decide))), q.2⟩⟩)) (by omega))
          · 
            rw [kI_lt (by omega)] at c35
            refine sq_ok rfl [(.aload_n 0, 0, 0, 0), (.getfield 18, 8, 2, 0), (.ifCond .eq 13, 0, 0, 0)] 38 _ _ _ _ _ (by decide +kernel) ?_
            show ((bI ho) = kI 0 → WM mX8_leastWordFrom 0 0 Post 17 55 [(0, .ref 0), (1, .ref 1), (2, vI (v : Int)), (3, vI (lw : Int)), (4, vI (e : Int)), (5, vI (n : Int))] [] [ob 8 [.ref 15, .ref 16, vZ ho], ob 1 [.ref 2, .ref 3, .ref 4, .ref 5, .ref 6, .ref 7, .ref 8, .ref 9, .ref 10, .ref 11, .ref 12, .ref 13, .ref 14, vI (nn : Int), vI (ne : Int), vI (nm : Int)], cN 512 fr, cN 512 to, cI 512 wo, cN 512 te, cZ 512 hv, cI 401 fo, cI 512 no, cN 16 mb, cN 16 mw, cI 16 ml, cN 16 ma, cI 16 sk, cN 17 bo, cK 401 ga, cK 401 gb] 0 0) ∧ (¬ (bI ho) = kI 0 → WM mX8_leastWordFrom 0 0 Post 17 45 [(0, .ref 0), (1, .ref 1), (2, vI (v : Int)), (3, vI (lw : Int)), (4, vI (e : Int)), (5, vI (n : Int))] [] [ob 8 [.ref 15, .ref 16, vZ ho], ob 1 [.ref 2, .ref 3, .ref 4, .ref 5, .ref 6, .ref 7, .ref 8, .ref 9, .ref 10, .ref 11, .ref 12, .ref 13, .ref 14, vI (nn : Int), vI (ne : Int), vI (nm : Int)], cN 512 fr, cN 512 to, cI 512 wo, cN 512 te, cZ 512 hv, cI 401 fo, cI 512 no, cN 16 mb, cN 16 mw, cI 16 ml, cN 16 ma, cI 16 sk, cN 17 bo, cK 401 ga, cK 401 gb] 0 0)
            refine ⟨fun c42 => ?_, fun c42 => ?_⟩
            · 
              rw [bI_eq0] at c42
              have hal : alE ho hv e = true := by unfold alE; rw [c42]; rfl
              obtain ⟨x, hx⟩ := Int.eq_ofNat_of_zero_le (show 0 ≤ wo e by omega)
              have hx2 : x < 200 := by omega
              have hMa := hM1.add hx hx2
              refine sq_ok rfl [(.iload_n 3, 0, 0, 0), (.aload_n 1, 0, 0, 0), (.getfield 48, 1, 2, 0), (.iload 4, 0, 0, 0), (.iaload, 0, 0, 0)] 55 _ _ _ _ _ (by decide +kernel) ?_
              show ∃ j62 : Nat, mj 512 (kI (e : Int)) j62 ∧ WM mX8_leastWordFrom 0 0 Post 17 63 [(0, .ref 0), (1, .ref 1), (2, vI (v : Int)), (3, vI (lw : Int)), (4, vI (e : Int)), (5, vI (n : Int))] [.int (kI (wo j62)), vI (lw : Int)] [ob 8 [.ref 15, .ref 16, vZ ho], ob 1 [.ref 2, .ref 3, .ref 4, .ref 5, .ref 6, .ref 7, .ref 8, .ref 9, .ref 10, .ref 11, .ref 12, .ref 13, .ref 14, vI (nn : Int), vI (ne : Int), vI (nm : Int)], cN 512 fr, cN 512 to, cI 512 wo, cN 512 te, cZ 512 hv, cI 401 fo, cI 512 no, cN 16 mb, cN 16 mw, cI 16 ml, cN 16 ma, cI 16 sk, cN 17 bo, cK 401 ga, cK 401 gb] 0 0
              refine ⟨e, ⟨by omega, by omega, rfl⟩, ?_⟩
              have e8 : kI (wo e) = kI (x : Int) := by rw [hx]
              rw [e8]
              refine wm_min (by unfold iR; omega) (by unfold iR; omega) (by decide +kernel) kX8_97 ⟨Nat.le_of_ble_eq_true rfl, Nat.le_of_ble_eq_true rfl⟩ ⟨Nat.le_of_ble_eq_true rfl, Nat.le_of_ble_eq_true rfl⟩ ?_
              rw [show (min (lw : Int) (x : Int)) = (((min lw x) : Nat) : Int) from by omega]
              show WM mX8_leastWordFrom 0 0 Post 17 66 [(0, .ref 0), (1, .ref 1), (2, vI (v : Int)), (3, vI (lw : Int)), (4, vI (e : Int)), (5, vI (n : Int))] [vI (((min lw x) : Nat) : Int)] [ob 8 [.ref 15, .ref 16, vZ ho], ob 1 [.ref 2, .ref 3, .ref 4, .ref 5, .ref 6, .ref 7, .ref 8, .ref 9, .ref 10, .ref 11, .ref 12, .ref 13, .ref 14, vI (nn : Int), vI (ne : Int), vI (nm : Int)], cN 512 fr, cN 512 to, cI 512 wo, cN 512 te, cZ 512 hv, cI 401 fo, cI 512 no, cN 16 mb, cN 16 mw, cI 16 ml, cN 16 ma, cI 16 sk, cN 17 bo, cK 401 ga, cK 401 gb] 0 0
              refine sq_ok rfl [(.istore_n 3, 0, 0, 0), (.aload_n 1, 0, 0, 0), (.getfield 55, 1, 6, 0), (.iload 4, 0, 0, 0), (.iaload, 0, 0, 0)] 66 _ _ _ _ _ (by decide +kernel) ?_
              show ∃ j73 : Nat, mj 512 (kI (e : Int)) j73 ∧ WM mX8_leastWordFrom 0 0 Post 17 74 [(0, .ref 0), (1, .ref 1), (2, vI (v : Int)), (3, vI (((min lw x) : Nat) : Int)), (4, vI (e : Int)), (5, vI (n : Int))] [.int (kI (no j73))] [ob 8 [.ref 15, .ref 16, vZ ho], ob 1 [.ref 2, .ref 3, .ref 4, .ref 5, .ref 6, .ref 7, .ref 8, .ref 9, .ref 10, .ref 11, .ref 12, .ref 13, .ref 14, vI (nn : Int), vI (ne : Int), vI (nm : Int)], cN 512 fr, cN 512 to, cI 512 wo, cN 512 te, cZ 512 hv, cI 401 fo, cI 512 no, cN 16 mb, cN 16 mw, cI 16 ml, cN 16 ma, cI 16 sk, cN 17 bo, cK 401 ga, cK 401 gb] 0 0
              refine ⟨e, ⟨by omega, by omega, rfl⟩, ?_⟩
              have e9 : kI (no e) = kI (oI (lstE fr v e)) := by rw [hnx]
              rw [e9]
              refine sq_ok rfl [(.istore 4, 0, 0, 0), (.iinc 5 1, 0, 0, 0), (.goto (-64), 0, 0, 0)] 74 _ _ _ _ _ (by decide +kernel) ?_
              show WM mX8_leastWordFrom 0 0 Post 17 15 [(0, .ref 0), (1, .ref 1), (2, vI (v : Int)), (3, vI (((min lw x) : Nat) : Int)), (4, vI (oI (lstE fr v e))), (5, .int ((kI (n : Int)) + (kI 1)))] [] [ob 8 [.ref 15, .ref 16, vZ ho], ob 1 [.ref 2, .ref 3, .ref 4, .ref 5, .ref 6, .ref 7, .ref 8, .ref 9, .ref 10, .ref 11, .ref 12, .ref 13, .ref 14, vI (nn : Int), vI (ne : Int), vI (nm : Int)], cN 512 fr, cN 512 to, cI 512 wo, cN 512 te, cZ 512 hv, cI 401 fo, cI 512 no, cN 16 mb, cN 16 mw, cI 16 ml, cN 16 ma, cI 16 sk, cN 17 bo, cK 401 ga, cK 401 gb] 0 0
              have e10 : ((kI (n : Int)) + (kI 1)) = kI (((n + 1) : Nat) : Int) := by first | (simp only [kI_add, kI_sub, kI_mul]; done) | (simp only [kI_add, kI_sub, kI_mul]; rfl)
              rw [e10]
              exact WM.pick [0, 1, 2, 3, 4, 5] rfl (ih15 (min lw x) e (n + 1) (by omega) (by
                  first
                  | exact hMa.congr (fun y => ⟨fun q => q.elim (fun q => ⟨by omega, q.2⟩) (fun q => by rw [q]; exact ⟨Nat.le_refl _, by omega, he4, by omega, hal⟩), fun q => by
                      by_cases hy : y = e
                      · exact Or.inr hy
                      · exact Or.inl ⟨hin y q.1 q.2.1 q.2.2.1 hy, q.2⟩⟩)
                  | exact hM1.congr (fun y => ⟨fun q => ⟨by omega, q.2⟩, fun q => ⟨hin y q.1 q.2.1 q.2.2.1 (fun hy => by rw [hy] at q; first | omega | (rw [hal] at q; exact absurd q.2.2.2.2 (by decide))), q.2⟩⟩)) (by omega))
            · 
              rw [bI_eq0, Bool.not_eq_false] at c42
              refine sq_ok rfl [(.aload_n 1, 0, 0, 0), (.getfield 64, 1, 4, 0), (.iload 4, 0, 0, 0), (.baload, 0, 0, 0), (.ifCond .eq 15, 0, 0, 0)] 45 _ _ _ _ _ (by decide +kernel) ?_
              show ∃ j51 : Nat, mj 512 (kI (e : Int)) j51 ∧ ((bI (hv j51)) = kI 0 → WM mX8_leastWordFrom 0 0 Post 17 67 [(0, .ref 0), (1, .ref 1), (2, vI (v : Int)), (3, vI (lw : Int)), (4, vI (e : Int)), (5, vI (n : Int))] [] [ob 8 [.ref 15, .ref 16, vZ ho], ob 1 [.ref 2, .ref 3, .ref 4, .ref 5, .ref 6, .ref 7, .ref 8, .ref 9, .ref 10, .ref 11, .ref 12, .ref 13, .ref 14, vI (nn : Int), vI (ne : Int), vI (nm : Int)], cN 512 fr, cN 512 to, cI 512 wo, cN 512 te, cZ 512 hv, cI 401 fo, cI 512 no, cN 16 mb, cN 16 mw, cI 16 ml, cN 16 ma, cI 16 sk, cN 17 bo, cK 401 ga, cK 401 gb] 0 0) ∧ (¬ (bI (hv j51)) = kI 0 → WM mX8_leastWordFrom 0 0 Post 17 55 [(0, .ref 0), (1, .ref 1), (2, vI (v : Int)), (3, vI (lw : Int)), (4, vI (e : Int)), (5, vI (n : Int))] [] [ob 8 [.ref 15, .ref 16, vZ ho], ob 1 [.ref 2, .ref 3, .ref 4, .ref 5, .ref 6, .ref 7, .ref 8, .ref 9, .ref 10, .ref 11, .ref 12, .ref 13, .ref 14, vI (nn : Int), vI (ne : Int), vI (nm : Int)], cN 512 fr, cN 512 to, cI 512 wo, cN 512 te, cZ 512 hv, cI 401 fo, cI 512 no, cN 16 mb, cN 16 mw, cI 16 ml, cN 16 ma, cI 16 sk, cN 17 bo, cK 401 ga, cK 401 gb] 0 0)
              refine ⟨e, ⟨by omega, by omega, rfl⟩, ?_⟩
              refine ⟨fun c52 => ?_, fun c52 => ?_⟩
              · 
                rw [bI_eq0] at c52
                have hal : alE ho hv e = false := by unfold alE; rw [c42, c52]; rfl
                refine sq_ok rfl [(.aload_n 1, 0, 0, 0), (.getfield 55, 1, 6, 0), (.iload 4, 0, 0, 0), (.iaload, 0, 0, 0)] 67 _ _ _ _ _ (by decide +kernel) ?_
                show ∃ j73 : Nat, mj 512 (kI (e : Int)) j73 ∧ WM mX8_leastWordFrom 0 0 Post 17 74 [(0, .ref 0), (1, .ref 1), (2, vI (v : Int)), (3, vI (lw : Int)), (4, vI (e : Int)), (5, vI (n : Int))] [.int (kI (no j73))] [ob 8 [.ref 15, .ref 16, vZ ho], ob 1 [.ref 2, .ref 3, .ref 4, .ref 5, .ref 6, .ref 7, .ref 8, .ref 9, .ref 10, .ref 11, .ref 12, .ref 13, .ref 14, vI (nn : Int), vI (ne : Int), vI (nm : Int)], cN 512 fr, cN 512 to, cI 512 wo, cN 512 te, cZ 512 hv, cI 401 fo, cI 512 no, cN 16 mb, cN 16 mw, cI 16 ml, cN 16 ma, cI 16 sk, cN 17 bo, cK 401 ga, cK 401 gb] 0 0
                refine ⟨e, ⟨by omega, by omega, rfl⟩, ?_⟩
                have e12 : kI (no e) = kI (oI (lstE fr v e)) := by rw [hnx]
                rw [e12]
                refine sq_ok rfl [(.istore 4, 0, 0, 0), (.iinc 5 1, 0, 0, 0), (.goto (-64), 0, 0, 0)] 74 _ _ _ _ _ (by decide +kernel) ?_
                show WM mX8_leastWordFrom 0 0 Post 17 15 [(0, .ref 0), (1, .ref 1), (2, vI (v : Int)), (3, vI (lw : Int)), (4, vI (oI (lstE fr v e))), (5, .int ((kI (n : Int)) + (kI 1)))] [] [ob 8 [.ref 15, .ref 16, vZ ho], ob 1 [.ref 2, .ref 3, .ref 4, .ref 5, .ref 6, .ref 7, .ref 8, .ref 9, .ref 10, .ref 11, .ref 12, .ref 13, .ref 14, vI (nn : Int), vI (ne : Int), vI (nm : Int)], cN 512 fr, cN 512 to, cI 512 wo, cN 512 te, cZ 512 hv, cI 401 fo, cI 512 no, cN 16 mb, cN 16 mw, cI 16 ml, cN 16 ma, cI 16 sk, cN 17 bo, cK 401 ga, cK 401 gb] 0 0
                have e13 : ((kI (n : Int)) + (kI 1)) = kI (((n + 1) : Nat) : Int) := by first | (simp only [kI_add, kI_sub, kI_mul]; done) | (simp only [kI_add, kI_sub, kI_mul]; rfl)
                rw [e13]
                exact WM.pick [0, 1, 2, 3, 4, 5] rfl (ih15 lw e (n + 1) (by omega) (by
                    first
                    | exact hMa.congr (fun y => ⟨fun q => q.elim (fun q => ⟨by omega, q.2⟩) (fun q => by rw [q]; exact ⟨Nat.le_refl _, by omega, he4, by omega, hal⟩), fun q => by
                        by_cases hy : y = e
                        · exact Or.inr hy
                        · exact Or.inl ⟨hin y q.1 q.2.1 q.2.2.1 hy, q.2⟩⟩)
                    | exact hM1.congr (fun y => ⟨fun q => ⟨by omega, q.2⟩, fun q => ⟨hin y q.1 q.2.1 q.2.2.1 (fun hy => by rw [hy] at q; first | omega | (rw [hal] at q; exact absurd q.2.2.2.2 (by decide))), q.2⟩⟩)) (by omega))
              · 
                rw [bI_eq0, Bool.not_eq_false] at c52
                have hal : alE ho hv e = true := by unfold alE; rw [c52, Bool.or_true]
                obtain ⟨x, hx⟩ := Int.eq_ofNat_of_zero_le (show 0 ≤ wo e by omega)
                have hx2 : x < 200 := by omega
                have hMa := hM1.add hx hx2
                refine sq_ok rfl [(.iload_n 3, 0, 0, 0), (.aload_n 1, 0, 0, 0), (.getfield 48, 1, 2, 0), (.iload 4, 0, 0, 0), (.iaload, 0, 0, 0)] 55 _ _ _ _ _ (by decide +kernel) ?_
                show ∃ j62 : Nat, mj 512 (kI (e : Int)) j62 ∧ WM mX8_leastWordFrom 0 0 Post 17 63 [(0, .ref 0), (1, .ref 1), (2, vI (v : Int)), (3, vI (lw : Int)), (4, vI (e : Int)), (5, vI (n : Int))] [.int (kI (wo j62)), vI (lw : Int)] [ob 8 [.ref 15, .ref 16, vZ ho], ob 1 [.ref 2, .ref 3, .ref 4, .ref 5, .ref 6, .ref 7, .ref 8, .ref 9, .ref 10, .ref 11, .ref 12, .ref 13, .ref 14, vI (nn : Int), vI (ne : Int), vI (nm : Int)], cN 512 fr, cN 512 to, cI 512 wo, cN 512 te, cZ 512 hv, cI 401 fo, cI 512 no, cN 16 mb, cN 16 mw, cI 16 ml, cN 16 ma, cI 16 sk, cN 17 bo, cK 401 ga, cK 401 gb] 0 0
                refine ⟨e, ⟨by omega, by omega, rfl⟩, ?_⟩
                have e14 : kI (wo e) = kI (x : Int) := by rw [hx]
                rw [e14]
                refine wm_min (by unfold iR; omega) (by unfold iR; omega) (by decide +kernel) kX8_97 ⟨Nat.le_of_ble_eq_true rfl, Nat.le_of_ble_eq_true rfl⟩ ⟨Nat.le_of_ble_eq_true rfl, Nat.le_of_ble_eq_true rfl⟩ ?_
                rw [show (min (lw : Int) (x : Int)) = (((min lw x) : Nat) : Int) from by omega]
                show WM mX8_leastWordFrom 0 0 Post 17 66 [(0, .ref 0), (1, .ref 1), (2, vI (v : Int)), (3, vI (lw : Int)), (4, vI (e : Int)), (5, vI (n : Int))] [vI (((min lw x) : Nat) : Int)] [ob 8 [.ref 15, .ref 16, vZ ho], ob 1 [.ref 2, .ref 3, .ref 4, .ref 5, .ref 6, .ref 7, .ref 8, .ref 9, .ref 10, .ref 11, .ref 12, .ref 13, .ref 14, vI (nn : Int), vI (ne : Int), vI (nm : Int)], cN 512 fr, cN 512 to, cI 512 wo, cN 512 te, cZ 512 hv, cI 401 fo, cI 512 no, cN 16 mb, cN 16 mw, cI 16 ml, cN 16 ma, cI 16 sk, cN 17 bo, cK 401 ga, cK 401 gb] 0 0
                refine sq_ok rfl [(.istore_n 3, 0, 0, 0), (.aload_n 1, 0, 0, 0), (.getfield 55, 1, 6, 0), (.iload 4, 0, 0, 0), (.iaload, 0, 0, 0)] 66 _ _ _ _ _ (by decide +kernel) ?_
                show ∃ j73 : Nat, mj 512 (kI (e : Int)) j73 ∧ WM mX8_leastWordFrom 0 0 Post 17 74 [(0, .ref 0), (1, .ref 1), (2, vI (v : Int)), (3, vI (((min lw x) : Nat) : Int)), (4, vI (e : Int)), (5, vI (n : Int))] [.int (kI (no j73))] [ob 8 [.ref 15, .ref 16, vZ ho], ob 1 [.ref 2, .ref 3, .ref 4, .ref 5, .ref 6, .ref 7, .ref 8, .ref 9, .ref 10, .ref 11, .ref 12, .ref 13, .ref 14, vI (nn : Int), vI (ne : Int), vI (nm : Int)], cN 512 fr, cN 512 to, cI 512 wo, cN 512 te, cZ 512 hv, cI 401 fo, cI 512 no, cN 16 mb, cN 16 mw, cI 16 ml, cN 16 ma, cI 16 sk, cN 17 bo, cK 401 ga, cK 401 gb] 0 0
                refine ⟨e, ⟨by omega, by omega, rfl⟩, ?_⟩
                have e15 : kI (no e) = kI (oI (lstE fr v e)) := by rw [hnx]
                rw [e15]
                refine sq_ok rfl [(.istore 4, 0, 0, 0), (.iinc 5 1, 0, 0, 0), (.goto (-64), 0, 0, 0)] 74 _ _ _ _ _ (by decide +kernel) ?_
                show WM mX8_leastWordFrom 0 0 Post 17 15 [(0, .ref 0), (1, .ref 1), (2, vI (v : Int)), (3, vI (((min lw x) : Nat) : Int)), (4, vI (oI (lstE fr v e))), (5, .int ((kI (n : Int)) + (kI 1)))] [] [ob 8 [.ref 15, .ref 16, vZ ho], ob 1 [.ref 2, .ref 3, .ref 4, .ref 5, .ref 6, .ref 7, .ref 8, .ref 9, .ref 10, .ref 11, .ref 12, .ref 13, .ref 14, vI (nn : Int), vI (ne : Int), vI (nm : Int)], cN 512 fr, cN 512 to, cI 512 wo, cN 512 te, cZ 512 hv, cI 401 fo, cI 512 no, cN 16 mb, cN 16 mw, cI 16 ml, cN 16 ma, cI 16 sk, cN 17 bo, cK 401 ga, cK 401 gb] 0 0
                have e16 : ((kI (n : Int)) + (kI 1)) = kI (((n + 1) : Nat) : Int) := by first | (simp only [kI_add, kI_sub, kI_mul]; done) | (simp only [kI_add, kI_sub, kI_mul]; rfl)
                rw [e16]
                exact WM.pick [0, 1, 2, 3, 4, 5] rfl (ih15 (min lw x) e (n + 1) (by omega) (by
                    first
                    | exact hMa.congr (fun y => ⟨fun q => q.elim (fun q => ⟨by omega, q.2⟩) (fun q => by rw [q]; exact ⟨Nat.le_refl _, by omega, he4, by omega, hal⟩), fun q => by
                        by_cases hy : y = e
                        · exact Or.inr hy
                        · exact Or.inl ⟨hin y q.1 q.2.1 q.2.2.1 hy, q.2⟩⟩)
                    | exact hM1.congr (fun y => ⟨fun q => ⟨by omega, q.2⟩, fun q => ⟨hin y q.1 q.2.1 q.2.2.1 (fun hy => by rw [hy] at q; first | omega | (rw [hal] at q; exact absurd q.2.2.2.2 (by decide))), q.2⟩⟩)) (by omega))
  exact WM.pick [0, 1, 2, 3, 4, 5] rfl (lp15 _ 200 ne 0 (by omega) ⟨Nat.le_refl _, fun e he => by omega, Or.inl rfl⟩ (Nat.lt_succ_self _))

set_option maxRecDepth 100000 in
set_option maxHeartbeats 500000 in
theorem c_X8_leastWord (ga gb : Nat → Nat) (ho : Bool) (fr to : Nat → Nat) (wo : Nat → Int) (te : Nat → Nat) (hv : Nat → Bool) (fo no : Nat → Int) (mb mw : Nat → Nat) (ml : Nat → Int) (ma : Nat → Nat) (sk : Nat → Int) (bo : Nat → Nat) (nn ne nm : Nat) (hnm : nm ≤ 16) (hne : ne ≤ 512) (hnn : nn ≤ 401) (hG : chn fr fo no nn ne) (hto : ∀ e, e < ne → to e < nn) (hte : ∀ e, e < ne → te e ≤ 10) (hskn : ∀ m, m < nm → -2 ≤ sk m ∧ sk m < ne) (hwo : ∀ e, e < ne → -2 ≤ wo e ∧ wo e < 200) (hb : ∀ v, v < nn → ga v ≤ 10000000000000000) : CT mX8_leastWord 0 0 [.ref 0, .ref 1] [ob 8 [.ref 15, .ref 16, vZ ho], ob 1 [.ref 2, .ref 3, .ref 4, .ref 5, .ref 6, .ref 7, .ref 8, .ref 9, .ref 10, .ref 11, .ref 12, .ref 13, .ref 14, vI (nn : Int), vI (ne : Int), vI (nm : Int)], cN 512 fr, cN 512 to, cI 512 wo, cN 512 te, cZ 512 hv, cI 401 fo, cI 512 no, cN 16 mb, cN 16 mw, cI 16 ml, cN 16 ma, cI 16 sk, cN 17 bo, cK 401 ga, cK 401 gb] (fun r w => ∃ m : Nat, r = some (vI (m : Int)) ∧ w = [ob 8 [.ref 15, .ref 16, vZ ho], ob 1 [.ref 2, .ref 3, .ref 4, .ref 5, .ref 6, .ref 7, .ref 8, .ref 9, .ref 10, .ref 11, .ref 12, .ref 13, .ref 14, vI (nn : Int), vI (ne : Int), vI (nm : Int)], cN 512 fr, cN 512 to, cI 512 wo, cN 512 te, cZ 512 hv, cI 401 fo, cI 512 no, cN 16 mb, cN 16 mw, cI 16 ml, cN 16 ma, cI 16 sk, cN 17 bo, cK 401 ga, cK 401 gb] ∧ isMn wo (fun e => e < ne ∧ 0 < ga (fr e) ∧ 0 ≤ wo e ∧ alE ho hv e = true) m) := by
  refine CT.intro rfl (Nat.le_of_ble_eq_true rfl) ?_
  generalize hPost : (fun r w => ∃ m : Nat, r = some (vI (m : Int)) ∧ w = [ob 8 [.ref 15, .ref 16, vZ ho], ob 1 [.ref 2, .ref 3, .ref 4, .ref 5, .ref 6, .ref 7, .ref 8, .ref 9, .ref 10, .ref 11, .ref 12, .ref 13, .ref 14, vI (nn : Int), vI (ne : Int), vI (nm : Int)], cN 512 fr, cN 512 to, cI 512 wo, cN 512 te, cZ 512 hv, cI 401 fo, cI 512 no, cN 16 mb, cN 16 mw, cI 16 ml, cN 16 ma, cI 16 sk, cN 17 bo, cK 401 ga, cK 401 gb] ∧ isMn wo (fun e => e < ne ∧ 0 < ga (fr e) ∧ 0 ≤ wo e ∧ alE ho hv e = true) m : MP) = Post
  have hPo : ∀ rr ww, (fun r w => ∃ m : Nat, r = some (vI (m : Int)) ∧ w = [ob 8 [.ref 15, .ref 16, vZ ho], ob 1 [.ref 2, .ref 3, .ref 4, .ref 5, .ref 6, .ref 7, .ref 8, .ref 9, .ref 10, .ref 11, .ref 12, .ref 13, .ref 14, vI (nn : Int), vI (ne : Int), vI (nm : Int)], cN 512 fr, cN 512 to, cI 512 wo, cN 512 te, cZ 512 hv, cI 401 fo, cI 512 no, cN 16 mb, cN 16 mw, cI 16 ml, cN 16 ma, cI 16 sk, cN 17 bo, cK 401 ga, cK 401 gb] ∧ isMn wo (fun e => e < ne ∧ 0 < ga (fr e) ∧ 0 ≤ wo e ∧ alE ho hv e = true) m : MP) rr ww → Post rr ww := by rw [← hPost]; exact fun _ _ h => h
  clear hPost
  show WM mX8_leastWord 0 0 Post 17 0 [(0, .ref 0), (1, .ref 1)] [] [ob 8 [.ref 15, .ref 16, vZ ho], ob 1 [.ref 2, .ref 3, .ref 4, .ref 5, .ref 6, .ref 7, .ref 8, .ref 9, .ref 10, .ref 11, .ref 12, .ref 13, .ref 14, vI (nn : Int), vI (ne : Int), vI (nm : Int)], cN 512 fr, cN 512 to, cI 512 wo, cN 512 te, cZ 512 hv, cI 401 fo, cI 512 no, cN 16 mb, cN 16 mw, cI 16 ml, cN 16 ma, cI 16 sk, cN 17 bo, cK 401 ga, cK 401 gb] 0 0
  refine sq_ok rfl [(.sipush 200, 0, 0, 0), (.istore_n 2, 0, 0, 0), (.iconst 0, 0, 0, 0), (.istore_n 3, 0, 0, 0)] 0 _ _ _ _ _ (by decide +kernel) ?_
  show WM mX8_leastWord 0 0 Post 17 6 [(0, .ref 0), (1, .ref 1), (2, vI 200), (3, vI 0)] [] [ob 8 [.ref 15, .ref 16, vZ ho], ob 1 [.ref 2, .ref 3, .ref 4, .ref 5, .ref 6, .ref 7, .ref 8, .ref 9, .ref 10, .ref 11, .ref 12, .ref 13, .ref 14, vI (nn : Int), vI (ne : Int), vI (nm : Int)], cN 512 fr, cN 512 to, cI 512 wo, cN 512 te, cZ 512 hv, cI 401 fo, cI 512 no, cN 16 mb, cN 16 mw, cI 16 ml, cN 16 ma, cI 16 sk, cN 17 bo, cK 401 ga, cK 401 gb] 0 0
  have lp6 : ∀ (n6 : Nat) (lw : Nat) (v : Nat), (v ≤ nn) → (isMn wo (fun e => e < ne ∧ fr e < v ∧ 0 < ga (fr e) ∧ 0 ≤ wo e ∧ alE ho hv e = true) lw) → (nn - v) < n6 → WM mX8_leastWord 0 0 Post 17 6 [(0, .ref 0), (1, .ref 1), (2, vI (lw : Int)), (3, vI (v : Int))] [] [ob 8 [.ref 15, .ref 16, vZ ho], ob 1 [.ref 2, .ref 3, .ref 4, .ref 5, .ref 6, .ref 7, .ref 8, .ref 9, .ref 10, .ref 11, .ref 12, .ref 13, .ref 14, vI (nn : Int), vI (ne : Int), vI (nm : Int)], cN 512 fr, cN 512 to, cI 512 wo, cN 512 te, cZ 512 hv, cI 401 fo, cI 512 no, cN 16 mb, cN 16 mw, cI 16 ml, cN 16 ma, cI 16 sk, cN 17 bo, cK 401 ga, cK 401 gb] 0 0 := by
    intro n6
    induction n6 with
    | zero => intro lw v hvn hM1 hm; exact absurd hm (Nat.not_lt_zero _)
    | succ n6 ih6 =>
      intro lw v hvn hM1 hm6
      refine sq_ok rfl [(.iload_n 3, 0, 0, 0), (.aload_n 1, 0, 0, 0), (.getfield 22, 1, 13, 0), (.if_icmp .ge 31, 0, 0, 0)] 6 _ _ _ _ _ (by decide +kernel) ?_
      show (kI (nn : Int) ≤ kI (v : Int) → WM mX8_leastWord 0 0 Post 17 42 [(0, .ref 0), (1, .ref 1), (2, vI (lw : Int)), (3, vI (v : Int))] [] [ob 8 [.ref 15, .ref 16, vZ ho], ob 1 [.ref 2, .ref 3, .ref 4, .ref 5, .ref 6, .ref 7, .ref 8, .ref 9, .ref 10, .ref 11, .ref 12, .ref 13, .ref 14, vI (nn : Int), vI (ne : Int), vI (nm : Int)], cN 512 fr, cN 512 to, cI 512 wo, cN 512 te, cZ 512 hv, cI 401 fo, cI 512 no, cN 16 mb, cN 16 mw, cI 16 ml, cN 16 ma, cI 16 sk, cN 17 bo, cK 401 ga, cK 401 gb] 0 0) ∧ (¬ kI (nn : Int) ≤ kI (v : Int) → WM mX8_leastWord 0 0 Post 17 14 [(0, .ref 0), (1, .ref 1), (2, vI (lw : Int)), (3, vI (v : Int))] [] [ob 8 [.ref 15, .ref 16, vZ ho], ob 1 [.ref 2, .ref 3, .ref 4, .ref 5, .ref 6, .ref 7, .ref 8, .ref 9, .ref 10, .ref 11, .ref 12, .ref 13, .ref 14, vI (nn : Int), vI (ne : Int), vI (nm : Int)], cN 512 fr, cN 512 to, cI 512 wo, cN 512 te, cZ 512 hv, cI 401 fo, cI 512 no, cN 16 mb, cN 16 mw, cI 16 ml, cN 16 ma, cI 16 sk, cN 17 bo, cK 401 ga, cK 401 gb] 0 0)
      refine ⟨fun c11 => ?_, fun c11 => ?_⟩
      · 
        rw [kI_le (by omega)] at c11
        refine sq_ok rfl [(.iload_n 2, 0, 0, 0), (.ireturn, 0, 0, 0)] 42 _ _ _ _ _ (by decide +kernel) ?_
        show ((0 ≤ 0 ∧ 0 ≤ 0) ∧ Post (some (vI (lw : Int))) [ob 8 [.ref 15, .ref 16, vZ ho], ob 1 [.ref 2, .ref 3, .ref 4, .ref 5, .ref 6, .ref 7, .ref 8, .ref 9, .ref 10, .ref 11, .ref 12, .ref 13, .ref 14, vI (nn : Int), vI (ne : Int), vI (nm : Int)], cN 512 fr, cN 512 to, cI 512 wo, cN 512 te, cZ 512 hv, cI 401 fo, cI 512 no, cN 16 mb, cN 16 mw, cI 16 ml, cN 16 ma, cI 16 sk, cN 17 bo, cK 401 ga, cK 401 gb])
        refine ⟨⟨Nat.le_refl _, Nat.le_refl _⟩, hPo _ _ ?_⟩
        exact ⟨lw, rfl, rfl, hM1.congr (fun e => ⟨fun q => ⟨q.1, q.2.2⟩, fun q => ⟨q.1, by have := hG.2.2 e q.1; omega, q.2⟩⟩)⟩
      · 
        rw [kI_le (by omega)] at c11
        have hbv := hb v (by omega)
        have hlw := hM1.1
        refine sq_ok rfl [(.aload_n 0, 0, 0, 0), (.getfield 9, 8, 0, 0), (.iload_n 3, 0, 0, 0), (.laload, 0, 0, 0), (.lconst 0, 0, 0, 0), (.lcmp, 0, 0, 0), (.ifCond .le 14, 0, 0, 0)] 14 _ _ _ _ _ (by decide +kernel) ?_
        show ∃ j19 : Nat, mj 401 (kI (v : Int)) j19 ∧ ((lg_cmp (kL ((ga j19 : Nat) : Int)) (kL 0)) ≤ kI 0 → WM mX8_leastWord 0 0 Post 17 36 [(0, .ref 0), (1, .ref 1), (2, vI (lw : Int)), (3, vI (v : Int))] [] [ob 8 [.ref 15, .ref 16, vZ ho], ob 1 [.ref 2, .ref 3, .ref 4, .ref 5, .ref 6, .ref 7, .ref 8, .ref 9, .ref 10, .ref 11, .ref 12, .ref 13, .ref 14, vI (nn : Int), vI (ne : Int), vI (nm : Int)], cN 512 fr, cN 512 to, cI 512 wo, cN 512 te, cZ 512 hv, cI 401 fo, cI 512 no, cN 16 mb, cN 16 mw, cI 16 ml, cN 16 ma, cI 16 sk, cN 17 bo, cK 401 ga, cK 401 gb] 0 0) ∧ (¬ (lg_cmp (kL ((ga j19 : Nat) : Int)) (kL 0)) ≤ kI 0 → WM mX8_leastWord 0 0 Post 17 25 [(0, .ref 0), (1, .ref 1), (2, vI (lw : Int)), (3, vI (v : Int))] [] [ob 8 [.ref 15, .ref 16, vZ ho], ob 1 [.ref 2, .ref 3, .ref 4, .ref 5, .ref 6, .ref 7, .ref 8, .ref 9, .ref 10, .ref 11, .ref 12, .ref 13, .ref 14, vI (nn : Int), vI (ne : Int), vI (nm : Int)], cN 512 fr, cN 512 to, cI 512 wo, cN 512 te, cZ 512 hv, cI 401 fo, cI 512 no, cN 16 mb, cN 16 mw, cI 16 ml, cN 16 ma, cI 16 sk, cN 17 bo, cK 401 ga, cK 401 gb] 0 0)
        refine ⟨v, ⟨by omega, by omega, rfl⟩, ?_⟩
        refine ⟨fun c22 => ?_, fun c22 => ?_⟩
        · 
          rw [lc_le, kL_le (by omega)] at c22
          refine sq_ok rfl [(.iinc 3 1, 0, 0, 0), (.goto (-33), 0, 0, 0)] 36 _ _ _ _ _ (by decide +kernel) ?_
          show WM mX8_leastWord 0 0 Post 17 6 [(0, .ref 0), (1, .ref 1), (2, vI (lw : Int)), (3, .int ((kI (v : Int)) + (kI 1)))] [] [ob 8 [.ref 15, .ref 16, vZ ho], ob 1 [.ref 2, .ref 3, .ref 4, .ref 5, .ref 6, .ref 7, .ref 8, .ref 9, .ref 10, .ref 11, .ref 12, .ref 13, .ref 14, vI (nn : Int), vI (ne : Int), vI (nm : Int)], cN 512 fr, cN 512 to, cI 512 wo, cN 512 te, cZ 512 hv, cI 401 fo, cI 512 no, cN 16 mb, cN 16 mw, cI 16 ml, cN 16 ma, cI 16 sk, cN 17 bo, cK 401 ga, cK 401 gb] 0 0
          have e3 : ((kI (v : Int)) + (kI 1)) = kI (((v + 1) : Nat) : Int) := by first | (simp only [kI_add, kI_sub, kI_mul]; done) | (simp only [kI_add, kI_sub, kI_mul]; rfl)
          rw [e3]
          exact WM.pick [0, 1, 2, 3] rfl (ih6 lw (v + 1) (by omega) (by
              first
              | exact (hM1.join hMm).congr (fun e => ⟨fun q => q.elim (fun q => ⟨q.1, by omega, q.2.2⟩) (fun q => ⟨q.1, by omega, by rw [q.2.1]; omega, q.2.2⟩), fun q => by
                  by_cases h5 : fr e = v
                  · exact Or.inr ⟨q.1, h5, q.2.2.2⟩
                  · exact Or.inl ⟨q.1, by omega, q.2.2⟩⟩)
              | exact hM1.congr (fun e => ⟨fun q => ⟨q.1, by omega, q.2.2⟩, fun q => ⟨q.1, by
                  by_cases h5 : fr e = v
                  · have := q.2.2.1; rw [h5] at this; omega
                  · omega, q.2.2⟩⟩)) (by omega))
        · 
          rw [lc_le, kL_le (by omega)] at c22
          refine sq_ok rfl [(.iload_n 2, 0, 0, 0), (.aload_n 0, 0, 0, 0), (.aload_n 1, 0, 0, 0), (.iload_n 3, 0, 0, 0)] 25 _ _ _ _ _ (by decide +kernel) ?_
          show WM mX8_leastWord 0 0 Post 17 29 [(0, .ref 0), (1, .ref 1), (2, vI (lw : Int)), (3, vI (v : Int))] [vI (v : Int), .ref 1, .ref 0, vI (lw : Int)] [ob 8 [.ref 15, .ref 16, vZ ho], ob 1 [.ref 2, .ref 3, .ref 4, .ref 5, .ref 6, .ref 7, .ref 8, .ref 9, .ref 10, .ref 11, .ref 12, .ref 13, .ref 14, vI (nn : Int), vI (ne : Int), vI (nm : Int)], cN 512 fr, cN 512 to, cI 512 wo, cN 512 te, cZ 512 hv, cI 401 fo, cI 512 no, cN 16 mb, cN 16 mw, cI 16 ml, cN 16 ma, cI 16 sk, cN 17 bo, cK 401 ga, cK 401 gb] 0 0
          refine wm_callV (y := mX8_leastWord) mX8_leastWordFrom [0, 1, 2, 3, 4, 5, 6, 7, 8, 9, 10, 11, 12, 13, 14, 15, 16] (pc := 29) (rest := [vI (lw : Int)]) (mc' := 0) (ms' := 0) (by decide +kernel) kX8_93 (c_X8_leastWordFrom ga gb ho fr to wo te hv fo no mb mw ml ma sk bo nn ne nm hnm hne hnn hG hto hte hskn hwo v (by omega)) rfl rfl ⟨_, rfl, rfl⟩ ⟨Nat.le_of_ble_eq_true rfl, Nat.le_of_ble_eq_true rfl⟩ ⟨Nat.le_of_ble_eq_true rfl, Nat.le_of_ble_eq_true rfl⟩ (Nat.le_of_ble_eq_true rfl) rfl rfl (Nat.le_of_ble_eq_true rfl) rfl ?_
          rintro _ _ ⟨m, rfl, rfl, hMm⟩
          have hm2 := hMm.1
          show WM mX8_leastWord 0 0 Post 17 32 [(0, .ref 0), (1, .ref 1), (2, vI (lw : Int)), (3, vI (v : Int))] [vI (m : Int), vI (lw : Int)] [ob 8 [.ref 15, .ref 16, vZ ho], ob 1 [.ref 2, .ref 3, .ref 4, .ref 5, .ref 6, .ref 7, .ref 8, .ref 9, .ref 10, .ref 11, .ref 12, .ref 13, .ref 14, vI (nn : Int), vI (ne : Int), vI (nm : Int)], cN 512 fr, cN 512 to, cI 512 wo, cN 512 te, cZ 512 hv, cI 401 fo, cI 512 no, cN 16 mb, cN 16 mw, cI 16 ml, cN 16 ma, cI 16 sk, cN 17 bo, cK 401 ga, cK 401 gb] 0 0
          refine wm_min (by unfold iR; omega) (by unfold iR; omega) (by decide +kernel) kX8_97 ⟨Nat.le_of_ble_eq_true rfl, Nat.le_of_ble_eq_true rfl⟩ ⟨Nat.le_of_ble_eq_true rfl, Nat.le_of_ble_eq_true rfl⟩ ?_
          rw [show (min (lw : Int) (m : Int)) = (((min lw m) : Nat) : Int) from by omega]
          show WM mX8_leastWord 0 0 Post 17 35 [(0, .ref 0), (1, .ref 1), (2, vI (lw : Int)), (3, vI (v : Int))] [vI (((min lw m) : Nat) : Int)] [ob 8 [.ref 15, .ref 16, vZ ho], ob 1 [.ref 2, .ref 3, .ref 4, .ref 5, .ref 6, .ref 7, .ref 8, .ref 9, .ref 10, .ref 11, .ref 12, .ref 13, .ref 14, vI (nn : Int), vI (ne : Int), vI (nm : Int)], cN 512 fr, cN 512 to, cI 512 wo, cN 512 te, cZ 512 hv, cI 401 fo, cI 512 no, cN 16 mb, cN 16 mw, cI 16 ml, cN 16 ma, cI 16 sk, cN 17 bo, cK 401 ga, cK 401 gb] 0 0
          refine sq_ok rfl [(.istore_n 2, 0, 0, 0), (.iinc 3 1, 0, 0, 0), (.goto (-33), 0, 0, 0)] 35 _ _ _ _ _ (by decide +kernel) ?_
          show WM mX8_leastWord 0 0 Post 17 6 [(0, .ref 0), (1, .ref 1), (2, vI (((min lw m) : Nat) : Int)), (3, .int ((kI (v : Int)) + (kI 1)))] [] [ob 8 [.ref 15, .ref 16, vZ ho], ob 1 [.ref 2, .ref 3, .ref 4, .ref 5, .ref 6, .ref 7, .ref 8, .ref 9, .ref 10, .ref 11, .ref 12, .ref 13, .ref 14, vI (nn : Int), vI (ne : Int), vI (nm : Int)], cN 512 fr, cN 512 to, cI 512 wo, cN 512 te, cZ 512 hv, cI 401 fo, cI 512 no, cN 16 mb, cN 16 mw, cI 16 ml, cN 16 ma, cI 16 sk, cN 17 bo, cK 401 ga, cK 401 gb] 0 0
          have e4 : ((kI (v : Int)) + (kI 1)) = kI (((v + 1) : Nat) : Int) := by first | (simp only [kI_add, kI_sub, kI_mul]; done) | (simp only [kI_add, kI_sub, kI_mul]; rfl)
          rw [e4]
          exact WM.pick [0, 1, 2, 3] rfl (ih6 (min lw m) (v + 1) (by omega) (by
              first
              | exact (hM1.join hMm).congr (fun e => ⟨fun q => q.elim (fun q => ⟨q.1, by omega, q.2.2⟩) (fun q => ⟨q.1, by omega, by rw [q.2.1]; omega, q.2.2⟩), fun q => by
                  by_cases h5 : fr e = v
                  · exact Or.inr ⟨q.1, h5, q.2.2.2⟩
                  · exact Or.inl ⟨q.1, by omega, q.2.2⟩⟩)
              | exact hM1.congr (fun e => ⟨fun q => ⟨q.1, by omega, q.2.2⟩, fun q => ⟨q.1, by
                  by_cases h5 : fr e = v
                  · have := q.2.2.1; rw [h5] at this; omega
                  · omega, q.2.2⟩⟩)) (by omega))
  exact WM.pick [0, 1, 2, 3] rfl (lp6 _ 200 0 (by omega) ⟨Nat.le_refl _, fun e he => absurd he.2.1 (Nat.not_lt_zero _), Or.inl rfl⟩ (Nat.lt_succ_self _))
