/-! Graph: layWord -/

set_option maxRecDepth 100000 in
set_option maxHeartbeats 500000 in
theorem c_X1_layWord (fr to : Nat → Nat) (wo : Nat → Int) (te : Nat → Nat) (hv : Nat → Bool) (fo no : Nat → Int) (mb mw : Nat → Nat) (ml : Nat → Int) (ma : Nat → Nat) (sk : Nat → Int) (bo : Nat → Nat) (nn ne nm : Nat) (hnm : nm < 16) (hC : chn fr fo no nn ne) (hb : bo nm < nn) (hnn : nn + 4 ≤ 401) (hne : ne + 4 ≤ 512) (hte : ∀ e, e < ne → te e ≤ 10) (n : Nat) (hn : n < 200) : CT mX1_layWord 0 0 [.ref 0, vI (n : Int)] [ob 1 [.ref 1, .ref 2, .ref 3, .ref 4, .ref 5, .ref 6, .ref 7, .ref 8, .ref 9, .ref 10, .ref 11, .ref 12, .ref 13, vI (nn : Int), vI (ne : Int), vI (nm : Int)], cN 512 fr, cN 512 to, cI 512 wo, cN 512 te, cZ 512 hv, cI 401 fo, cI 512 no, cN 16 mb, cN 16 mw, cI 16 ml, cN 16 ma, cI 16 sk, cN 17 bo] (fun r w => ∃ (fr2 to2 : Nat → Nat) (wo2 : Nat → Int) (te2 : Nat → Nat) (fo2 no2 : Nat → Int) (nn2 ne2 : Nat), r = none ∧ w = [ob 1 [.ref 1, .ref 2, .ref 3, .ref 4, .ref 5, .ref 6, .ref 7, .ref 8, .ref 9, .ref 10, .ref 11, .ref 12, .ref 13, vI (((nn2 + 1) : Nat) : Int), vI (ne2 : Int), vI (((nm + 1) : Nat) : Int)], cN 512 fr2, cN 512 to2, cI 512 wo2, cN 512 te2, cZ 512 (hvy fr2 te2 (bo nm) (ne2 - 1) ne2 hv ne2), cI 401 (va_up fo2 nn2 (-2)), cI 512 no2, cN 16 mb, cN 16 (va_up mw nm 1), cI 16 ml, cN 16 (va_up ma nm 1), cI 16 sk, cN 17 (va_up bo (nm + 1) nn2)] ∧ eL fr2 to2 wo2 te2 ne2 = eL fr to wo te ne ++ [(bo nm, nn, (n : Int), 10)] ∧ chn fr2 (va_up fo2 nn2 (-2)) no2 (nn2 + 1) ne2 ∧ nn2 = nn ∧ ne2 = ne + 1) := by
  refine CT.intro rfl (Nat.le_of_ble_eq_true rfl) ?_
  generalize hPost : (fun r w => ∃ (fr2 to2 : Nat → Nat) (wo2 : Nat → Int) (te2 : Nat → Nat) (fo2 no2 : Nat → Int) (nn2 ne2 : Nat), r = none ∧ w = [ob 1 [.ref 1, .ref 2, .ref 3, .ref 4, .ref 5, .ref 6, .ref 7, .ref 8, .ref 9, .ref 10, .ref 11, .ref 12, .ref 13, vI (((nn2 + 1) : Nat) : Int), vI (ne2 : Int), vI (((nm + 1) : Nat) : Int)], cN 512 fr2, cN 512 to2, cI 512 wo2, cN 512 te2, cZ 512 (hvy fr2 te2 (bo nm) (ne2 - 1) ne2 hv ne2), cI 401 (va_up fo2 nn2 (-2)), cI 512 no2, cN 16 mb, cN 16 (va_up mw nm 1), cI 16 ml, cN 16 (va_up ma nm 1), cI 16 sk, cN 17 (va_up bo (nm + 1) nn2)] ∧ eL fr2 to2 wo2 te2 ne2 = eL fr to wo te ne ++ [(bo nm, nn, (n : Int), 10)] ∧ chn fr2 (va_up fo2 nn2 (-2)) no2 (nn2 + 1) ne2 ∧ nn2 = nn ∧ ne2 = ne + 1 : MP) = Post
  have hPo : ∀ rr ww, (fun r w => ∃ (fr2 to2 : Nat → Nat) (wo2 : Nat → Int) (te2 : Nat → Nat) (fo2 no2 : Nat → Int) (nn2 ne2 : Nat), r = none ∧ w = [ob 1 [.ref 1, .ref 2, .ref 3, .ref 4, .ref 5, .ref 6, .ref 7, .ref 8, .ref 9, .ref 10, .ref 11, .ref 12, .ref 13, vI (((nn2 + 1) : Nat) : Int), vI (ne2 : Int), vI (((nm + 1) : Nat) : Int)], cN 512 fr2, cN 512 to2, cI 512 wo2, cN 512 te2, cZ 512 (hvy fr2 te2 (bo nm) (ne2 - 1) ne2 hv ne2), cI 401 (va_up fo2 nn2 (-2)), cI 512 no2, cN 16 mb, cN 16 (va_up mw nm 1), cI 16 ml, cN 16 (va_up ma nm 1), cI 16 sk, cN 17 (va_up bo (nm + 1) nn2)] ∧ eL fr2 to2 wo2 te2 ne2 = eL fr to wo te ne ++ [(bo nm, nn, (n : Int), 10)] ∧ chn fr2 (va_up fo2 nn2 (-2)) no2 (nn2 + 1) ne2 ∧ nn2 = nn ∧ ne2 = ne + 1 : MP) rr ww → Post rr ww := by rw [← hPost]; exact fun _ _ h => h
  clear hPost
  have hp1 : plen (0 + (n + 1) * 256 ^ 0) = 1 := by unfold plen; rw [if_neg (by omega), if_pos (by omega)]
  have hE1 : altE (bo nm) nn nn (0 + (n + 1) * 256 ^ 0) 10 = [(bo nm, nn, (n : Int), 10)] := by
    unfold altE
    rw [hp1, if_neg (by omega)]
    show [altK (bo nm) nn nn (0 + (n + 1) * 256 ^ 0) 10 0] = _
    unfold altK
    have hw1 : (0 + (n + 1) * 256 ^ 0) / 256 ^ 0 % 256 = n + 1 := by rw [Nat.pow_zero]; omega
    rw [hp1, if_pos rfl, if_pos rfl, if_pos rfl, hw1]
    congr 4
    omega
  show WM mX1_layWord 0 0 Post 14 0 [(0, .ref 0), (1, vI (n : Int))] [] [ob 1 [.ref 1, .ref 2, .ref 3, .ref 4, .ref 5, .ref 6, .ref 7, .ref 8, .ref 9, .ref 10, .ref 11, .ref 12, .ref 13, vI (nn : Int), vI (ne : Int), vI (nm : Int)], cN 512 fr, cN 512 to, cI 512 wo, cN 512 te, cZ 512 hv, cI 401 fo, cI 512 no, cN 16 mb, cN 16 mw, cI 16 ml, cN 16 ma, cI 16 sk, cN 17 bo] 0 0
  refine sq_ok rfl [(.aload_n 0, 0, 0, 0), (.getfield 37, 1, 8, 0), (.aload_n 0, 0, 0, 0), (.getfield 59, 1, 15, 0), (.iconst 1, 0, 0, 0), (.iastore, 0, 0, 0)] 0 _ _ _ _ _ (by decide +kernel) ?_
  show ∃ (j9 : Nat) (g9 : Nat → Int32), (mj 16 (kI (nm : Int)) j9 ∧ g9 = upd (fun q => kI ((mw q : Nat) : Int)) j9 (kI 1)) ∧ WM mX1_layWord 0 0 Post 14 10 [(0, .ref 0), (1, vI (n : Int))] [] [ob 1 [.ref 1, .ref 2, .ref 3, .ref 4, .ref 5, .ref 6, .ref 7, .ref 8, .ref 9, .ref 10, .ref 11, .ref 12, .ref 13, vI (nn : Int), vI (ne : Int), vI (nm : Int)], cN 512 fr, cN 512 to, cI 512 wo, cN 512 te, cZ 512 hv, cI 401 fo, cI 512 no, cN 16 mb, .inl (0, 16, .inl g9), cI 16 ml, cN 16 ma, cI 16 sk, cN 17 bo] 0 0
  refine ⟨nm, fun q => kI (((va_up mw nm 1) q : Nat) : Int), ⟨⟨by omega, by omega, rfl⟩, st_N (rfl)⟩, ?_⟩
  refine sq_ok rfl [(.aload_n 0, 0, 0, 0), (.getfield 43, 1, 10, 0), (.aload_n 0, 0, 0, 0), (.getfield 59, 1, 15, 0), (.iconst 1, 0, 0, 0), (.iastore, 0, 0, 0)] 10 _ _ _ _ _ (by decide +kernel) ?_
  show ∃ (j19 : Nat) (g19 : Nat → Int32), (mj 16 (kI (nm : Int)) j19 ∧ g19 = upd (fun q => kI ((ma q : Nat) : Int)) j19 (kI 1)) ∧ WM mX1_layWord 0 0 Post 14 20 [(0, .ref 0), (1, vI (n : Int))] [] [ob 1 [.ref 1, .ref 2, .ref 3, .ref 4, .ref 5, .ref 6, .ref 7, .ref 8, .ref 9, .ref 10, .ref 11, .ref 12, .ref 13, vI (nn : Int), vI (ne : Int), vI (nm : Int)], cN 512 fr, cN 512 to, cI 512 wo, cN 512 te, cZ 512 hv, cI 401 fo, cI 512 no, cN 16 mb, cN 16 (va_up mw nm 1), cI 16 ml, .inl (0, 16, .inl g19), cI 16 sk, cN 17 bo] 0 0
  refine ⟨nm, fun q => kI (((va_up ma nm 1) q : Nat) : Int), ⟨⟨by omega, by omega, rfl⟩, st_N (rfl)⟩, ?_⟩
  refine sq_ok rfl [(.aload_n 0, 0, 0, 0), (.iconst 0, 0, 0, 0), (.iconst 0, 0, 0, 0), (.iload_n 1, 0, 0, 0)] 20 _ _ _ _ _ (by decide +kernel) ?_
  show WM mX1_layWord 0 0 Post 14 24 [(0, .ref 0), (1, vI (n : Int))] [vI (n : Int), vI 0, vI 0, .ref 0] [ob 1 [.ref 1, .ref 2, .ref 3, .ref 4, .ref 5, .ref 6, .ref 7, .ref 8, .ref 9, .ref 10, .ref 11, .ref 12, .ref 13, vI (nn : Int), vI (ne : Int), vI (nm : Int)], cN 512 fr, cN 512 to, cI 512 wo, cN 512 te, cZ 512 hv, cI 401 fo, cI 512 no, cN 16 mb, cN 16 (va_up mw nm 1), cI 16 ml, cN 16 (va_up ma nm 1), cI 16 sk, cN 17 bo] 0 0
  refine wm_callS (y := mX1_layWord) mX4_with [] (pc := 24) (rest := [.ref 0]) (mc' := 0) (ms' := 0) (by decide +kernel) kX1_88 (c_X4_with 0 0 n (by omega) (by omega) (by omega)) rfl ⟨Nat.le_of_ble_eq_true rfl, Nat.le_of_ble_eq_true rfl⟩ ⟨Nat.le_of_ble_eq_true rfl, Nat.le_of_ble_eq_true rfl⟩ (Nat.le_of_ble_eq_true rfl) rfl rfl (Nat.le_of_ble_eq_true rfl) rfl ?_
  rintro _ _ ⟨rfl, rfl⟩
  show WM mX1_layWord 0 0 Post 14 27 [(0, .ref 0), (1, vI (n : Int))] [vI (((0 + (n + 1) * 256 ^ 0) : Nat) : Int), .ref 0] [ob 1 [.ref 1, .ref 2, .ref 3, .ref 4, .ref 5, .ref 6, .ref 7, .ref 8, .ref 9, .ref 10, .ref 11, .ref 12, .ref 13, vI (nn : Int), vI (ne : Int), vI (nm : Int)], cN 512 fr, cN 512 to, cI 512 wo, cN 512 te, cZ 512 hv, cI 401 fo, cI 512 no, cN 16 mb, cN 16 (va_up mw nm 1), cI 16 ml, cN 16 (va_up ma nm 1), cI 16 sk, cN 17 bo] 0 0
  refine sq_ok rfl [(.bipush 10, 0, 0, 0), (.aload_n 0, 0, 0, 0), (.getfield 52, 1, 13, 0)] 27 _ _ _ _ _ (by decide +kernel) ?_
  show WM mX1_layWord 0 0 Post 14 33 [(0, .ref 0), (1, vI (n : Int))] [vI (nn : Int), vI 10, vI (((0 + (n + 1) * 256 ^ 0) : Nat) : Int), .ref 0] [ob 1 [.ref 1, .ref 2, .ref 3, .ref 4, .ref 5, .ref 6, .ref 7, .ref 8, .ref 9, .ref 10, .ref 11, .ref 12, .ref 13, vI (nn : Int), vI (ne : Int), vI (nm : Int)], cN 512 fr, cN 512 to, cI 512 wo, cN 512 te, cZ 512 hv, cI 401 fo, cI 512 no, cN 16 mb, cN 16 (va_up mw nm 1), cI 16 ml, cN 16 (va_up ma nm 1), cI 16 sk, cN 17 bo] 0 0
  refine wm_callV (y := mX1_layWord) mX1_layAlternative [0, 1, 2, 3, 4, 5, 6, 7, 8, 9, 10, 11, 12, 13] (pc := 33) (rest := []) (mc' := 0) (ms' := 0) (by decide +kernel) kX1_92 (c_X1_layAlternative fr to wo te hv fo no mb (va_up mw nm 1) ml (va_up ma nm 1) sk bo nn ne nm (by omega) (0 + (n + 1) * 256 ^ 0) 10 nn (by omega) hb (by omega) (by omega) hnm hC) rfl rfl ⟨_, rfl, rfl⟩ ⟨Nat.le_of_ble_eq_true rfl, Nat.le_of_ble_eq_true rfl⟩ ⟨Nat.le_of_ble_eq_true rfl, Nat.le_of_ble_eq_true rfl⟩ (Nat.le_of_ble_eq_true rfl) rfl rfl (Nat.le_of_ble_eq_true rfl) rfl ?_
  rintro _ _ ⟨fr2, to2, wo2, te2, fo2, no2, nn2, ne2, rfl, rfl, hE, hC2, hn2⟩
  rw [hp1] at hn2
  rw [hE1, eL_app] at hE
  obtain ⟨hne2, hEa, hEb⟩ := hE
  have hn3 : nn2 = nn := by omega
  rw [if_neg (show ¬ plen (0 + (n + 1) * 256 ^ 0) = 0 by omega)]
  have hte2 : ∀ e, e < ne2 → te2 e ≤ 10 := by
    intro e he
    by_cases h1 : e = ne
    · have h2 := congrArg (fun x : Ed => x.2.2.2) hEb
      rw [h1]
      exact Nat.le_of_eq h2
    · have h2 := lst_inj hEa e (by omega)
      have h3 := congrArg (fun x : Ed => x.2.2.2) h2
      have h4 := hte e (by omega)
      exact Nat.le_trans (Nat.le_of_eq h3) h4
  show WM mX1_layWord 0 0 Post 14 36 [(0, .ref 0), (1, vI (n : Int))] [] [ob 1 [.ref 1, .ref 2, .ref 3, .ref 4, .ref 5, .ref 6, .ref 7, .ref 8, .ref 9, .ref 10, .ref 11, .ref 12, .ref 13, vI (nn2 : Int), vI (ne2 : Int), vI (nm : Int)], cN 512 fr2, cN 512 to2, cI 512 wo2, cN 512 te2, cZ 512 hv, cI 401 fo2, cI 512 no2, cN 16 mb, cN 16 (va_up mw nm 1), cI 16 ml, cN 16 (va_up ma nm 1), cI 16 sk, cN 17 bo] 0 0
  refine sq_ok rfl [(.aload_n 0, 0, 0, 0), (.aload_n 0, 0, 0, 0), (.getfield 56, 1, 14, 0), (.iconst 1, 0, 0, 0), (.isub, 0, 0, 0)] 36 _ _ _ _ _ (by decide +kernel) ?_
  show WM mX1_layWord 0 0 Post 14 43 [(0, .ref 0), (1, vI (n : Int))] [.int ((kI (ne2 : Int)) - (kI 1)), .ref 0] [ob 1 [.ref 1, .ref 2, .ref 3, .ref 4, .ref 5, .ref 6, .ref 7, .ref 8, .ref 9, .ref 10, .ref 11, .ref 12, .ref 13, vI (nn2 : Int), vI (ne2 : Int), vI (nm : Int)], cN 512 fr2, cN 512 to2, cI 512 wo2, cN 512 te2, cZ 512 hv, cI 401 fo2, cI 512 no2, cN 16 mb, cN 16 (va_up mw nm 1), cI 16 ml, cN 16 (va_up ma nm 1), cI 16 sk, cN 17 bo] 0 0
  have e1 : ((kI (ne2 : Int)) - (kI 1)) = kI (((ne2 - 1) : Nat) : Int) := by rw [kI_sub]; congr 1; omega
  rw [e1]
  refine wm_callV (y := mX1_layWord) mX1_endMatch [0, 1, 2, 3, 4, 5, 6, 7, 8, 9, 10, 11, 12, 13] (pc := 43) (rest := []) (mc' := 0) (ms' := 0) (by decide +kernel) kX1_96 (c_X1_endMatch fr2 to2 wo2 te2 hv fo2 no2 mb (va_up mw nm 1) ml (va_up ma nm 1) sk bo nn2 ne2 nm hnm (by omega) (by omega) hC2.2.2 hte2 (by omega) (ne2 - 1) (by omega)) rfl rfl ⟨_, rfl, rfl⟩ ⟨Nat.le_of_ble_eq_true rfl, Nat.le_of_ble_eq_true rfl⟩ ⟨Nat.le_of_ble_eq_true rfl, Nat.le_of_ble_eq_true rfl⟩ (Nat.le_of_ble_eq_true rfl) rfl rfl (Nat.le_of_ble_eq_true rfl) rfl ?_
  rintro _ _ ⟨rfl, rfl⟩
  show WM mX1_layWord 0 0 Post 14 46 [(0, .ref 0), (1, vI (n : Int))] [] [ob 1 [.ref 1, .ref 2, .ref 3, .ref 4, .ref 5, .ref 6, .ref 7, .ref 8, .ref 9, .ref 10, .ref 11, .ref 12, .ref 13, vI (((nn2 + 1) : Nat) : Int), vI (ne2 : Int), vI (((nm + 1) : Nat) : Int)], cN 512 fr2, cN 512 to2, cI 512 wo2, cN 512 te2, cZ 512 (hvy fr2 te2 (bo nm) (ne2 - 1) ne2 hv ne2), cI 401 (va_up fo2 nn2 (-2)), cI 512 no2, cN 16 mb, cN 16 (va_up mw nm 1), cI 16 ml, cN 16 (va_up ma nm 1), cI 16 sk, cN 17 (va_up bo (nm + 1) nn2)] 0 0
  refine sq_ok rfl [(.return_, 0, 0, 0)] 46 _ _ _ _ _ (by decide +kernel) ?_
  show ((0 ≤ 0 ∧ 0 ≤ 0) ∧ Post none [ob 1 [.ref 1, .ref 2, .ref 3, .ref 4, .ref 5, .ref 6, .ref 7, .ref 8, .ref 9, .ref 10, .ref 11, .ref 12, .ref 13, vI (((nn2 + 1) : Nat) : Int), vI (ne2 : Int), vI (((nm + 1) : Nat) : Int)], cN 512 fr2, cN 512 to2, cI 512 wo2, cN 512 te2, cZ 512 (hvy fr2 te2 (bo nm) (ne2 - 1) ne2 hv ne2), cI 401 (va_up fo2 nn2 (-2)), cI 512 no2, cN 16 mb, cN 16 (va_up mw nm 1), cI 16 ml, cN 16 (va_up ma nm 1), cI 16 sk, cN 17 (va_up bo (nm + 1) nn2)])
  refine ⟨⟨Nat.le_refl _, Nat.le_refl _⟩, hPo _ _ ?_⟩
  exact ⟨fr2, to2, wo2, te2, fo2, no2, nn2, ne2, rfl, rfl, eL_app.mpr ⟨hne2, hEa, hEb⟩, chn_node hC2, hn3, hne2⟩
