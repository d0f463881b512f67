/-! THE LAW, 7: its loop, its beginning -/
theorem vp_of {X : SX} {i : Nat} (hL : X.2.1 ≤ 2560) {q : Int} (hq : 0 ≤ q ∧ (i : Int) + q < X.2.1) : vp_in (kI ((i : Int) + q)) X.2.1 := by
  have e : (kI ((i : Int) + q)).toInt = (i : Int) + q := kI_toInt (by omega) (by omega)
  rintro (h | h)
  · rw [kI_0, kI_lt ⟨⟨by omega, by omega⟩, by omega, by omega⟩] at h
    omega
  · have h : X.2.1 ≤ (kI ((i : Int) + q)).toInt.toNat := h
    rw [e] at h
    omega
set_option maxHeartbeats 4000000 in
theorem law_head {X : SX} (hL : X.2.1 ≤ 2560) {i : Nat} (hi5 : i ≤ 2565) {c : CS} {m : MS} {nc ns : Nat} (h : IV c m) (hr : rmC c nc ns) (k9 : i + 5 ≤ X.2.1 → ∀ c' m' nc' ns', IV c' m' → rmC c' nc' ns' → WQ X 939 (LL (kI (i : Int))) [] (w2 c' m') nc' ns') : WQ X 18 (LL (kI (i : Int))) [] (w2 c m) nc ns := by
  refine sq_okX rfl [(.iload_n 3, 0, 0, 0)] 18 _ _ _ _ _ rfl (by decide +kernel) ?_
  show WQ X 19 (LL (kI (i : Int))) [.int (kI (i : Int))] _ _ _
  refine wl_len (y := mL_law) (by decide +kernel) (by decide +kernel) ?_
  show WQ X 21 (LL (kI (i : Int))) [.int (Int32.ofNat X.2.1), .int (kI (i : Int))] _ _ _
  rw [show Int32.ofNat X.2.1 = kI (X.2.1 : Int) from (kI_nat _).symm]
  refine sq_okX rfl [(.iconst 5, 0, 0, 0), (.isub, 0, 0, 0), (.if_icmp .gt 922, 0, 0, 0)] 21 _ _ _ _ _ rfl (by decide +kernel) ?_
  show (kI (X.2.1 : Int) - kI 5 < kI (i : Int) → WQ X 945 (LL (kI (i : Int))) [] _ _ _) ∧ (¬ kI (X.2.1 : Int) - kI 5 < kI (i : Int) → WQ X 26 (LL (kI (i : Int))) [] _ _ _)
  rw [kI_sub, kI_lt ⟨⟨by omega, by omega⟩, by omega, by omega⟩]
  refine ⟨fun hgt => ?_, fun hle => ?_⟩
  · refine sq_okX rfl [(.iconst 1, 0, 0, 0), (.ireturn, 0, 0, 0)] 945 _ _ _ _ _ rfl (by decide +kernel) ?_
    have hr1 := hr.1
    have hr2 := hr.2
    have hP := h.pc.A.2.2
    have hQ := h.Q.2.2
    exact ⟨rfl, ⟨by omega, by omega⟩, rfl⟩
  · have hle2 : i + 5 ≤ X.2.1 := by omega
    have k9 := k9 hle2
    have hi : ∀ q : Int, 1 ≤ q ∧ q ≤ 4 → vp_in (kI (i : Int) + kI q) X.2.1 := fun q hq => by rw [kI_add]; exact vp_of hL (by omega)
    have hi0 : vp_in (kI (i : Int)) X.2.1 := by
      have := vp_of (X := X) (i := i) hL (q := 0) (by omega)
      rw [Int.add_zero] at this
      exact this
    refine wl_read0 (y := mL_law) (by decide +kernel) (by decide +kernel) (by decide +kernel) rfl hi0 ?_
    show WQ X 29 (LL (kI (i : Int))) [.int (X.2.2 (kI (i : Int)).toNatClampNeg)] _ _ _
    refine sq_okX rfl [(.bipush 31, 0, 0, 0), (.iand, 0, 0, 0), (.tableswitch 907 0 26 #[124, 177, 200, 223, 256, 295, 308, 321, 354, 397, 410, 433, 446, 469, 502, 535, 549, 612, 666, 680, 694, 727, 751, 824, 837, 850, 883], 0, 0, 124)] 29 _ _ _ _ _ rfl (by decide +kernel) ?_
    refine ⟨fun _ => br_feed h hr hi k9, fun _ => ?_⟩
    refine ⟨fun _ => br_cut h hr hi k9, fun _ => ?_⟩
    refine ⟨fun _ => br_told h hr hi k9, fun _ => ?_⟩
    refine ⟨fun _ => br_word h hr hi k9, fun _ => ?_⟩
    refine ⟨fun _ => br_rule h hr hi k9, fun _ => ?_⟩
    refine ⟨fun _ => br_fresh h hr hi k9, fun _ => ?_⟩
    refine ⟨fun _ => br_reload h hr hi k9, fun _ => ?_⟩
    refine ⟨fun _ => br_left h hr hi k9, fun _ => ?_⟩
    refine ⟨fun _ => br_alternative h hr hi k9, fun _ => ?_⟩
    refine ⟨fun _ => br_input h hr hi k9, fun _ => ?_⟩
    refine ⟨fun _ => br_longest h hr hi k9, fun _ => ?_⟩
    refine ⟨fun _ => br_graph h hr hi k9, fun _ => ?_⟩
    refine ⟨fun _ => br_size h hr hi k9, fun _ => ?_⟩
    refine ⟨fun _ => br_match h hr hi k9, fun _ => ?_⟩
    refine ⟨fun _ => br_edge h hr hi k9, fun _ => ?_⟩
    refine ⟨fun _ => br_phrases h hr hi k9, fun _ => ?_⟩
    refine ⟨fun _ => br_phrase h hr hi k9, fun _ => ?_⟩
    refine ⟨fun _ => br_weight h hr hi k9, fun _ => ?_⟩
    refine ⟨fun _ => br_which h hr hi k9, fun _ => ?_⟩
    refine ⟨fun _ => br_heaviest h hr hi k9, fun _ => ?_⟩
    refine ⟨fun _ => br_position h hr hi k9, fun _ => ?_⟩
    refine ⟨fun _ => br_rows h hr hi k9, fun _ => ?_⟩
    refine ⟨fun _ => br_row h hr hi k9, fun _ => ?_⟩
    refine ⟨fun _ => br_document h hr hi k9, fun _ => ?_⟩
    refine ⟨fun _ => br_hits h hr hi k9, fun _ => ?_⟩
    refine ⟨fun _ => br_hit h hr hi k9, fun _ => ?_⟩
    refine ⟨fun _ => br_hitWeight h hr hi k9, fun _ => ?_⟩
    exact k9 c m nc ns h hr
theorem law_loop {X : SX} (hL : X.2.1 ≤ 2560) : ∀ (n i : Nat) (c : CS) (m : MS) (nc ns : Nat), X.2.1 < i + n → i ≤ 2565 → IV c m → rmC c nc ns → WQ X 18 (LL (kI (i : Int))) [] (w2 c m) nc ns
  | 0, i, c, m, nc, ns, hn, hi, h, hr => law_head hL hi h hr (fun h5 => by omega)
  | n + 1, i, c, m, nc, ns, hn, hi, h, hr => law_head hL hi h hr (fun h5 c' m' nc' ns' h' hr' => by
    refine sq_okX rfl [(.iinc 3 5, 0, 0, 0), (.goto (-924), 0, 0, 0)] 939 _ _ _ _ _ rfl (by decide +kernel) ?_
    show WQ X 18 (LL (kI (i : Int) + kI 5)) [] _ _ _
    rw [kI_add]
    exact law_loop hL n (i + 5) c' m' nc' ns' (by omega) (by omega) h' hr')
theorem mrg_new {n : Nat} {A : MW} {b : va_E} {B : MW} (hn : A.length = n) (hB : B ≠ []) : mrg [n] (A ++ [b]) B = A ++ shW n B := by
  cases B with
  | nil => exact absurd rfl hB
  | cons e r =>
    have hs : sg [n] (A ++ [b]).length = fun i => n + i := by
      funext i
      cases i with
      | zero => rfl
      | succ i =>
        show (A ++ [b]).length + (i + 1 - 1) = n + (i + 1)
        rw [List.length_append, hn]
        show n + 1 + _ = _
        omega
    have e1 : ∀ F : Nat → va_E → va_E, (∀ k, k ≠ n → ∀ x, F k x = x) → (∀ x, F n x = mrE (fun i => n + i) e) → mgo F 0 (A ++ [b]) = A ++ [mrE (fun i => n + i) e] := by
      intro F h1 h2
      apply List.ext_getElem?
      intro i
      rw [mgo_get, Nat.zero_add]
      by_cases h : i < n
      · rw [List.getElem?_append_left (by omega), List.getElem?_append_left (by omega), show F i = id from funext (h1 i (by omega))]
        exact Option.map_id'
      · rw [List.getElem?_append_right (by omega), List.getElem?_append_right (by omega), hn]
        by_cases h3 : i = n
        · rw [h3, Nat.sub_self]
          show some (F n b) = _
          rw [h2]
          rfl
        · rw [List.getElem?_eq_none (by show 1 ≤ i - n; omega), List.getElem?_eq_none (by show 1 ≤ i - n; omega)]
          rfl
    have hm : ∀ k, k ≠ n → mix k [n] 0 = none := fun k hk => by
      unfold mix
      cases hb : Nat.beq n k with
      | false => rfl
      | true => exact absurd (Nat.eq_of_beq_eq_true hb).symm hk
    have hm2 : mix n [n] 0 = some 0 := by
      unfold mix
      rw [Nat.beq_refl]
    unfold mrg
    rw [hs, e1 _ (fun k hk x => by rw [hm k hk]) (fun x => by rw [hm2]; rfl), List.append_assoc]
    rfl
theorem shW_0 (B : MW) : shW 0 B = B := by
  unfold shW
  rw [show (fun i => 0 + i) = fun i => i from funext (fun i => Nat.zero_add i), show mrE (fun i => i) = id from funext mrE_id, List.map_id]
abbrev c0_ (P3 : PT) : CS := ((fun _ => 0), 0, (fun _ => 0), (fun _ => 0), (fun _ => 0), 0, (fun _ => 0), (fun _ => 0), 0, (fun _ => 0), (fun _ => 0), (fun _ => 0), 0, 0, false, 0, (fun _ => 0), 0, (fun _ => 0), (fun _ => 0), 0, (fun _ => 0), (fun _ => 0), 0, (fun _ => 0), (fun _ => 0), 0, 0, (fun _ => 0), (fun _ => 0), (fun _ => 0), false, (fun _ => 0), (fun _ => 0), 0, 0, (fun _ => 0), (fun _ => 0), (fun _ => 0), false, (fun _ => 0), (fun _ => 0), 0, 0, (fun _ => 0), (fun _ => 0), (fun _ => 0), false, (fun _ => 0), 0, false, (fun _ => 0), (fun _ => 0), P3, pZ, 0)
abbrev m0_ (fr9 : Nat → Nat) (to9 : Nat → Nat) (wo9 : Nat → Int) (te9 : Nat → Nat) (ne9 : Nat) (nm9 : Nat) (ma9 : Nat → Nat) (mm9 : Nat → Nat) (ml9 : Nat → Int) (mt9 : Nat → Nat) (mb9 : Nat → Nat) (nn9 : Nat) (be9 : Nat → Nat) (se9 : Nat → Nat) (ns9 : Nat) (na9 : Nat) (xf9 : Nat → Nat) (xw9 : Nat → Nat) (xt9 : Nat → Nat) (po9 : Nat → Nat) (pm9 : Nat → Nat) (ia9 : Nat → Bool) (fl9 : Nat → Nat) (co9 : Nat → Nat) (np9 : Nat) (al9 : Nat → Nat) (so9 : Nat → Nat) (sh9 : Nat → Nat) (ao9 : Nat → Nat) : MS := ((fun _ => 0), 0, (fun _ => 0), (fun _ => 0), 0, 0, 0, 0, 0, (fun _ => 0), (fun _ => 0), 0, (fun _ => 0), (fun _ => 0), (fun _ => 0), (fun _ => 0), (fun _ => 0), (fun _ => 0), 0, 0, false, 0, 0, (fun _ => 0), (fun _ => 0), (fun _ => 0), (fun _ => 0), (fun _ => 0), (fun _ => 0), (fun _ => 0), (fun _ => false), (fun _ => 0), 0, 0, nn9, ne9, nm9, ns9, na9, np9, fr9, to9, wo9, te9, ma9, mm9, ml9, mt9, mb9, po9, be9, ao9, se9, xf9, xw9, xt9, al9, co9, pm9, ia9, fl9, so9, sh9, (fun _ => 0), 0, (fun _ => 0), (fun _ => 0), 0, (fun _ => 0), (fun _ => 0), (fun _ => 0), (fun _ => 0), 0, 0, 0, 0)
theorem IV_0 {P3 : PT} {fr9 : Nat → Nat} {to9 : Nat → Nat} {wo9 : Nat → Int} {te9 : Nat → Nat} {ne9 : Nat} {nm9 : Nat} {ma9 : Nat → Nat} {mm9 : Nat → Nat} {ml9 : Nat → Int} {mt9 : Nat → Nat} {mb9 : Nat → Nat} {nn9 : Nat} {be9 : Nat → Nat} {se9 : Nat → Nat} {ns9 : Nat} {na9 : Nat} {xf9 : Nat → Nat} {xw9 : Nat → Nat} {xt9 : Nat → Nat} {po9 : Nat → Nat} {pm9 : Nat → Nat} {ia9 : Nat → Bool} {fl9 : Nat → Nat} {co9 : Nat → Nat} {np9 : Nat} {al9 : Nat → Nat} {so9 : Nat → Nat} {sh9 : Nat → Nat} {ao9 : Nat → Nat} (hv : p_vs P3 = 0) (hA : picA P3) (hR : picR [] P3) (hse : ∀ j, se9 j < 18446744073709551616) (hM : picM [] nn9 ne9 nm9 ns9 na9 np9 fr9 to9 wo9 te9 ma9 mm9 ml9 mt9 mb9 be9 ao9 se9 xf9 xw9 xt9 al9 co9 pm9 ia9 fl9) : IV (c0_ P3) (m0_ fr9 to9 wo9 te9 ne9 nm9 ma9 mm9 ml9 mt9 mb9 nn9 be9 se9 ns9 na9 xf9 xw9 xt9 po9 pm9 ia9 fl9 co9 np9 al9 so9 sh9 ao9) :=
  ⟨rfl, (Nat.zero_le _), rfl, (fun q => Nat.zero_le _), rfl, (fun j hj => absurd hj (Nat.not_lt_zero _)), ⟨Nat.zero_le _, fun j hj => absurd hj (Nat.not_lt_zero _), fun j => (by show 0 < 256; omega), fun j hj => absurd hj (Nat.not_lt_zero _)⟩, rfl, (Nat.zero_le _), rfl, rfl, rOK_0, rOK_0, rOK_0, ⟨fun _ => Nat.zero_le _, fun _ => Nat.zero_le _, fun _ => (by show 0 < 200; omega), fun _ => Nat.zero_le _, fun _ => Nat.zero_le _, fun _ => (by show 0 < 200; omega), fun _ => Nat.zero_le _⟩, (fun l hl => absurd hl (Nat.not_lt_zero _)), (fun l hl => absurd hl (Nat.not_lt_zero _)), (fun l hl => absurd hl (Nat.not_lt_zero _)), (fun x hx => by cases hx), (fun x hx => by cases hx), (fun l k hl => absurd hl (Nat.not_lt_zero _)), (fun j => by show 0 < 1152921504606846976; omega), rfl, (Nat.zero_le _), (fun j hj => absurd hj (Nat.not_lt_zero _)), (fun j => by show 0 < 200; omega), rfl, (Nat.zero_le _), (fun j hj => absurd hj (Nat.not_lt_zero _)), (fun j hj => absurd hj (Nat.not_lt_zero _)), rfl, hv, (show CP [] P3 from ⟨hR, hA, fun s hs => by cases hs⟩), hM, hse, (Nat.zero_le _), (fun j => by show 0 < 200; omega), ⟨fun j => (by show 0 < 18446744073709551616; omega), (by show 2 ≤ 512; omega), (by show 512 ≤ 120000; omega)⟩⟩
set_option maxRecDepth 100000 in
set_option maxHeartbeats 4000000 in
theorem law_s3 {X : SX} (hL : X.2.1 ≤ 2560) {P3 : PT} (hv : p_vs P3 = 0) (hn : p_nA P3 = 512) (hA : picA P3) (hR : picR [] P3) {fr9 : Nat → Nat} {to9 : Nat → Nat} {wo9 : Nat → Int} {te9 : Nat → Nat} {ne9 : Nat} {nm9 : Nat} {ma9 : Nat → Nat} {mm9 : Nat → Nat} {ml9 : Nat → Int} {mt9 : Nat → Nat} {mb9 : Nat → Nat} {nn9 : Nat} {be9 : Nat → Nat} {se9 : Nat → Nat} {ns9 : Nat} {na9 : Nat} {xf9 : Nat → Nat} {xw9 : Nat → Nat} {xt9 : Nat → Nat} {po9 : Nat → Nat} {pm9 : Nat → Nat} {ia9 : Nat → Bool} {fl9 : Nat → Nat} {co9 : Nat → Nat} {np9 : Nat} {al9 : Nat → Nat} {so9 : Nat → Nat} {sh9 : Nat → Nat} {ao9 : Nat → Nat} (hse : ∀ j, se9 j < 18446744073709551616) (hM : picM [] nn9 ne9 nm9 ns9 na9 np9 fr9 to9 wo9 te9 ma9 mm9 ml9 mt9 mb9 be9 ao9 se9 xf9 xw9 xt9 al9 co9 pm9 ia9 fl9) : WQ X 15 [(1, .ref 0)] [.ref 112] (w2 (c0_ P3) (m0_ fr9 to9 wo9 te9 ne9 nm9 ma9 mm9 ml9 mt9 mb9 nn9 be9 se9 ns9 na9 xf9 xw9 xt9 po9 pm9 ia9 fl9 co9 np9 al9 so9 sh9 ao9)) 163 208130 := by
  refine sq_okX rfl [(.astore_n 2, 0, 0, 0), (.iconst 0, 0, 0, 0), (.istore_n 3, 0, 0, 0)] 15 _ _ _ _ _ rfl (by decide +kernel) ?_
  show WQ X 18 (LL (kI 0)) [] (w2 (c0_ P3) (m0_ fr9 to9 wo9 te9 ne9 nm9 ma9 mm9 ml9 mt9 mb9 nn9 be9 se9 ns9 na9 xf9 xw9 xt9 po9 pm9 ia9 fl9 co9 np9 al9 so9 sh9 ao9)) 163 208130
  exact law_loop hL (X.2.1 + 1) 0 _ _ _ _ (by omega) (by omega) (IV_0 hv hA hR hse hM) ⟨by show 163 + 1024 = 163 + (p_nA P3 + 512); rw [hn], by show 208130 + 4096 = 208130 + 4 * (p_nA P3 + 512); rw [hn]⟩
