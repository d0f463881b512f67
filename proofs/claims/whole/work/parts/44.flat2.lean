/-! Flat.lay -/
/-- the place of a node behind the first edges -/
def plF (fr to : Nat → Nat) (wo : Nat → Int) : Nat → Nat → Nat
  | 0, _ => 0
  | e + 1, v => if v = to e then max (plF fr to wo e v) (plF fr to wo e (fr e) + (if 0 ≤ wo e then 1 else 0)) else plF fr to wo e v
def wpL (fr to : Nat → Nat) (wo : Nat → Int) (ne p : Nat) : List Nat := (List.range 200).filter (fun w => (List.range ne).any (fun e => wo e == (w : Int) && plF fr to wo e (fr e) == p))
theorem blk_any {wu : Nat → Nat} {g : Nat → Bool} (hp : ∀ w, w < 256 → (wu (w / 64)).testBit (w % 64) = g w) (h2 : ∀ w, 200 ≤ w → w < 256 → g w = false) : blk wu 4 0 = (List.range 200).filter g := by
  rw [blk_fil, show 64 * 4 = 200 + 56 by omega, List.range_add, List.map_append, List.filter_append]
  have e2 : List.filter (fun w => (wu (w / 64)).testBit (w % 64)) (List.map (fun b => 64 * 0 + b) (List.map (fun x => 200 + x) (List.range 56))) = [] := by
    rw [List.filter_eq_nil_iff]
    intro w hw
    rw [List.map_map] at hw
    obtain ⟨b, h1, h3⟩ := List.mem_map.mp hw
    have h4 := List.mem_range.mp h1
    have h5 : w = 200 + b := by rw [← h3]; show 64 * 0 + (200 + b) = _; omega
    show ¬ (wu (w / 64)).testBit (w % 64) = true
    rw [hp w (by omega), h2 w (by omega) (by omega)]
    decide
  have e3 : (fun b => 64 * 0 + b) = @id Nat := funext fun b => by show 64 * 0 + b = b; omega
  rw [e2, List.append_nil, e3, List.map_id]
  apply List.filter_congr
  intro w hw
  exact hp w (by have := List.mem_range.mp hw; omega)
theorem wa_up {wa : Nat → Nat} {p q x w : Nat} (hx : x < 256) (hw : w < 256) : (va_up wa (4 * q + x / 64) (wa (4 * q + x / 64) ||| 2 ^ (x % 64)) (4 * p + w / 64)).testBit (w % 64) = true ↔ (wa (4 * p + w / 64)).testBit (w % 64) = true ∨ (p = q ∧ w = x) := by
  by_cases h1 : 4 * p + w / 64 = 4 * q + x / 64
  · rw [h1, up_eq, tb_or]
    by_cases h2 : x % 64 = w % 64
    · have e1 : p = q ∧ w = x := by omega
      simp [h2, e1]
    · have e1 : ¬ (p = q ∧ w = x) := fun h => by omega
      simp [h2, e1]
  · rw [up_ne _ _ h1]
    have e1 : ¬ (p = q ∧ w = x) := fun h => h1 (by rw [h.1, h.2])
    simp [e1]
theorem fil_split {f : Nat → Nat} {n : Nat} : ∀ l : List Nat, (l.filter (fun e => decide (f e < n + 1))).length = (l.filter (fun e => decide (f e < n))).length + (l.filter (fun e => decide (f e = n))).length
  | [] => rfl
  | a :: l => by
    have ih := fil_split (f := f) (n := n) l
    rw [List.filter_cons, List.filter_cons, List.filter_cons]
    by_cases h1 : f a < n
    · rw [if_pos (decide_eq_true (by omega)), if_pos (decide_eq_true h1), if_neg (by simp; omega), List.length_cons, List.length_cons, ih]; omega
    · by_cases h2 : f a = n
      · rw [if_pos (decide_eq_true (by omega)), if_neg (by simp; omega), if_pos (decide_eq_true h2), List.length_cons, List.length_cons, ih]; omega
      · rw [if_neg (by simp; omega), if_neg (by simp; omega), if_neg (by simp; omega), ih]
theorem wpL_len (fr to : Nat → Nat) (wo : Nat → Int) (ne p : Nat) : (wpL fr to wo ne p).length ≤ ((List.range ne).filter (fun e => decide (plF fr to wo e (fr e) = p))).length := by
  have hnd : (wpL fr to wo ne p).Nodup := List.Nodup.sublist List.filter_sublist List.nodup_range
  have := List.Nodup.length_le_of_subset hnd (l₂ := ((List.range ne).filter (fun e => decide (plF fr to wo e (fr e) = p))).map (fun e => (wo e).toNat)) (fun w hw => by
    obtain ⟨h1, h2⟩ := List.mem_filter.mp hw
    obtain ⟨e, h3, h4⟩ := List.any_eq_true.mp h2
    rw [Bool.and_eq_true] at h4
    have h5 : wo e = (w : Int) := by simpa using h4.1
    exact List.mem_map.mpr ⟨e, List.mem_filter.mpr ⟨h3, decide_eq_true (by simpa using h4.2)⟩, by rw [h5]; rfl⟩)
  rwa [List.length_map] at this
theorem wLs_wpL (fr to : Nat → Nat) (wo : Nat → Int) (ne : Nat) : ∀ n, (wLs (wpL fr to wo ne) n).length ≤ ((List.range ne).filter (fun e => decide (plF fr to wo e (fr e) < n))).length
  | 0 => Nat.zero_le _
  | n + 1 => by
    rw [wLs_succ, List.length_append, fil_split]
    exact Nat.add_le_add (wLs_wpL fr to wo ne n) (wpL_len fr to wo ne n)
theorem wLs_most (fr to : Nat → Nat) (wo : Nat → Int) (ne n : Nat) : (wLs (wpL fr to wo ne) n).length ≤ ne := Nat.le_trans (wLs_wpL fr to wo ne n) (Nat.le_trans (List.length_filter_le _ _) (by rw [List.length_range]; exact Nat.le_refl _))
theorem wLs_ext {f g : Nat → List Nat} : ∀ {n : Nat}, (∀ p, p < n → f p = g p) → wLs f n = wLs g n
  | 0, _ => rfl
  | n + 1, h => by rw [wLs_succ, wLs_succ, wLs_ext (n := n) (fun p hp => h p (by omega)), h n (by omega)]
theorem spG_ext {f g : Nat → Nat} : ∀ {j p : Nat}, (∀ q, p ≤ q → q < p + j → f q = g q) → spG f j p = spG g j p
  | 0, _, _ => rfl
  | j + 1, p, h => by
    show tmF (spG f j (p + 1)) (f p) = tmF (spG g j (p + 1)) (g p)
    rw [spG_ext (j := j) (p := p + 1) (fun q h1 h2 => h q (by omega) (by omega)), h p (Nat.le_refl _) (by omega)]
/-- the graph laid flat -/
def fR (fr to : Nat → Nat) (wo : Nat → Int) (ne nn ps : Nat) (sv wd sp : Nat → Nat) : Prop :=
  ps = plF fr to wo ne (nn - 1) ∧ (∀ p, p ≤ ps → sv p = (wLs (wpL fr to wo ne) p).length) ∧ (List.range (wLs (wpL fr to wo ne) ps).length).map wd = wLs (wpL fr to wo ne) ps ∧ ∀ p, p ≤ ps → sp p = spG (fun p => (wpL fr to wo ne p).length) (ps - p) p

theorem plF_le {fr to : Nat → Nat} {wo : Nat → Int} {B : Nat} : ∀ {e : Nat}, (∀ j, j < e → plF fr to wo j (fr j) + (if 0 ≤ wo j then 1 else 0) ≤ B) → ∀ v, plF fr to wo e v ≤ B
  | 0, _, _ => Nat.zero_le _
  | e + 1, h, v => by
    have ih := plF_le (fr := fr) (to := to) (wo := wo) (e := e) (fun j hj => h j (by omega))
    unfold plF
    split
    · exact Nat.max_le.mpr ⟨ih v, h e (by omega)⟩
    · exact ih v

set_option maxRecDepth 100000 in
set_option maxHeartbeats 500000 in
theorem c_X0_lay (ps : Nat) (sv wd sp pl wa : Nat → Nat) (fr to : Nat → Nat) (wo : Nat → Int) (te : Nat → Nat) (hv : Nat → Bool) (fo no : Nat → Int) (mb mw : Nat → Nat) (ml : Nat → Int) (ma : Nat → Nat) (sk : Nat → Int) (bo : Nat → Nat) (nn ne nm : Nat) (hne : ne ≤ 512) (hnn : nn ≤ 401) (hG : chn fr fo no nn ne) (hwo : ∀ e, e < ne → -2 ≤ wo e ∧ wo e < 200) (hto : ∀ e, e < ne → to e < nn) (hnm : nm ≤ 16) (hbo : ∀ m, m ≤ nm → bo m < 401) (hsk : ∀ m, m < nm → -2147483648 ≤ sk m ∧ sk m ≤ 2147483647) (hn1 : 1 ≤ nn) (hpl : ∀ e, e < ne → plF fr to wo e (fr e) + (if 0 ≤ wo e then 1 else 0) ≤ 64) (hps : plF fr to wo ne (nn - 1) ≤ 64) : CT mX0_lay 0 0 [.ref 0, .ref 6] [ob 0 [vI (ps : Int), .ref 1, .ref 2, .ref 3, .ref 4, .ref 5], cN 65 sv, cN 512 wd, cK 65 sp, cN 401 pl, cK 256 wa, ob 1 [.ref 7, .ref 8, .ref 9, .ref 10, .ref 11, .ref 12, .ref 13, .ref 14, .ref 15, .ref 16, .ref 17, .ref 18, .ref 19, vI (nn : Int), vI (ne : Int), vI (nm : Int)], cN 512 fr, cN 512 to, cI 512 wo, cN 512 te, cZ 512 hv, cI 401 fo, cI 512 no, cN 16 mb, cN 16 mw, cI 16 ml, cN 16 ma, cI 16 sk, cN 17 bo] (fun r w => ∃ (ps2 : Nat) (sv2 wd2 sp2 pl2 wa2 : Nat → Nat), r = none ∧ w = [ob 0 [vI (ps2 : Int), .ref 1, .ref 2, .ref 3, .ref 4, .ref 5], cN 65 sv2, cN 512 wd2, cK 65 sp2, cN 401 pl2, cK 256 wa2, ob 1 [.ref 7, .ref 8, .ref 9, .ref 10, .ref 11, .ref 12, .ref 13, .ref 14, .ref 15, .ref 16, .ref 17, .ref 18, .ref 19, vI (nn : Int), vI (ne : Int), vI (nm : Int)], cN 512 fr, cN 512 to, cI 512 wo, cN 512 te, cZ 512 hv, cI 401 fo, cI 512 no, cN 16 mb, cN 16 mw, cI 16 ml, cN 16 ma, cI 16 sk, cN 17 bo] ∧ fR fr to wo ne nn ps2 sv2 wd2 sp2) := by
  refine CT.intro rfl (Nat.le_of_ble_eq_true rfl) ?_
  generalize hPost : (fun r w => ∃ (ps2 : Nat) (sv2 wd2 sp2 pl2 wa2 : Nat → Nat), r = none ∧ w = [ob 0 [vI (ps2 : Int), .ref 1, .ref 2, .ref 3, .ref 4, .ref 5], cN 65 sv2, cN 512 wd2, cK 65 sp2, cN 401 pl2, cK 256 wa2, ob 1 [.ref 7, .ref 8, .ref 9, .ref 10, .ref 11, .ref 12, .ref 13, .ref 14, .ref 15, .ref 16, .ref 17, .ref 18, .ref 19, vI (nn : Int), vI (ne : Int), vI (nm : Int)], cN 512 fr, cN 512 to, cI 512 wo, cN 512 te, cZ 512 hv, cI 401 fo, cI 512 no, cN 16 mb, cN 16 mw, cI 16 ml, cN 16 ma, cI 16 sk, cN 17 bo] ∧ fR fr to wo ne nn ps2 sv2 wd2 sp2 : MP) = Post
  have hPo : ∀ rr ww, (fun r w => ∃ (ps2 : Nat) (sv2 wd2 sp2 pl2 wa2 : Nat → Nat), r = none ∧ w = [ob 0 [vI (ps2 : Int), .ref 1, .ref 2, .ref 3, .ref 4, .ref 5], cN 65 sv2, cN 512 wd2, cK 65 sp2, cN 401 pl2, cK 256 wa2, ob 1 [.ref 7, .ref 8, .ref 9, .ref 10, .ref 11, .ref 12, .ref 13, .ref 14, .ref 15, .ref 16, .ref 17, .ref 18, .ref 19, vI (nn : Int), vI (ne : Int), vI (nm : Int)], cN 512 fr, cN 512 to, cI 512 wo, cN 512 te, cZ 512 hv, cI 401 fo, cI 512 no, cN 16 mb, cN 16 mw, cI 16 ml, cN 16 ma, cI 16 sk, cN 17 bo] ∧ fR fr to wo ne nn ps2 sv2 wd2 sp2 : MP) rr ww → Post rr ww := by rw [← hPost]; exact fun _ _ h => h
  clear hPost
  show WM mX0_lay 0 0 Post 20 0 [(0, .ref 0), (1, .ref 6)] [] [ob 0 [vI (ps : Int), .ref 1, .ref 2, .ref 3, .ref 4, .ref 5], cN 65 sv, cN 512 wd, cK 65 sp, cN 401 pl, cK 256 wa, ob 1 [.ref 7, .ref 8, .ref 9, .ref 10, .ref 11, .ref 12, .ref 13, .ref 14, .ref 15, .ref 16, .ref 17, .ref 18, .ref 19, vI (nn : Int), vI (ne : Int), vI (nm : Int)], cN 512 fr, cN 512 to, cI 512 wo, cN 512 te, cZ 512 hv, cI 401 fo, cI 512 no, cN 16 mb, cN 16 mw, cI 16 ml, cN 16 ma, cI 16 sk, cN 17 bo] 0 0
  refine sq_ok rfl [(.aload_n 0, 0, 0, 0), (.getfield 22, 0, 4, 0), (.iconst 0, 0, 0, 0)] 0 _ _ _ _ _ (by decide +kernel) ?_
  show WM mX0_lay 0 0 Post 20 5 [(0, .ref 0), (1, .ref 6)] [vI 0, .ref 4] [ob 0 [vI (ps : Int), .ref 1, .ref 2, .ref 3, .ref 4, .ref 5], cN 65 sv, cN 512 wd, cK 65 sp, cN 401 pl, cK 256 wa, ob 1 [.ref 7, .ref 8, .ref 9, .ref 10, .ref 11, .ref 12, .ref 13, .ref 14, .ref 15, .ref 16, .ref 17, .ref 18, .ref 19, vI (nn : Int), vI (ne : Int), vI (nm : Int)], cN 512 fr, cN 512 to, cI 512 wo, cN 512 te, cZ 512 hv, cI 401 fo, cI 512 no, cN 16 mb, cN 16 mw, cI 16 ml, cN 16 ma, cI 16 sk, cN 17 bo] 0 0
  refine wm_callS (y := mX0_lay) mJ7_fill_53178 [4] (pc := 5) (rest := []) (mc' := 0) (ms' := 0) (by decide +kernel) kX0_30 (c_fillI 401 (by omega) (fun q => ((pl q : Nat) : Int)) 0) rfl ⟨Nat.le_of_ble_eq_true rfl, Nat.le_of_ble_eq_true rfl⟩ ⟨Nat.le_of_ble_eq_true rfl, Nat.le_of_ble_eq_true rfl⟩ (Nat.le_of_ble_eq_true rfl) rfl rfl (Nat.le_of_ble_eq_true rfl) rfl ?_
  rintro _ _ ⟨rfl, rfl⟩
  obtain ⟨pl0, hpl0⟩ : ∃ pl0 : Nat → Nat, pl0 = fun q => if q < 401 then 0 else pl q := ⟨_, rfl⟩
  have ef : (fun q => if q < 401 then (0 : Int) else (fun q => ((pl q : Nat) : Int)) q) = fun q => ((pl0 q : Nat) : Int) := by subst hpl0; funext q; dsimp only; split <;> rfl
  rw [ef]
  show WM mX0_lay 0 0 Post 20 8 [(0, .ref 0), (1, .ref 6)] [] [ob 0 [vI (ps : Int), .ref 1, .ref 2, .ref 3, .ref 4, .ref 5], cN 65 sv, cN 512 wd, cK 65 sp, cN 401 pl0, cK 256 wa, ob 1 [.ref 7, .ref 8, .ref 9, .ref 10, .ref 11, .ref 12, .ref 13, .ref 14, .ref 15, .ref 16, .ref 17, .ref 18, .ref 19, vI (nn : Int), vI (ne : Int), vI (nm : Int)], cN 512 fr, cN 512 to, cI 512 wo, cN 512 te, cZ 512 hv, cI 401 fo, cI 512 no, cN 16 mb, cN 16 mw, cI 16 ml, cN 16 ma, cI 16 sk, cN 17 bo] 0 0
  refine sq_ok rfl [(.aload_n 0, 0, 0, 0), (.getfield 27, 0, 5, 0), (.lconst 0, 0, 0, 0)] 8 _ _ _ _ _ (by decide +kernel) ?_
  show WM mX0_lay 0 0 Post 20 13 [(0, .ref 0), (1, .ref 6)] [vJ 0, .ref 5] [ob 0 [vI (ps : Int), .ref 1, .ref 2, .ref 3, .ref 4, .ref 5], cN 65 sv, cN 512 wd, cK 65 sp, cN 401 pl0, cK 256 wa, ob 1 [.ref 7, .ref 8, .ref 9, .ref 10, .ref 11, .ref 12, .ref 13, .ref 14, .ref 15, .ref 16, .ref 17, .ref 18, .ref 19, vI (nn : Int), vI (ne : Int), vI (nm : Int)], cN 512 fr, cN 512 to, cI 512 wo, cN 512 te, cZ 512 hv, cI 401 fo, cI 512 no, cN 16 mb, cN 16 mw, cI 16 ml, cN 16 ma, cI 16 sk, cN 17 bo] 0 0
  refine wm_callS (y := mX0_lay) mJ7_fill_d0a16 [5] (pc := 13) (rest := []) (mc' := 0) (ms' := 0) (by decide +kernel) kX0_36 (c_fillJ 256 (by omega) (fun q => ((wa q : Nat) : Int)) 0) rfl ⟨Nat.le_of_ble_eq_true rfl, Nat.le_of_ble_eq_true rfl⟩ ⟨Nat.le_of_ble_eq_true rfl, Nat.le_of_ble_eq_true rfl⟩ (Nat.le_of_ble_eq_true rfl) rfl rfl (Nat.le_of_ble_eq_true rfl) rfl ?_
  rintro _ _ ⟨rfl, rfl⟩
  obtain ⟨wa0, hwa0⟩ : ∃ wa0 : Nat → Nat, wa0 = fun q => if q < 256 then 0 else wa q := ⟨_, rfl⟩
  have ef2 : (fun q => if q < 256 then (0 : Int) else (fun q => ((wa q : Nat) : Int)) q) = fun q => ((wa0 q : Nat) : Int) := by subst hwa0; funext q; dsimp only; split <;> rfl
  rw [ef2]
  show WM mX0_lay 0 0 Post 20 16 [(0, .ref 0), (1, .ref 6)] [] [ob 0 [vI (ps : Int), .ref 1, .ref 2, .ref 3, .ref 4, .ref 5], cN 65 sv, cN 512 wd, cK 65 sp, cN 401 pl0, cK 256 wa0, ob 1 [.ref 7, .ref 8, .ref 9, .ref 10, .ref 11, .ref 12, .ref 13, .ref 14, .ref 15, .ref 16, .ref 17, .ref 18, .ref 19, vI (nn : Int), vI (ne : Int), vI (nm : Int)], cN 512 fr, cN 512 to, cI 512 wo, cN 512 te, cZ 512 hv, cI 401 fo, cI 512 no, cN 16 mb, cN 16 mw, cI 16 ml, cN 16 ma, cI 16 sk, cN 17 bo] 0 0
  refine sq_ok rfl [(.iconst 0, 0, 0, 0), (.istore_n 2, 0, 0, 0)] 16 _ _ _ _ _ (by decide +kernel) ?_
  show WM mX0_lay 0 0 Post 20 18 [(0, .ref 0), (1, .ref 6), (2, vI 0)] [] [ob 0 [vI (ps : Int), .ref 1, .ref 2, .ref 3, .ref 4, .ref 5], cN 65 sv, cN 512 wd, cK 65 sp, cN 401 pl0, cK 256 wa0, ob 1 [.ref 7, .ref 8, .ref 9, .ref 10, .ref 11, .ref 12, .ref 13, .ref 14, .ref 15, .ref 16, .ref 17, .ref 18, .ref 19, vI (nn : Int), vI (ne : Int), vI (nm : Int)], cN 512 fr, cN 512 to, cI 512 wo, cN 512 te, cZ 512 hv, cI 401 fo, cI 512 no, cN 16 mb, cN 16 mw, cI 16 ml, cN 16 ma, cI 16 sk, cN 17 bo] 0 0
  have lp18 : ∀ (n18 : Nat) (e : Nat) (pl1 : Nat → Nat) (wa1 : Nat → Nat), (e ≤ ne) → (∀ v, v < nn → pl1 v = plF fr to wo e v) → (∀ j, j < 256 → wa1 j < 18446744073709551616) → (∀ p w, p < 64 → w < 256 → ((wa1 (4 * p + w / 64)).testBit (w % 64) = true ↔ ∃ j, j < e ∧ wo j = (w : Int) ∧ plF fr to wo j (fr j) = p)) → (ne - e) < n18 → WM mX0_lay 0 0 Post 20 18 [(0, .ref 0), (1, .ref 6), (2, vI (e : Int))] [] [ob 0 [vI (ps : Int), .ref 1, .ref 2, .ref 3, .ref 4, .ref 5], cN 65 sv, cN 512 wd, cK 65 sp, cN 401 pl1, cK 256 wa1, ob 1 [.ref 7, .ref 8, .ref 9, .ref 10, .ref 11, .ref 12, .ref 13, .ref 14, .ref 15, .ref 16, .ref 17, .ref 18, .ref 19, vI (nn : Int), vI (ne : Int), vI (nm : Int)], cN 512 fr, cN 512 to, cI 512 wo, cN 512 te, cZ 512 hv, cI 401 fo, cI 512 no, cN 16 mb, cN 16 mw, cI 16 ml, cN 16 ma, cI 16 sk, cN 17 bo] 0 0 := by
    intro n18
    induction n18 with
    | zero => intro e pl1 wa1 he hp1 hw1 hb1 hm; exact absurd hm (Nat.not_lt_zero _)
    | succ n18 ih18 =>
      intro e pl1 wa1 he hp1 hw1 hb1 hm18
      refine sq_ok rfl [(.iload_n 2, 0, 0, 0), (.aload_n 1, 0, 0, 0), (.getfield 39, 1, 14, 0), (.if_icmp .ge 93, 0, 0, 0)] 18 _ _ _ _ _ (by decide +kernel) ?_
      show (kI (ne : Int) ≤ kI (e : Int) → WM mX0_lay 0 0 Post 20 116 [(0, .ref 0), (1, .ref 6), (2, vI (e : Int))] [] [ob 0 [vI (ps : Int), .ref 1, .ref 2, .ref 3, .ref 4, .ref 5], cN 65 sv, cN 512 wd, cK 65 sp, cN 401 pl1, cK 256 wa1, ob 1 [.ref 7, .ref 8, .ref 9, .ref 10, .ref 11, .ref 12, .ref 13, .ref 14, .ref 15, .ref 16, .ref 17, .ref 18, .ref 19, vI (nn : Int), vI (ne : Int), vI (nm : Int)], cN 512 fr, cN 512 to, cI 512 wo, cN 512 te, cZ 512 hv, cI 401 fo, cI 512 no, cN 16 mb, cN 16 mw, cI 16 ml, cN 16 ma, cI 16 sk, cN 17 bo] 0 0) ∧ (¬ kI (ne : Int) ≤ kI (e : Int) → WM mX0_lay 0 0 Post 20 26 [(0, .ref 0), (1, .ref 6), (2, vI (e : Int))] [] [ob 0 [vI (ps : Int), .ref 1, .ref 2, .ref 3, .ref 4, .ref 5], cN 65 sv, cN 512 wd, cK 65 sp, cN 401 pl1, cK 256 wa1, ob 1 [.ref 7, .ref 8, .ref 9, .ref 10, .ref 11, .ref 12, .ref 13, .ref 14, .ref 15, .ref 16, .ref 17, .ref 18, .ref 19, vI (nn : Int), vI (ne : Int), vI (nm : Int)], cN 512 fr, cN 512 to, cI 512 wo, cN 512 te, cZ 512 hv, cI 401 fo, cI 512 no, cN 16 mb, cN 16 mw, cI 16 ml, cN 16 ma, cI 16 sk, cN 17 bo] 0 0)
      refine ⟨fun c23 => ?_, fun c23 => ?_⟩
      · 
        rw [kI_le (by omega)] at c23
        have ee : e = ne := by omega
        rw [ee] at hp1 hb1
        have hpn := hp1 (nn - 1) (by omega)
        have hwp : ∀ p, p < pl1 (nn - 1) → wP wa1 p = wpL fr to wo ne p := fun p hp => by
          refine blk_any (g := fun w => (List.range ne).any (fun e => wo e == (w : Int) && plF fr to wo e (fr e) == p)) (fun w hw => ?_) (fun w h1 h2 => ?_)
          · rw [Bool.eq_iff_iff, hb1 p w (by omega) hw, List.any_eq_true]
            constructor
            · rintro ⟨j, g1, g2, g3⟩
              exact ⟨j, List.mem_range.mpr g1, by simp [g2, g3]⟩
            · rintro ⟨j, g1, g2⟩
              rw [Bool.and_eq_true] at g2
              exact ⟨j, List.mem_range.mp g1, by simpa using g2.1, by simpa using g2.2⟩
          · rw [List.any_eq_false]
            intro j hj
            have := hwo j (List.mem_range.mp hj)
            simp; omega
        refine sq_ok rfl [(.aload_n 0, 0, 0, 0), (.aload_n 0, 0, 0, 0), (.getfield 22, 0, 4, 0), (.aload_n 1, 0, 0, 0)] 116 _ _ _ _ _ (by decide +kernel) ?_
        show WM mX0_lay 0 0 Post 20 122 [(0, .ref 0), (1, .ref 6), (2, vI (e : Int))] [.ref 6, .ref 4, .ref 0] [ob 0 [vI (ps : Int), .ref 1, .ref 2, .ref 3, .ref 4, .ref 5], cN 65 sv, cN 512 wd, cK 65 sp, cN 401 pl1, cK 256 wa1, ob 1 [.ref 7, .ref 8, .ref 9, .ref 10, .ref 11, .ref 12, .ref 13, .ref 14, .ref 15, .ref 16, .ref 17, .ref 18, .ref 19, vI (nn : Int), vI (ne : Int), vI (nm : Int)], cN 512 fr, cN 512 to, cI 512 wo, cN 512 te, cZ 512 hv, cI 401 fo, cI 512 no, cN 16 mb, cN 16 mw, cI 16 ml, cN 16 ma, cI 16 sk, cN 17 bo] 0 0
        refine wm_callV (y := mX0_lay) mX1_lastNode [6, 7, 8, 9, 10, 11, 12, 13, 14, 15, 16, 17, 18, 19] (pc := 122) (rest := [.ref 4, .ref 0]) (mc' := 0) (ms' := 0) (by decide +kernel) kX0_60 (c_X1_lastNode fr to wo te hv fo no mb mw ml ma sk bo nn ne nm hn1) rfl rfl ⟨_, rfl, rfl⟩ ⟨Nat.le_of_ble_eq_true rfl, Nat.le_of_ble_eq_true rfl⟩ ⟨Nat.le_of_ble_eq_true rfl, Nat.le_of_ble_eq_true rfl⟩ (Nat.le_of_ble_eq_true rfl) rfl rfl (Nat.le_of_ble_eq_true rfl) rfl ?_
        rintro _ _ ⟨rfl, rfl⟩
        show WM mX0_lay 0 0 Post 20 125 [(0, .ref 0), (1, .ref 6), (2, vI (e : Int))] [vI (((nn - 1) : Nat) : Int), .ref 4, .ref 0] [ob 0 [vI (ps : Int), .ref 1, .ref 2, .ref 3, .ref 4, .ref 5], cN 65 sv, cN 512 wd, cK 65 sp, cN 401 pl1, cK 256 wa1, ob 1 [.ref 7, .ref 8, .ref 9, .ref 10, .ref 11, .ref 12, .ref 13, .ref 14, .ref 15, .ref 16, .ref 17, .ref 18, .ref 19, vI (nn : Int), vI (ne : Int), vI (nm : Int)], cN 512 fr, cN 512 to, cI 512 wo, cN 512 te, cZ 512 hv, cI 401 fo, cI 512 no, cN 16 mb, cN 16 mw, cI 16 ml, cN 16 ma, cI 16 sk, cN 17 bo] 0 0
        refine sq_ok rfl [(.iaload, 0, 0, 0), (.putfield 64, 0, 0, 0), (.aload_n 0, 0, 0, 0)] 125 _ _ _ _ _ (by decide +kernel) ?_
        show ∃ j125 : Nat, mj 401 (kI (((nn - 1) : Nat) : Int)) j125 ∧ WM mX0_lay 0 0 Post 20 130 [(0, .ref 0), (1, .ref 6), (2, vI (e : Int))] [.ref 0] [ob 0 [vI ((pl1 j125 : Nat) : Int), .ref 1, .ref 2, .ref 3, .ref 4, .ref 5], cN 65 sv, cN 512 wd, cK 65 sp, cN 401 pl1, cK 256 wa1, ob 1 [.ref 7, .ref 8, .ref 9, .ref 10, .ref 11, .ref 12, .ref 13, .ref 14, .ref 15, .ref 16, .ref 17, .ref 18, .ref 19, vI (nn : Int), vI (ne : Int), vI (nm : Int)], cN 512 fr, cN 512 to, cI 512 wo, cN 512 te, cZ 512 hv, cI 401 fo, cI 512 no, cN 16 mb, cN 16 mw, cI 16 ml, cN 16 ma, cI 16 sk, cN 17 bo] 0 0
        refine ⟨(nn - 1), ⟨by omega, by omega, rfl⟩, ?_⟩
        refine wm_callV (y := mX0_lay) mX0_listWords [0, 1, 2, 3, 4, 5] (pc := 130) (rest := []) (mc' := 0) (ms' := 0) (by decide +kernel) kX0_67 (c_X0_listWords (pl1 (nn - 1)) sv wd sp pl1 wa1 (by omega) hw1 (by rw [wLs_ext hwp]; exact Nat.le_trans (wLs_most fr to wo ne _) hne)) rfl rfl ⟨_, rfl, rfl⟩ ⟨Nat.le_of_ble_eq_true rfl, Nat.le_of_ble_eq_true rfl⟩ ⟨Nat.le_of_ble_eq_true rfl, Nat.le_of_ble_eq_true rfl⟩ (Nat.le_of_ble_eq_true rfl) rfl rfl (Nat.le_of_ble_eq_true rfl) rfl ?_
        rintro _ _ ⟨sv3, wd3, rfl, rfl, hsv, hwd⟩
        show WM mX0_lay 0 0 Post 20 133 [(0, .ref 0), (1, .ref 6), (2, vI (e : Int))] [] [ob 0 [vI (((pl1 (nn - 1)) : Nat) : Int), .ref 1, .ref 2, .ref 3, .ref 4, .ref 5], cN 65 sv3, cN 512 wd3, cK 65 sp, cN 401 pl1, cK 256 wa1, ob 1 [.ref 7, .ref 8, .ref 9, .ref 10, .ref 11, .ref 12, .ref 13, .ref 14, .ref 15, .ref 16, .ref 17, .ref 18, .ref 19, vI (nn : Int), vI (ne : Int), vI (nm : Int)], cN 512 fr, cN 512 to, cI 512 wo, cN 512 te, cZ 512 hv, cI 401 fo, cI 512 no, cN 16 mb, cN 16 mw, cI 16 ml, cN 16 ma, cI 16 sk, cN 17 bo] 0 0
        refine sq_ok rfl [(.aload_n 0, 0, 0, 0)] 133 _ _ _ _ _ (by decide +kernel) ?_
        show WM mX0_lay 0 0 Post 20 134 [(0, .ref 0), (1, .ref 6), (2, vI (e : Int))] [.ref 0] [ob 0 [vI (((pl1 (nn - 1)) : Nat) : Int), .ref 1, .ref 2, .ref 3, .ref 4, .ref 5], cN 65 sv3, cN 512 wd3, cK 65 sp, cN 401 pl1, cK 256 wa1, ob 1 [.ref 7, .ref 8, .ref 9, .ref 10, .ref 11, .ref 12, .ref 13, .ref 14, .ref 15, .ref 16, .ref 17, .ref 18, .ref 19, vI (nn : Int), vI (ne : Int), vI (nm : Int)], cN 512 fr, cN 512 to, cI 512 wo, cN 512 te, cZ 512 hv, cI 401 fo, cI 512 no, cN 16 mb, cN 16 mw, cI 16 ml, cN 16 ma, cI 16 sk, cN 17 bo] 0 0
        refine wm_callV (y := mX0_lay) mX0_countSpelled [0, 1, 2, 3, 4, 5] (pc := 134) (rest := []) (mc' := 0) (ms' := 0) (by decide +kernel) kX0_70 (c_X0_countSpelled (pl1 (nn - 1)) sv3 wd3 sp pl1 wa1 (by omega) (fun p hp => by rw [hsv p (by omega), hsv (p + 1) (by omega)]; exact wLs_mono _ (by omega)) (fun p hp => by rw [hsv p hp, wLs_ext (fun q hq => hwp q (by omega))]; exact Nat.le_trans (wLs_most fr to wo ne _) hne)) rfl rfl ⟨_, rfl, rfl⟩ ⟨Nat.le_of_ble_eq_true rfl, Nat.le_of_ble_eq_true rfl⟩ ⟨Nat.le_of_ble_eq_true rfl, Nat.le_of_ble_eq_true rfl⟩ (Nat.le_of_ble_eq_true rfl) rfl rfl (Nat.le_of_ble_eq_true rfl) rfl ?_
        rintro _ _ ⟨sp3, rfl, rfl, hsp⟩
        show WM mX0_lay 0 0 Post 20 137 [(0, .ref 0), (1, .ref 6), (2, vI (e : Int))] [] [ob 0 [vI (((pl1 (nn - 1)) : Nat) : Int), .ref 1, .ref 2, .ref 3, .ref 4, .ref 5], cN 65 sv3, cN 512 wd3, cK 65 sp3, cN 401 pl1, cK 256 wa1, ob 1 [.ref 7, .ref 8, .ref 9, .ref 10, .ref 11, .ref 12, .ref 13, .ref 14, .ref 15, .ref 16, .ref 17, .ref 18, .ref 19, vI (nn : Int), vI (ne : Int), vI (nm : Int)], cN 512 fr, cN 512 to, cI 512 wo, cN 512 te, cZ 512 hv, cI 401 fo, cI 512 no, cN 16 mb, cN 16 mw, cI 16 ml, cN 16 ma, cI 16 sk, cN 17 bo] 0 0
        refine sq_ok rfl [(.return_, 0, 0, 0)] 137 _ _ _ _ _ (by decide +kernel) ?_
        show ((0 ≤ 0 ∧ 0 ≤ 0) ∧ Post none [ob 0 [vI (((pl1 (nn - 1)) : Nat) : Int), .ref 1, .ref 2, .ref 3, .ref 4, .ref 5], cN 65 sv3, cN 512 wd3, cK 65 sp3, cN 401 pl1, cK 256 wa1, ob 1 [.ref 7, .ref 8, .ref 9, .ref 10, .ref 11, .ref 12, .ref 13, .ref 14, .ref 15, .ref 16, .ref 17, .ref 18, .ref 19, vI (nn : Int), vI (ne : Int), vI (nm : Int)], cN 512 fr, cN 512 to, cI 512 wo, cN 512 te, cZ 512 hv, cI 401 fo, cI 512 no, cN 16 mb, cN 16 mw, cI 16 ml, cN 16 ma, cI 16 sk, cN 17 bo])
        refine ⟨⟨Nat.le_refl _, Nat.le_refl _⟩, hPo _ _ ?_⟩
        refine ⟨_, sv3, wd3, sp3, pl1, wa1, rfl, rfl, hpn, fun p hp => ?_, ?_, fun p hp => ?_⟩
        · rw [hsv p hp, wLs_ext (fun q hq => hwp q (by omega))]
        · rw [← wLs_ext hwp]; exact hwd
        · rw [hsp p hp]; refine spG_ext (fun q h1 h2 => ?_)
          rw [hsv q (by omega), hsv (q + 1) (by omega), wLs_succ, List.length_append, hwp q (by omega)]; omega
      · 
        rw [kI_le (by omega)] at c23
        have hfe := hG.2.2 e (by omega)
        have hte := hto e (by omega)
        have hwe := hwo e (by omega)
        have hpe := hpl e (by omega)
        have hpf := hp1 _ hfe
        have hpt := hp1 _ hte
        have hptl : pl1 (to e) < 2147483648 := by rw [hpt]; exact Nat.lt_of_le_of_lt (plF_le (fun j hj => hpl j (by omega)) (to e)) (by omega)
        refine sq_ok rfl [(.aload_n 0, 0, 0, 0), (.getfield 22, 0, 4, 0), (.aload_n 1, 0, 0, 0), (.getfield 45, 1, 0, 0), (.iload_n 2, 0, 0, 0), (.iaload, 0, 0, 0), (.iaload, 0, 0, 0), (.istore_n 3, 0, 0, 0), (.aload_n 1, 0, 0, 0), (.getfield 48, 1, 2, 0), (.iload_n 2, 0, 0, 0), (.iaload, 0, 0, 0), (.istore 4, 0, 0, 0), (.iload 4, 0, 0, 0), (.ifCond .lt 36, 0, 0, 0)] 26 _ _ _ _ _ (by decide +kernel) ?_
        show ∃ j35 : Nat, mj 512 (kI (e : Int)) j35 ∧ ∃ j36 : Nat, mj 401 (kI ((fr j35 : Nat) : Int)) j36 ∧ ∃ j43 : Nat, mj 512 (kI (e : Int)) j43 ∧ (kI (wo j43) < kI 0 → WM mX0_lay 0 0 Post 20 84 [(0, .ref 0), (1, .ref 6), (2, vI (e : Int)), (3, vI ((pl1 j36 : Nat) : Int)), (4, vI (wo j43))] [] [ob 0 [vI (ps : Int), .ref 1, .ref 2, .ref 3, .ref 4, .ref 5], cN 65 sv, cN 512 wd, cK 65 sp, cN 401 pl1, cK 256 wa1, ob 1 [.ref 7, .ref 8, .ref 9, .ref 10, .ref 11, .ref 12, .ref 13, .ref 14, .ref 15, .ref 16, .ref 17, .ref 18, .ref 19, vI (nn : Int), vI (ne : Int), vI (nm : Int)], cN 512 fr, cN 512 to, cI 512 wo, cN 512 te, cZ 512 hv, cI 401 fo, cI 512 no, cN 16 mb, cN 16 mw, cI 16 ml, cN 16 ma, cI 16 sk, cN 17 bo] 0 0) ∧ (¬ kI (wo j43) < kI 0 → WM mX0_lay 0 0 Post 20 51 [(0, .ref 0), (1, .ref 6), (2, vI (e : Int)), (3, vI ((pl1 j36 : Nat) : Int)), (4, vI (wo j43))] [] [ob 0 [vI (ps : Int), .ref 1, .ref 2, .ref 3, .ref 4, .ref 5], cN 65 sv, cN 512 wd, cK 65 sp, cN 401 pl1, cK 256 wa1, ob 1 [.ref 7, .ref 8, .ref 9, .ref 10, .ref 11, .ref 12, .ref 13, .ref 14, .ref 15, .ref 16, .ref 17, .ref 18, .ref 19, vI (nn : Int), vI (ne : Int), vI (nm : Int)], cN 512 fr, cN 512 to, cI 512 wo, cN 512 te, cZ 512 hv, cI 401 fo, cI 512 no, cN 16 mb, cN 16 mw, cI 16 ml, cN 16 ma, cI 16 sk, cN 17 bo] 0 0)
        refine ⟨e, ⟨by omega, by omega, rfl⟩, ?_⟩
        refine ⟨(fr e), ⟨by omega, by omega, rfl⟩, ?_⟩
        refine ⟨e, ⟨by omega, by omega, rfl⟩, ?_⟩
        refine ⟨fun c48 => ?_, fun c48 => ?_⟩
        · 
          rw [kI_lt (by omega)] at c48
          obtain ⟨pz, hpz⟩ : ∃ pz : Nat, pz = plF fr to wo e (fr e) + (if 0 ≤ wo e then 1 else 0) := ⟨_, rfl⟩
          first | rw [show (((pl1 (fr e)) + 1 : Nat) : Int) = (pz : Int) from congrArg _ (by rw [hpz, if_pos hw0, hpf])] | rw [show ((pl1 (fr e) : Nat) : Int) = (pz : Int) from congrArg _ (by rw [hpz, if_neg (by omega), hpf]; rfl)]
          have hpm : pz ≤ 64 := by rw [hpz]; exact hpl e (by omega)
          have hlt4 : pl1 (to e) < 2147483648 := hptl
          refine sq_ok rfl [(.aload_n 0, 0, 0, 0), (.getfield 22, 0, 4, 0), (.aload_n 1, 0, 0, 0), (.getfield 51, 1, 1, 0), (.iload_n 2, 0, 0, 0), (.iaload, 0, 0, 0), (.aload_n 0, 0, 0, 0), (.getfield 22, 0, 4, 0), (.aload_n 1, 0, 0, 0), (.getfield 51, 1, 1, 0), (.iload_n 2, 0, 0, 0), (.iaload, 0, 0, 0), (.iaload, 0, 0, 0), (.iload_n 3, 0, 0, 0)] 84 _ _ _ _ _ (by decide +kernel) ?_
          show ∃ j93 : Nat, mj 512 (kI (e : Int)) j93 ∧ ∃ j103 : Nat, mj 512 (kI (e : Int)) j103 ∧ ∃ j104 : Nat, mj 401 (kI ((to j103 : Nat) : Int)) j104 ∧ WM mX0_lay 0 0 Post 20 106 [(0, .ref 0), (1, .ref 6), (2, vI (e : Int)), (3, vI (pz : Int)), (4, vI (wo e))] [vI (pz : Int), vI ((pl1 j104 : Nat) : Int), vI ((to j93 : Nat) : Int), .ref 4] [ob 0 [vI (ps : Int), .ref 1, .ref 2, .ref 3, .ref 4, .ref 5], cN 65 sv, cN 512 wd, cK 65 sp, cN 401 pl1, cK 256 wa1, ob 1 [.ref 7, .ref 8, .ref 9, .ref 10, .ref 11, .ref 12, .ref 13, .ref 14, .ref 15, .ref 16, .ref 17, .ref 18, .ref 19, vI (nn : Int), vI (ne : Int), vI (nm : Int)], cN 512 fr, cN 512 to, cI 512 wo, cN 512 te, cZ 512 hv, cI 401 fo, cI 512 no, cN 16 mb, cN 16 mw, cI 16 ml, cN 16 ma, cI 16 sk, cN 17 bo] 0 0
          refine ⟨e, ⟨by omega, by omega, rfl⟩, ?_⟩
          refine ⟨e, ⟨by omega, by omega, rfl⟩, ?_⟩
          refine ⟨(to e), ⟨by omega, by omega, rfl⟩, ?_⟩
          refine wm_max (by unfold iR; omega) (by unfold iR; omega) (by decide +kernel) kX0_54 ⟨Nat.le_of_ble_eq_true rfl, Nat.le_of_ble_eq_true rfl⟩ ⟨Nat.le_of_ble_eq_true rfl, Nat.le_of_ble_eq_true rfl⟩ ?_
          rw [show (max ((pl1 (to e) : Nat) : Int) (pz : Int)) = (((max (pl1 (to e)) pz) : Nat) : Int) from by omega]
          show WM mX0_lay 0 0 Post 20 109 [(0, .ref 0), (1, .ref 6), (2, vI (e : Int)), (3, vI (pz : Int)), (4, vI (wo e))] [vI (((max (pl1 (to e)) pz) : Nat) : Int), vI ((to e : Nat) : Int), .ref 4] [ob 0 [vI (ps : Int), .ref 1, .ref 2, .ref 3, .ref 4, .ref 5], cN 65 sv, cN 512 wd, cK 65 sp, cN 401 pl1, cK 256 wa1, ob 1 [.ref 7, .ref 8, .ref 9, .ref 10, .ref 11, .ref 12, .ref 13, .ref 14, .ref 15, .ref 16, .ref 17, .ref 18, .ref 19, vI (nn : Int), vI (ne : Int), vI (nm : Int)], cN 512 fr, cN 512 to, cI 512 wo, cN 512 te, cZ 512 hv, cI 401 fo, cI 512 no, cN 16 mb, cN 16 mw, cI 16 ml, cN 16 ma, cI 16 sk, cN 17 bo] 0 0
          refine sq_ok rfl [(.iastore, 0, 0, 0)] 109 _ _ _ _ _ (by decide +kernel) ?_
          show ∃ (j109 : Nat) (g109 : Nat → Int32), (mj 401 (kI ((to e : Nat) : Int)) j109 ∧ g109 = upd (fun q => kI ((pl1 q : Nat) : Int)) j109 (kI (((max (pl1 (to e)) pz) : Nat) : Int))) ∧ WM mX0_lay 0 0 Post 20 110 [(0, .ref 0), (1, .ref 6), (2, vI (e : Int)), (3, vI (pz : Int)), (4, vI (wo e))] [] [ob 0 [vI (ps : Int), .ref 1, .ref 2, .ref 3, .ref 4, .ref 5], cN 65 sv, cN 512 wd, cK 65 sp, .inl (0, 401, .inl g109), cK 256 wa1, ob 1 [.ref 7, .ref 8, .ref 9, .ref 10, .ref 11, .ref 12, .ref 13, .ref 14, .ref 15, .ref 16, .ref 17, .ref 18, .ref 19, vI (nn : Int), vI (ne : Int), vI (nm : Int)], cN 512 fr, cN 512 to, cI 512 wo, cN 512 te, cZ 512 hv, cI 401 fo, cI 512 no, cN 16 mb, cN 16 mw, cI 16 ml, cN 16 ma, cI 16 sk, cN 17 bo] 0 0
          refine ⟨(to e), fun q => kI (((va_up pl1 (to e) (max (pl1 (to e)) pz)) q : Nat) : Int), ⟨⟨by omega, by omega, rfl⟩, st_N (rfl)⟩, ?_⟩
          refine sq_ok rfl [(.iinc 2 1, 0, 0, 0), (.goto (-95), 0, 0, 0)] 110 _ _ _ _ _ (by decide +kernel) ?_
          show WM mX0_lay 0 0 Post 20 18 [(0, .ref 0), (1, .ref 6), (2, .int ((kI (e : Int)) + (kI 1))), (3, vI (pz : Int)), (4, vI (wo e))] [] [ob 0 [vI (ps : Int), .ref 1, .ref 2, .ref 3, .ref 4, .ref 5], cN 65 sv, cN 512 wd, cK 65 sp, cN 401 (va_up pl1 (to e) (max (pl1 (to e)) pz)), cK 256 wa1, ob 1 [.ref 7, .ref 8, .ref 9, .ref 10, .ref 11, .ref 12, .ref 13, .ref 14, .ref 15, .ref 16, .ref 17, .ref 18, .ref 19, vI (nn : Int), vI (ne : Int), vI (nm : Int)], cN 512 fr, cN 512 to, cI 512 wo, cN 512 te, cZ 512 hv, cI 401 fo, cI 512 no, cN 16 mb, cN 16 mw, cI 16 ml, cN 16 ma, cI 16 sk, cN 17 bo] 0 0
          have e3 : ((kI (e : Int)) + (kI 1)) = kI (((e + 1) : Nat) : Int) := by first | (simp only [kI_add, kI_sub, kI_mul]; done) | (simp only [kI_add, kI_sub, kI_mul]; rfl)
          rw [e3]
          exact WM.pick [0, 1, 2] rfl (ih18 (e + 1) (va_up pl1 (to e) (max (pl1 (to e)) pz)) wa1 (by omega) (fun v hv => by by_cases h5 : v = to e; (subst h5; rw [up_eq]; unfold plF; rw [if_pos rfl, ← hpz, hpt]); (rw [up_ne _ _ h5, hp1 v hv]; conv => rhs; unfold plF; rw [if_neg h5])) (by first | exact hw1 | exact fun j hj => by by_cases h5 : j = 4 * pl1 (fr e) + x / 64; (rw [h5, up_eq]; exact Nat.or_lt_two_pow (n := 64) hm0 hp0); (rw [up_ne _ _ h5]; exact hw1 j hj)) (fun p w hp hw => by
              first
              | exact (wa_up (by omega) hw).trans ⟨fun h => h.elim (fun h => by obtain ⟨j, g1, g2, g3⟩ := (hb1 p w hp hw).mp h; exact ⟨j, by omega, g2, g3⟩) (fun h => ⟨e, by omega, by rw [h.2]; exact hx, by rw [h.1, hpf]⟩), fun ⟨j, g1, g2, g3⟩ => by
                  by_cases h5 : j = e
                  · right; subst h5; exact ⟨by rw [hpf, g3], by rw [hx] at g2; exact (Int.ofNat.inj g2).symm⟩
                  · left; exact (hb1 p w hp hw).mpr ⟨j, by omega, g2, g3⟩⟩
              | exact (hb1 p w hp hw).trans ⟨fun ⟨j, g1, g2, g3⟩ => ⟨j, by omega, g2, g3⟩, fun ⟨j, g1, g2, g3⟩ => ⟨j, by
                  by_cases h5 : j = e
                  · subst h5; omega
                  · omega, g2, g3⟩⟩) (by omega))
        · 
          rw [kI_lt (by omega)] at c48
          have hw0 : 0 ≤ wo e := by omega
          obtain ⟨x, hx⟩ := Int.eq_ofNat_of_zero_le hw0
          rw [if_pos hw0] at hpe
          rw [hx] at hwe
          rw [hx]
          refine sq_ok rfl [(.iload_n 3, 0, 0, 0), (.bipush 64, 0, 0, 0), (.if_icmp .ge 30, 0, 0, 0)] 51 _ _ _ _ _ (by decide +kernel) ?_
          show (kI 64 ≤ kI ((pl1 (fr e) : Nat) : Int) → WM mX0_lay 0 0 Post 20 84 [(0, .ref 0), (1, .ref 6), (2, vI (e : Int)), (3, vI ((pl1 (fr e) : Nat) : Int)), (4, vI (x : Int))] [] [ob 0 [vI (ps : Int), .ref 1, .ref 2, .ref 3, .ref 4, .ref 5], cN 65 sv, cN 512 wd, cK 65 sp, cN 401 pl1, cK 256 wa1, ob 1 [.ref 7, .ref 8, .ref 9, .ref 10, .ref 11, .ref 12, .ref 13, .ref 14, .ref 15, .ref 16, .ref 17, .ref 18, .ref 19, vI (nn : Int), vI (ne : Int), vI (nm : Int)], cN 512 fr, cN 512 to, cI 512 wo, cN 512 te, cZ 512 hv, cI 401 fo, cI 512 no, cN 16 mb, cN 16 mw, cI 16 ml, cN 16 ma, cI 16 sk, cN 17 bo] 0 0) ∧ (¬ kI 64 ≤ kI ((pl1 (fr e) : Nat) : Int) → WM mX0_lay 0 0 Post 20 57 [(0, .ref 0), (1, .ref 6), (2, vI (e : Int)), (3, vI ((pl1 (fr e) : Nat) : Int)), (4, vI (x : Int))] [] [ob 0 [vI (ps : Int), .ref 1, .ref 2, .ref 3, .ref 4, .ref 5], cN 65 sv, cN 512 wd, cK 65 sp, cN 401 pl1, cK 256 wa1, ob 1 [.ref 7, .ref 8, .ref 9, .ref 10, .ref 11, .ref 12, .ref 13, .ref 14, .ref 15, .ref 16, .ref 17, .ref 18, .ref 19, vI (nn : Int), vI (ne : Int), vI (nm : Int)], cN 512 fr, cN 512 to, cI 512 wo, cN 512 te, cZ 512 hv, cI 401 fo, cI 512 no, cN 16 mb, cN 16 mw, cI 16 ml, cN 16 ma, cI 16 sk, cN 17 bo] 0 0)
          refine ⟨fun c54 => ?_, fun c54 => ?_⟩
          · 
            rw [kI_le (by omega)] at c54; omega
          · 
            rw [kI_le (by omega)] at c54
            have hm0 := hw1 (4 * pl1 (fr e) + x / 64) (by omega)
            have hp0 : 2 ^ (x % 64) < 18446744073709551616 := Nat.lt_of_lt_of_le (Nat.pow_lt_pow_right (by omega) (show x % 64 < 64 by omega)) (by decide)
            refine sq_ok rfl [(.aload_n 0, 0, 0, 0), (.getfield 27, 0, 5, 0), (.iload_n 3, 0, 0, 0), (.iconst 4, 0, 0, 0), (.imul, 0, 0, 0), (.iload 4, 0, 0, 0), (.bipush 6, 0, 0, 0), (.iushr, 0, 0, 0)] 57 _ _ _ _ _ (by decide +kernel) ?_
            show WM mX0_lay 0 0 Post 20 69 [(0, .ref 0), (1, .ref 6), (2, vI (e : Int)), (3, vI ((pl1 (fr e) : Nat) : Int)), (4, vI (x : Int))] [.int (((kI (x : Int)).toUInt32 >>> ((kI 6).toUInt32 &&& Int32.toUInt32 31)).toInt32), .int ((kI ((pl1 (fr e) : Nat) : Int)) * (kI 4)), .ref 5] [ob 0 [vI (ps : Int), .ref 1, .ref 2, .ref 3, .ref 4, .ref 5], cN 65 sv, cN 512 wd, cK 65 sp, cN 401 pl1, cK 256 wa1, ob 1 [.ref 7, .ref 8, .ref 9, .ref 10, .ref 11, .ref 12, .ref 13, .ref 14, .ref 15, .ref 16, .ref 17, .ref 18, .ref 19, vI (nn : Int), vI (ne : Int), vI (nm : Int)], cN 512 fr, cN 512 to, cI 512 wo, cN 512 te, cZ 512 hv, cI 401 fo, cI 512 no, cN 16 mb, cN 16 mw, cI 16 ml, cN 16 ma, cI 16 sk, cN 17 bo] 0 0
            have e5 : ((kI (x : Int)).toUInt32 >>> ((kI 6).toUInt32 &&& Int32.toUInt32 31)).toInt32 = kI (((x / 64) : Nat) : Int) := by exact kI_ush6 (by omega)
            rw [e5]
            have e6 : ((kI ((pl1 (fr e) : Nat) : Int)) * (kI 4)) = kI ((((pl1 (fr e)) * 4) : Nat) : Int) := by first | (simp only [kI_add, kI_sub, kI_mul]; done) | (simp only [kI_add, kI_sub, kI_mul]; rfl)
            rw [e6]
            refine sq_ok rfl [(.iadd, 0, 0, 0)] 69 _ _ _ _ _ (by decide +kernel) ?_
            show WM mX0_lay 0 0 Post 20 70 [(0, .ref 0), (1, .ref 6), (2, vI (e : Int)), (3, vI ((pl1 (fr e) : Nat) : Int)), (4, vI (x : Int))] [.int ((kI ((((pl1 (fr e)) * 4) : Nat) : Int)) + (kI (((x / 64) : Nat) : Int))), .ref 5] [ob 0 [vI (ps : Int), .ref 1, .ref 2, .ref 3, .ref 4, .ref 5], cN 65 sv, cN 512 wd, cK 65 sp, cN 401 pl1, cK 256 wa1, ob 1 [.ref 7, .ref 8, .ref 9, .ref 10, .ref 11, .ref 12, .ref 13, .ref 14, .ref 15, .ref 16, .ref 17, .ref 18, .ref 19, vI (nn : Int), vI (ne : Int), vI (nm : Int)], cN 512 fr, cN 512 to, cI 512 wo, cN 512 te, cZ 512 hv, cI 401 fo, cI 512 no, cN 16 mb, cN 16 mw, cI 16 ml, cN 16 ma, cI 16 sk, cN 17 bo] 0 0
            have e7 : ((kI ((((pl1 (fr e)) * 4) : Nat) : Int)) + (kI (((x / 64) : Nat) : Int))) = kI (((4 * pl1 (fr e) + x / 64) : Nat) : Int) := by rw [kI_add]; congr 1; omega
            rw [e7]
            refine sq_ok rfl [(.dup2, 0, 0, 0), (.laload, 0, 0, 0), (.lconst 1, 0, 0, 0), (.iload 4, 0, 0, 0), (.bipush 63, 0, 0, 0), (.iand, 0, 0, 0)] 70 _ _ _ _ _ (by decide +kernel) ?_
            show ∃ j71 : Nat, mj 256 (kI (((4 * pl1 (fr e) + x / 64) : Nat) : Int)) j71 ∧ WM mX0_lay 0 0 Post 20 78 [(0, .ref 0), (1, .ref 6), (2, vI (e : Int)), (3, vI ((pl1 (fr e) : Nat) : Int)), (4, vI (x : Int))] [.int ((kI (x : Int)) &&& (kI 63)), vJ 1, vJ ((wa1 j71 : Nat) : Int), vI (((4 * pl1 (fr e) + x / 64) : Nat) : Int), .ref 5] [ob 0 [vI (ps : Int), .ref 1, .ref 2, .ref 3, .ref 4, .ref 5], cN 65 sv, cN 512 wd, cK 65 sp, cN 401 pl1, cK 256 wa1, ob 1 [.ref 7, .ref 8, .ref 9, .ref 10, .ref 11, .ref 12, .ref 13, .ref 14, .ref 15, .ref 16, .ref 17, .ref 18, .ref 19, vI (nn : Int), vI (ne : Int), vI (nm : Int)], cN 512 fr, cN 512 to, cI 512 wo, cN 512 te, cZ 512 hv, cI 401 fo, cI 512 no, cN 16 mb, cN 16 mw, cI 16 ml, cN 16 ma, cI 16 sk, cN 17 bo] 0 0
            refine ⟨(4 * pl1 (fr e) + x / 64), ⟨by omega, by omega, rfl⟩, ?_⟩
            have e8 : ((kI (x : Int)) &&& (kI 63)) = kI (((x % 64) : Nat) : Int) := by exact kI_and63 (by omega)
            rw [e8]
            refine sq_ok rfl [(.lshl, 0, 0, 0)] 78 _ _ _ _ _ (by decide +kernel) ?_
            show WM mX0_lay 0 0 Post 20 79 [(0, .ref 0), (1, .ref 6), (2, vI (e : Int)), (3, vI ((pl1 (fr e) : Nat) : Int)), (4, vI (x : Int))] [.long ((kL 1) <<< ((kI (((x % 64) : Nat) : Int)).toInt64 &&& 63)), vJ ((wa1 (4 * pl1 (fr e) + x / 64) : Nat) : Int), vI (((4 * pl1 (fr e) + x / 64) : Nat) : Int), .ref 5] [ob 0 [vI (ps : Int), .ref 1, .ref 2, .ref 3, .ref 4, .ref 5], cN 65 sv, cN 512 wd, cK 65 sp, cN 401 pl1, cK 256 wa1, ob 1 [.ref 7, .ref 8, .ref 9, .ref 10, .ref 11, .ref 12, .ref 13, .ref 14, .ref 15, .ref 16, .ref 17, .ref 18, .ref 19, vI (nn : Int), vI (ne : Int), vI (nm : Int)], cN 512 fr, cN 512 to, cI 512 wo, cN 512 te, cZ 512 hv, cI 401 fo, cI 512 no, cN 16 mb, cN 16 mw, cI 16 ml, cN 16 ma, cI 16 sk, cN 17 bo] 0 0
            have e9 : ((kL 1) <<< ((kI (((x % 64) : Nat) : Int)).toInt64 &&& 63)) = kL (((2 ^ (x % 64)) : Nat) : Int) := by exact kL_shl1 (by omega)
            rw [e9]
            refine sq_ok rfl [(.lor, 0, 0, 0)] 79 _ _ _ _ _ (by decide +kernel) ?_
            show WM mX0_lay 0 0 Post 20 80 [(0, .ref 0), (1, .ref 6), (2, vI (e : Int)), (3, vI ((pl1 (fr e) : Nat) : Int)), (4, vI (x : Int))] [.long ((kL ((wa1 (4 * pl1 (fr e) + x / 64) : Nat) : Int)) ||| (kL (((2 ^ (x % 64)) : Nat) : Int))), vI (((4 * pl1 (fr e) + x / 64) : Nat) : Int), .ref 5] [ob 0 [vI (ps : Int), .ref 1, .ref 2, .ref 3, .ref 4, .ref 5], cN 65 sv, cN 512 wd, cK 65 sp, cN 401 pl1, cK 256 wa1, ob 1 [.ref 7, .ref 8, .ref 9, .ref 10, .ref 11, .ref 12, .ref 13, .ref 14, .ref 15, .ref 16, .ref 17, .ref 18, .ref 19, vI (nn : Int), vI (ne : Int), vI (nm : Int)], cN 512 fr, cN 512 to, cI 512 wo, cN 512 te, cZ 512 hv, cI 401 fo, cI 512 no, cN 16 mb, cN 16 mw, cI 16 ml, cN 16 ma, cI 16 sk, cN 17 bo] 0 0
            have e10 : ((kL ((wa1 (4 * pl1 (fr e) + x / 64) : Nat) : Int)) ||| (kL (((2 ^ (x % 64)) : Nat) : Int))) = kL (((wa1 (4 * pl1 (fr e) + x / 64) ||| 2 ^ (x % 64)) : Nat) : Int) := by exact kL_or hm0 hp0
            rw [e10]
            refine sq_ok rfl [(.lastore, 0, 0, 0)] 80 _ _ _ _ _ (by decide +kernel) ?_
            show ∃ (j80 : Nat) (g80 : Nat → Int64), (mj 256 (kI (((4 * pl1 (fr e) + x / 64) : Nat) : Int)) j80 ∧ g80 = vp_updL (fun q => kL ((wa1 q : Nat) : Int)) j80 (kL (((wa1 (4 * pl1 (fr e) + x / 64) ||| 2 ^ (x % 64)) : Nat) : Int))) ∧ WM mX0_lay 0 0 Post 20 81 [(0, .ref 0), (1, .ref 6), (2, vI (e : Int)), (3, vI ((pl1 (fr e) : Nat) : Int)), (4, vI (x : Int))] [] [ob 0 [vI (ps : Int), .ref 1, .ref 2, .ref 3, .ref 4, .ref 5], cN 65 sv, cN 512 wd, cK 65 sp, cN 401 pl1, .inl (1, 256, .inr (.inl g80)), ob 1 [.ref 7, .ref 8, .ref 9, .ref 10, .ref 11, .ref 12, .ref 13, .ref 14, .ref 15, .ref 16, .ref 17, .ref 18, .ref 19, vI (nn : Int), vI (ne : Int), vI (nm : Int)], cN 512 fr, cN 512 to, cI 512 wo, cN 512 te, cZ 512 hv, cI 401 fo, cI 512 no, cN 16 mb, cN 16 mw, cI 16 ml, cN 16 ma, cI 16 sk, cN 17 bo] 0 0
            refine ⟨(4 * pl1 (fr e) + x / 64), fun q => kL (((va_up wa1 (4 * pl1 (fr e) + x / 64) (wa1 (4 * pl1 (fr e) + x / 64) ||| 2 ^ (x % 64))) q : Nat) : Int), ⟨⟨by omega, by omega, rfl⟩, st_K (rfl)⟩, ?_⟩
            refine sq_ok rfl [(.iinc 3 1, 0, 0, 0)] 81 _ _ _ _ _ (by decide +kernel) ?_
            show WM mX0_lay 0 0 Post 20 84 [(0, .ref 0), (1, .ref 6), (2, vI (e : Int)), (3, .int ((kI ((pl1 (fr e) : Nat) : Int)) + (kI 1))), (4, vI (x : Int))] [] [ob 0 [vI (ps : Int), .ref 1, .ref 2, .ref 3, .ref 4, .ref 5], cN 65 sv, cN 512 wd, cK 65 sp, cN 401 pl1, cK 256 (va_up wa1 (4 * pl1 (fr e) + x / 64) (wa1 (4 * pl1 (fr e) + x / 64) ||| 2 ^ (x % 64))), ob 1 [.ref 7, .ref 8, .ref 9, .ref 10, .ref 11, .ref 12, .ref 13, .ref 14, .ref 15, .ref 16, .ref 17, .ref 18, .ref 19, vI (nn : Int), vI (ne : Int), vI (nm : Int)], cN 512 fr, cN 512 to, cI 512 wo, cN 512 te, cZ 512 hv, cI 401 fo, cI 512 no, cN 16 mb, cN 16 mw, cI 16 ml, cN 16 ma, cI 16 sk, cN 17 bo] 0 0
            have e11 : ((kI ((pl1 (fr e) : Nat) : Int)) + (kI 1)) = kI ((((pl1 (fr e)) + 1) : Nat) : Int) := by first | (simp only [kI_add, kI_sub, kI_mul]; done) | (simp only [kI_add, kI_sub, kI_mul]; rfl)
            rw [e11]
            obtain ⟨pz, hpz⟩ : ∃ pz : Nat, pz = plF fr to wo e (fr e) + (if 0 ≤ wo e then 1 else 0) := ⟨_, rfl⟩
            first | rw [show (((pl1 (fr e)) + 1 : Nat) : Int) = (pz : Int) from congrArg _ (by rw [hpz, if_pos hw0, hpf])] | rw [show ((pl1 (fr e) : Nat) : Int) = (pz : Int) from congrArg _ (by rw [hpz, if_neg (by omega), hpf]; rfl)]
            have hpm : pz ≤ 64 := by rw [hpz]; exact hpl e (by omega)
            have hlt4 : pl1 (to e) < 2147483648 := hptl
            refine sq_ok rfl [(.aload_n 0, 0, 0, 0), (.getfield 22, 0, 4, 0), (.aload_n 1, 0, 0, 0), (.getfield 51, 1, 1, 0), (.iload_n 2, 0, 0, 0), (.iaload, 0, 0, 0), (.aload_n 0, 0, 0, 0), (.getfield 22, 0, 4, 0), (.aload_n 1, 0, 0, 0), (.getfield 51, 1, 1, 0), (.iload_n 2, 0, 0, 0), (.iaload, 0, 0, 0), (.iaload, 0, 0, 0), (.iload_n 3, 0, 0, 0)] 84 _ _ _ _ _ (by decide +kernel) ?_
            show ∃ j93 : Nat, mj 512 (kI (e : Int)) j93 ∧ ∃ j103 : Nat, mj 512 (kI (e : Int)) j103 ∧ ∃ j104 : Nat, mj 401 (kI ((to j103 : Nat) : Int)) j104 ∧ WM mX0_lay 0 0 Post 20 106 [(0, .ref 0), (1, .ref 6), (2, vI (e : Int)), (3, vI (pz : Int)), (4, vI (x : Int))] [vI (pz : Int), vI ((pl1 j104 : Nat) : Int), vI ((to j93 : Nat) : Int), .ref 4] [ob 0 [vI (ps : Int), .ref 1, .ref 2, .ref 3, .ref 4, .ref 5], cN 65 sv, cN 512 wd, cK 65 sp, cN 401 pl1, cK 256 (va_up wa1 (4 * pl1 (fr e) + x / 64) (wa1 (4 * pl1 (fr e) + x / 64) ||| 2 ^ (x % 64))), ob 1 [.ref 7, .ref 8, .ref 9, .ref 10, .ref 11, .ref 12, .ref 13, .ref 14, .ref 15, .ref 16, .ref 17, .ref 18, .ref 19, vI (nn : Int), vI (ne : Int), vI (nm : Int)], cN 512 fr, cN 512 to, cI 512 wo, cN 512 te, cZ 512 hv, cI 401 fo, cI 512 no, cN 16 mb, cN 16 mw, cI 16 ml, cN 16 ma, cI 16 sk, cN 17 bo] 0 0
            refine ⟨e, ⟨by omega, by omega, rfl⟩, ?_⟩
            refine ⟨e, ⟨by omega, by omega, rfl⟩, ?_⟩
            refine ⟨(to e), ⟨by omega, by omega, rfl⟩, ?_⟩
            refine wm_max (by unfold iR; omega) (by unfold iR; omega) (by decide +kernel) kX0_54 ⟨Nat.le_of_ble_eq_true rfl, Nat.le_of_ble_eq_true rfl⟩ ⟨Nat.le_of_ble_eq_true rfl, Nat.le_of_ble_eq_true rfl⟩ ?_
            rw [show (max ((pl1 (to e) : Nat) : Int) (pz : Int)) = (((max (pl1 (to e)) pz) : Nat) : Int) from by omega]
            show WM mX0_lay 0 0 Post 20 109 [(0, .ref 0), (1, .ref 6), (2, vI (e : Int)), (3, vI (pz : Int)), (4, vI (x : Int))] [vI (((max (pl1 (to e)) pz) : Nat) : Int), vI ((to e : Nat) : Int), .ref 4] [ob 0 [vI (ps : Int), .ref 1, .ref 2, .ref 3, .ref 4, .ref 5], cN 65 sv, cN 512 wd, cK 65 sp, cN 401 pl1, cK 256 (va_up wa1 (4 * pl1 (fr e) + x / 64) (wa1 (4 * pl1 (fr e) + x / 64) ||| 2 ^ (x % 64))), ob 1 [.ref 7, .ref 8, .ref 9, .ref 10, .ref 11, .ref 12, .ref 13, .ref 14, .ref 15, .ref 16, .ref 17, .ref 18, .ref 19, vI (nn : Int), vI (ne : Int), vI (nm : Int)], cN 512 fr, cN 512 to, cI 512 wo, cN 512 te, cZ 512 hv, cI 401 fo, cI 512 no, cN 16 mb, cN 16 mw, cI 16 ml, cN 16 ma, cI 16 sk, cN 17 bo] 0 0
            refine sq_ok rfl [(.iastore, 0, 0, 0)] 109 _ _ _ _ _ (by decide +kernel) ?_
            show ∃ (j109 : Nat) (g109 : Nat → Int32), (mj 401 (kI ((to e : Nat) : Int)) j109 ∧ g109 = upd (fun q => kI ((pl1 q : Nat) : Int)) j109 (kI (((max (pl1 (to e)) pz) : Nat) : Int))) ∧ WM mX0_lay 0 0 Post 20 110 [(0, .ref 0), (1, .ref 6), (2, vI (e : Int)), (3, vI (pz : Int)), (4, vI (x : Int))] [] [ob 0 [vI (ps : Int), .ref 1, .ref 2, .ref 3, .ref 4, .ref 5], cN 65 sv, cN 512 wd, cK 65 sp, .inl (0, 401, .inl g109), cK 256 (va_up wa1 (4 * pl1 (fr e) + x / 64) (wa1 (4 * pl1 (fr e) + x / 64) ||| 2 ^ (x % 64))), ob 1 [.ref 7, .ref 8, .ref 9, .ref 10, .ref 11, .ref 12, .ref 13, .ref 14, .ref 15, .ref 16, .ref 17, .ref 18, .ref 19, vI (nn : Int), vI (ne : Int), vI (nm : Int)], cN 512 fr, cN 512 to, cI 512 wo, cN 512 te, cZ 512 hv, cI 401 fo, cI 512 no, cN 16 mb, cN 16 mw, cI 16 ml, cN 16 ma, cI 16 sk, cN 17 bo] 0 0
            refine ⟨(to e), fun q => kI (((va_up pl1 (to e) (max (pl1 (to e)) pz)) q : Nat) : Int), ⟨⟨by omega, by omega, rfl⟩, st_N (rfl)⟩, ?_⟩
            refine sq_ok rfl [(.iinc 2 1, 0, 0, 0), (.goto (-95), 0, 0, 0)] 110 _ _ _ _ _ (by decide +kernel) ?_
            show WM mX0_lay 0 0 Post 20 18 [(0, .ref 0), (1, .ref 6), (2, .int ((kI (e : Int)) + (kI 1))), (3, vI (pz : Int)), (4, vI (x : Int))] [] [ob 0 [vI (ps : Int), .ref 1, .ref 2, .ref 3, .ref 4, .ref 5], cN 65 sv, cN 512 wd, cK 65 sp, cN 401 (va_up pl1 (to e) (max (pl1 (to e)) pz)), cK 256 (va_up wa1 (4 * pl1 (fr e) + x / 64) (wa1 (4 * pl1 (fr e) + x / 64) ||| 2 ^ (x % 64))), ob 1 [.ref 7, .ref 8, .ref 9, .ref 10, .ref 11, .ref 12, .ref 13, .ref 14, .ref 15, .ref 16, .ref 17, .ref 18, .ref 19, vI (nn : Int), vI (ne : Int), vI (nm : Int)], cN 512 fr, cN 512 to, cI 512 wo, cN 512 te, cZ 512 hv, cI 401 fo, cI 512 no, cN 16 mb, cN 16 mw, cI 16 ml, cN 16 ma, cI 16 sk, cN 17 bo] 0 0
            have e12 : ((kI (e : Int)) + (kI 1)) = kI (((e + 1) : Nat) : Int) := by first | (simp only [kI_add, kI_sub, kI_mul]; done) | (simp only [kI_add, kI_sub, kI_mul]; rfl)
            rw [e12]
            exact WM.pick [0, 1, 2] rfl (ih18 (e + 1) (va_up pl1 (to e) (max (pl1 (to e)) pz)) (va_up wa1 (4 * pl1 (fr e) + x / 64) (wa1 (4 * pl1 (fr e) + x / 64) ||| 2 ^ (x % 64))) (by omega) (fun v hv => by by_cases h5 : v = to e; (subst h5; rw [up_eq]; unfold plF; rw [if_pos rfl, ← hpz, hpt]); (rw [up_ne _ _ h5, hp1 v hv]; conv => rhs; unfold plF; rw [if_neg h5])) (by first | exact hw1 | exact fun j hj => by by_cases h5 : j = 4 * pl1 (fr e) + x / 64; (rw [h5, up_eq]; exact Nat.or_lt_two_pow (n := 64) hm0 hp0); (rw [up_ne _ _ h5]; exact hw1 j hj)) (fun p w hp hw => by
                first
                | exact (wa_up (by omega) hw).trans ⟨fun h => h.elim (fun h => by obtain ⟨j, g1, g2, g3⟩ := (hb1 p w hp hw).mp h; exact ⟨j, by omega, g2, g3⟩) (fun h => ⟨e, by omega, by rw [h.2]; exact hx, by rw [h.1, hpf]⟩), fun ⟨j, g1, g2, g3⟩ => by
                    by_cases h5 : j = e
                    · right; subst h5; exact ⟨by rw [hpf, g3], by rw [hx] at g2; exact (Int.ofNat.inj g2).symm⟩
                    · left; exact (hb1 p w hp hw).mpr ⟨j, by omega, g2, g3⟩⟩
                | exact (hb1 p w hp hw).trans ⟨fun ⟨j, g1, g2, g3⟩ => ⟨j, by omega, g2, g3⟩, fun ⟨j, g1, g2, g3⟩ => ⟨j, by
                    by_cases h5 : j = e
                    · subst h5; omega
                    · omega, g2, g3⟩⟩) (by omega))
  exact WM.pick [0, 1, 2] rfl (lp18 _ 0 pl0 wa0 (by omega) (fun v hv => by rw [hpl0]; exact if_pos (by omega)) (fun j hj => by rw [hwa0]; dsimp only; rw [if_pos hj]; decide) (fun p w hp hw => by rw [hwa0]; dsimp only; rw [if_pos (by omega)]; exact ⟨fun h => by simp at h, fun ⟨j, h, _⟩ => absurd h (Nat.not_lt_zero _)⟩) (Nat.lt_succ_self _))
