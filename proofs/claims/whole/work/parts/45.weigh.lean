/-! Weigher -/
def tnO (w t : Nat) : Nat := if t = 10 then w else w / 10 * t
theorem tnO_le {w t : Nat} (h : t ≤ 10) : tnO w t ≤ w := by
  unfold tnO
  split
  · exact Nat.le_refl _
  · exact Nat.le_trans (Nat.mul_le_mul_left _ h) (Nat.div_mul_le_self _ _)
theorem tnO_0 (t : Nat) : tnO 0 t = 0 := by
  unfold tnO
  split
  · rfl
  · rw [Nat.zero_div, Nat.zero_mul]
def alO (ok : Bool) (t v : Nat) (g : Nat → Nat) : Nat → Nat := if ok = true then va_up g t (max (g t) v) else g
theorem alO_le {ok : Bool} {t v B : Nat} {g : Nat → Nat} {q : Nat} (hv : v ≤ B) (ht : g t ≤ B) (hq : g q ≤ B) : alO ok t v g q ≤ B := by
  unfold alO
  split
  · by_cases h : q = t
    · rw [h, up_eq]; exact Nat.max_le.mpr ⟨ht, hv⟩
    · rw [up_ne _ _ h]; exact hq
  · exact hq
def skF (al : Nat → Bool) (fr to te : Nat → Nat) (sk : Nat → Int) : Nat → (Nat → Nat) → Nat → Nat
  | 0, g => g
  | m + 1, g => if 0 ≤ sk m then alO (al (sk m).toNat) (to (sk m).toNat) (tnO (skF al fr to te sk m g (fr (sk m).toNat)) (te (sk m).toNat)) (skF al fr to te sk m g) else skF al fr to te sk m g
theorem skF_le {al : Nat → Bool} {fr to te : Nat → Nat} {sk : Nat → Int} {g : Nat → Nat} {nn B : Nat} (hg : ∀ v, v < nn → g v ≤ B) : ∀ {m : Nat}, (∀ j, j < m → 0 ≤ sk j → fr (sk j).toNat < nn ∧ to (sk j).toNat < nn ∧ te (sk j).toNat ≤ 10) → ∀ v, v < nn → skF al fr to te sk m g v ≤ B
  | 0, _, v, hv => hg v hv
  | m + 1, h, v, hv => by
    have ih := skF_le (al := al) (sk := sk) hg (m := m) (fun j hj => h j (by omega))
    unfold skF
    split
    · rename_i h0
      obtain ⟨h1, h2, h3⟩ := h m (by omega) h0
      exact alO_le (Nat.le_trans (tnO_le h3) (ih _ h1)) (ih _ h2) (ih v hv)
    · exact ih v hv
theorem skF_ext {al : Nat → Bool} {fr to te : Nat → Nat} {sk : Nat → Int} {f g : Nat → Nat} {nn : Nat} (hg : ∀ v, v < nn → f v = g v) : ∀ {m : Nat}, (∀ j, j < m → 0 ≤ sk j → fr (sk j).toNat < nn ∧ to (sk j).toNat < nn ∧ te (sk j).toNat ≤ 10) → ∀ v, v < nn → skF al fr to te sk m f v = skF al fr to te sk m g v
  | 0, _, v, hv => hg v hv
  | m + 1, h, v, hv => by
    have ih := skF_ext (al := al) (sk := sk) hg (m := m) (fun j hj => h j (by omega))
    unfold skF
    split
    · rename_i h0
      obtain ⟨h1, h2, h3⟩ := h m (by omega) h0
      rw [ih _ h1]
      unfold alO
      split
      · by_cases hq : v = to (sk m).toNat
        · rw [hq, up_eq, up_eq, ih _ h2]
        · rw [up_ne _ _ hq, up_ne _ _ hq, ih v hv]
      · exact ih v hv
    · exact ih v hv
def mxE (ok : Nat → Bool) (val to : Nat → Nat) : Nat → Nat → Nat
  | 0, _ => 0
  | e + 1, v => if ok e = true ∧ to e = v then max (mxE ok val to e v) (val e) else mxE ok val to e v
theorem mxE_ge {ok : Nat → Bool} {val to : Nat → Nat} : ∀ {n e : Nat}, e < n → ok e = true → val e ≤ mxE ok val to n (to e)
  | n + 1, e, h, ho => by
    unfold mxE
    by_cases h1 : e = n
    · subst h1; rw [if_pos ⟨ho, rfl⟩]; exact Nat.le_max_right _ _
    · have := mxE_ge (val := val) (to := to) (show e < n by omega) ho
      split
      · exact Nat.le_trans this (Nat.le_max_left _ _)
      · exact this
theorem mxE_at {ok : Nat → Bool} {val to : Nat → Nat} {v : Nat} : ∀ {n : Nat}, mxE ok val to n v = 0 ∨ ∃ e, e < n ∧ ok e = true ∧ to e = v ∧ mxE ok val to n v = val e
  | 0 => Or.inl rfl
  | n + 1 => by
    unfold mxE
    split
    · rename_i h
      rcases Nat.le_total (mxE ok val to n v) (val n) with h1 | h1
      · right; exact ⟨n, by omega, h.1, h.2, Nat.max_eq_right h1⟩
      · rw [Nat.max_eq_left h1]
        rcases mxE_at (ok := ok) (val := val) (to := to) (v := v) (n := n) with h2 | ⟨e, g1, g2⟩
        · exact Or.inl h2
        · exact Or.inr ⟨e, by omega, g2⟩
    · rcases mxE_at (ok := ok) (val := val) (to := to) (v := v) (n := n) with h2 | ⟨e, g1, g2⟩
      · exact Or.inl h2
      · exact Or.inr ⟨e, by omega, g2⟩
def isMx (nn : Nat) (Q : Nat → Prop) (val to g : Nat → Nat) : Prop := (∀ e, Q e → val e ≤ g (to e)) ∧ ∀ v, v < nn → g v = 0 ∨ ∃ e, Q e ∧ to e = v ∧ g v = val e
theorem isMx.congr {nn : Nat} {Q Q' : Nat → Prop} {val to g : Nat → Nat} (h : isMx nn Q val to g) (hq : ∀ e, Q e ↔ Q' e) : isMx nn Q' val to g :=
  ⟨fun e he => h.1 e ((hq e).mpr he), fun v hv => (h.2 v hv).imp id (fun ⟨e, h1, h2⟩ => ⟨e, (hq e).mp h1, h2⟩)⟩
theorem isMx.add {nn : Nat} {Q : Nat → Prop} {val to g : Nat → Nat} {e : Nat} (h : isMx nn Q val to g) : isMx nn (fun x => Q x ∨ x = e) val to (va_up g (to e) (max (g (to e)) (val e))) := by
  refine ⟨fun x hx => ?_, fun v hv => ?_⟩
  · by_cases h1 : to x = to e
    · rw [h1, up_eq]
      rcases hx with hx | hx
      · have := h.1 x hx; rw [h1] at this; exact Nat.le_trans this (Nat.le_max_left _ _)
      · rw [hx]; exact Nat.le_max_right _ _
    · rw [up_ne _ _ h1]
      rcases hx with hx | hx
      · exact h.1 x hx
      · exact absurd (by rw [hx]) h1
  · by_cases h1 : v = to e
    · rw [h1, up_eq]
      rcases Nat.le_total (g (to e)) (val e) with h2 | h2
      · right; exact ⟨e, Or.inr rfl, rfl, Nat.max_eq_right h2⟩
      · rw [Nat.max_eq_left h2]
        rw [h1] at hv
        exact (h.2 _ hv).imp id (fun ⟨x, g1, g2⟩ => ⟨x, Or.inl g1, g2⟩)
    · rw [up_ne _ _ h1]
      exact (h.2 v hv).imp id (fun ⟨x, g1, g2⟩ => ⟨x, Or.inl g1, g2⟩)
theorem isMx.le {nn B : Nat} {Q : Nat → Prop} {val to g : Nat → Nat} (h : isMx nn Q val to g) (hv : ∀ e, Q e → val e ≤ B) : ∀ v, v < nn → g v ≤ B := fun v hv' => by
  rcases h.2 v hv' with h1 | ⟨e, h1, h2, h3⟩
  · omega
  · rw [h3]; exact hv e h1
theorem isMx.eq {nn ne : Nat} {ok : Nat → Bool} {val to g : Nat → Nat} {Q : Nat → Prop} (h : isMx nn Q val to g) (hq : ∀ e, Q e → e < ne ∧ ok e = true) (hq2 : ∀ e, e < ne → ok e = true → ¬ Q e → val e = 0) (hto : ∀ e, e < ne → to e < nn) : ∀ v, v < nn → g v = mxE ok val to ne v := by
  intro v hv
  apply Nat.le_antisymm
  · rcases h.2 v hv with h1 | ⟨e, h1, h2, h3⟩
    · omega
    · rw [h3, ← h2]; exact mxE_ge (hq e h1).1 (hq e h1).2
  · rcases mxE_at (ok := ok) (val := val) (to := to) (v := v) (n := ne) with h1 | ⟨e, h1, h2, h3, h4⟩
    · omega
    · rw [h4, ← h3]
      by_cases h5 : Q e
      · exact h.1 e h5
      · rw [hq2 e h1 h2 h5]; exact Nat.zero_le _
theorem mxE_le {ok : Nat → Bool} {val to : Nat → Nat} {B n : Nat} (h : ∀ e, e < n → val e ≤ B) (v : Nat) : mxE ok val to n v ≤ B := by
  rcases mxE_at (ok := ok) (val := val) (to := to) (v := v) (n := n) with h1 | ⟨e, h1, h2, h3, h4⟩
  · omega
  · rw [h4]; exact h e h1
/-- what an edge may be used for -/
def alE (ho : Bool) (hv : Nat → Bool) (e : Nat) : Bool := !ho || hv e
def wgG (ho : Bool) (hv : Nat → Bool) (fr to : Nat → Nat) (wo : Nat → Int) (te : Nat → Nat) (sk : Nat → Int) (ne nm : Nat) (x : Int) (ga : Nat → Nat) : Nat → Nat :=
  skF (alE ho hv) fr to te sk nm (mxE (fun e => alE ho hv e && (wo e == x)) (fun e => tnO (ga (fr e)) (te e)) to ne)
def wg0 (ho : Bool) (hv : Nat → Bool) (fr to te : Nat → Nat) (sk : Nat → Int) (nm : Nat) : Nat → Nat := skF (alE ho hv) fr to te sk nm (fun v => if v = 0 then 10000000000000000 else 0)

set_option maxRecDepth 100000 in
set_option maxHeartbeats 500000 in
theorem c_X8_init  : CT mX8_init 2 802 [.ref 0] [ob 8 [.null, .null, vZ false]] (fun r w => r = none ∧ w = [ob 8 [.ref 1, .ref 2, vZ false], cK 401 (fun _ => 0), cK 401 (fun _ => 0)]) := by
  refine CT.intro rfl (Nat.le_of_ble_eq_true rfl) ?_
  generalize hPost : (fun r w => r = none ∧ w = [ob 8 [.ref 1, .ref 2, vZ false], cK 401 (fun _ => 0), cK 401 (fun _ => 0)] : MP) = Post
  have hPo : ∀ rr ww, (fun r w => r = none ∧ w = [ob 8 [.ref 1, .ref 2, vZ false], cK 401 (fun _ => 0), cK 401 (fun _ => 0)] : MP) rr ww → Post rr ww := by rw [← hPost]; exact fun _ _ h => h
  clear hPost
  show WM mX8_init 2 802 Post 1 0 [(0, .ref 0)] [] [ob 8 [.null, .null, vZ false]] 0 0
  refine sq_ok rfl [(.aload_n 0, 0, 0, 0)] 0 _ _ _ _ _ (by decide +kernel) ?_
  show WM mX8_init 2 802 Post 1 1 [(0, .ref 0)] [.ref 0] [ob 8 [.null, .null, vZ false]] 0 0
  refine wm_obj (by decide +kernel) kX8_3 ⟨Nat.le_of_ble_eq_true rfl, Nat.le_of_ble_eq_true rfl⟩ ?_
  show WM mX8_init 2 802 Post 1 4 [(0, .ref 0)] [] [ob 8 [.null, .null, vZ false]] 0 0
  refine sq_ok rfl [(.aload_n 0, 0, 0, 0), (.sipush 401, 0, 0, 0), (.newarray .long, 0, 0, 0), (.putfield 9, 8, 0, 0)] 4 _ _ _ _ _ (by decide +kernel) ?_
  show ∃ N8 : Nat, (kI 401 = kI (N8 : Int) ∧ N8 ≤ 1000000 ∧ 0 + 1 ≤ 2 ∧ 0 + N8 ≤ 802) ∧ WM mX8_init 2 802 Post 1 13 [(0, .ref 0)] [] [ob 8 [.ref 1, .null, vZ false], cJ N8 (fun _ => 0)] 1 (0 + N8)
  refine ⟨401, ⟨rfl, Nat.le_of_ble_eq_true rfl, Nat.le_of_ble_eq_true rfl, Nat.le_of_ble_eq_true rfl⟩, ?_⟩
  refine sq_ok rfl [(.aload_n 0, 0, 0, 0), (.sipush 401, 0, 0, 0), (.newarray .long, 0, 0, 0), (.putfield 15, 8, 1, 0)] 13 _ _ _ _ _ (by decide +kernel) ?_
  show ∃ N17 : Nat, (kI 401 = kI (N17 : Int) ∧ N17 ≤ 1000000 ∧ 1 + 1 ≤ 2 ∧ 0 + 401 + N17 ≤ 802) ∧ WM mX8_init 2 802 Post 1 22 [(0, .ref 0)] [] [ob 8 [.ref 1, .ref 2, vZ false], cJ 401 (fun _ => 0), cJ N17 (fun _ => 0)] 2 (0 + 401 + N17)
  refine ⟨401, ⟨rfl, Nat.le_of_ble_eq_true rfl, Nat.le_of_ble_eq_true rfl, Nat.le_of_ble_eq_true rfl⟩, ?_⟩
  refine sq_ok rfl [(.return_, 0, 0, 0)] 22 _ _ _ _ _ (by decide +kernel) ?_
  show ((2 ≤ 2 ∧ 0 + 401 + 401 ≤ 802) ∧ Post none [ob 8 [.ref 1, .ref 2, vZ false], cJ 401 (fun _ => 0), cJ 401 (fun _ => 0)])
  refine ⟨⟨Nat.le_refl _, (by omega)⟩, hPo _ _ ?_⟩
  exact ⟨rfl, rfl⟩

set_option maxRecDepth 100000 in
set_option maxHeartbeats 500000 in
theorem c_X8_tenthsOf (x t : Nat) (hx : x ≤ 10000000000000000) (ht : t ≤ 10) : CT mX8_tenthsOf 0 0 [vJ (x : Int), vI (t : Int)] [] (fun r w => r = some (vJ (tnO x t : Nat)) ∧ w = []) := by
  refine CT.intro rfl (Nat.le_of_ble_eq_true rfl) ?_
  generalize hPost : (fun r w => r = some (vJ (tnO x t : Nat)) ∧ w = [] : MP) = Post
  have hPo : ∀ rr ww, (fun r w => r = some (vJ (tnO x t : Nat)) ∧ w = [] : MP) rr ww → Post rr ww := by rw [← hPost]; exact fun _ _ h => h
  clear hPost
  show WM mX8_tenthsOf 0 0 Post 0 0 [(0, vJ (x : Int)), (2, vI (t : Int))] [] [] 0 0
  refine sq_ok rfl [(.iload_n 2, 0, 0, 0), (.bipush 10, 0, 0, 0), (.if_icmp .ne 7, 0, 0, 0)] 0 _ _ _ _ _ (by decide +kernel) ?_
  show (¬ kI (t : Int) = kI 10 → WM mX8_tenthsOf 0 0 Post 0 10 [(0, vJ (x : Int)), (2, vI (t : Int))] [] [] 0 0) ∧ (kI (t : Int) = kI 10 → WM mX8_tenthsOf 0 0 Post 0 6 [(0, vJ (x : Int)), (2, vI (t : Int))] [] [] 0 0)
  refine ⟨fun c3 => ?_, fun c3 => ?_⟩
  · 
    rw [kI_eq (by omega)] at c3
    refine sq_ok rfl [(.lload_n 0, 0, 0, 0), (.ldc2_w 87, 0, 0, 10), (.ldiv, 0, 0, 0)] 10 _ _ _ _ _ (by decide +kernel) ?_
    show ¬ (kL 10) = 0 ∧ WM mX8_tenthsOf 0 0 Post 0 15 [(0, vJ (x : Int)), (2, vI (t : Int))] [.long ((kL (x : Int)) / (kL 10))] [] 0 0
    refine ⟨by decide, ?_⟩
    have e2 : ((kL (x : Int)) / (kL 10)) = kL (((x / 10) : Nat) : Int) := by exact kL_div (b := 10) (by omega) (by omega) (by omega)
    rw [e2]
    refine sq_ok rfl [(.iload_n 2, 0, 0, 0), (.i2l, 0, 0, 0)] 15 _ _ _ _ _ (by decide +kernel) ?_
    show WM mX8_tenthsOf 0 0 Post 0 17 [(0, vJ (x : Int)), (2, vI (t : Int))] [.long ((kI (t : Int)).toInt64), vJ (((x / 10) : Nat) : Int)] [] 0 0
    have e3 : (kI (t : Int)).toInt64 = kL (t : Int) := by exact kI_i2l (by omega)
    rw [e3]
    refine sq_ok rfl [(.lmul, 0, 0, 0), (.lreturn, 0, 0, 0)] 17 _ _ _ _ _ (by decide +kernel) ?_
    show ((0 ≤ 0 ∧ 0 ≤ 0) ∧ Post (some (.long ((kL (((x / 10) : Nat) : Int)) * (kL (t : Int))))) [])
    have e4 : ((kL (((x / 10) : Nat) : Int)) * (kL (t : Int))) = kL ((((x / 10) * t) : Nat) : Int) := by first | (simp only [kL_add, kL_sub, kL_mul]; done) | (simp only [kL_add, kL_sub, kL_mul]; rfl)
    rw [e4]
    refine ⟨⟨Nat.le_refl _, Nat.le_refl _⟩, hPo _ _ ?_⟩
    first
    | exact ⟨by rw [show tnO x t = x from if_pos (by omega)], rfl⟩
    | exact ⟨by rw [show tnO x t = x / 10 * t from if_neg (by omega)], rfl⟩
  · 
    rw [kI_eq (by omega)] at c3
    refine sq_ok rfl [(.lload_n 0, 0, 0, 0), (.goto 11, 0, 0, 0)] 6 _ _ _ _ _ (by decide +kernel) ?_
    show WM mX8_tenthsOf 0 0 Post 0 18 [(0, vJ (x : Int)), (2, vI (t : Int))] [vJ (x : Int)] [] 0 0
    refine sq_ok rfl [(.lreturn, 0, 0, 0)] 18 _ _ _ _ _ (by decide +kernel) ?_
    show ((0 ≤ 0 ∧ 0 ≤ 0) ∧ Post (some (vJ (x : Int))) [])
    refine ⟨⟨Nat.le_refl _, Nat.le_refl _⟩, hPo _ _ ?_⟩
    first
    | exact ⟨by rw [show tnO x t = x from if_pos (by omega)], rfl⟩
    | exact ⟨by rw [show tnO x t = x / 10 * t from if_neg (by omega)], rfl⟩

set_option maxRecDepth 100000 in
set_option maxHeartbeats 500000 in
theorem c_X8_along (ga gb : Nat → Nat) (ho : Bool) (fr to : Nat → Nat) (wo : Nat → Int) (te : Nat → Nat) (hv : Nat → Bool) (fo no : Nat → Int) (mb mw : Nat → Nat) (ml : Nat → Int) (ma : Nat → Nat) (sk : Nat → Int) (bo : Nat → Nat) (nn ne nm : Nat) (e : Nat) (he : e < 512) (hfr : fr e < 401) (hto : to e < 401) (hte : te e ≤ 10) (hb : ga (fr e) ≤ 10000000000000000) (hh : gb (to e) ≤ 10000000000000000) : CT mX8_along 0 0 [.ref 0, .ref 1, vI (e : Int), .ref 15, .ref 16] [ob 8 [.ref 15, .ref 16, vZ ho], ob 1 [.ref 2, .ref 3, .ref 4, .ref 5, .ref 6, .ref 7, .ref 8, .ref 9, .ref 10, .ref 11, .ref 12, .ref 13, .ref 14, vI (nn : Int), vI (ne : Int), vI (nm : Int)], cN 512 fr, cN 512 to, cI 512 wo, cN 512 te, cZ 512 hv, cI 401 fo, cI 512 no, cN 16 mb, cN 16 mw, cI 16 ml, cN 16 ma, cI 16 sk, cN 17 bo, cK 401 ga, cK 401 gb] (fun r w => r = none ∧ w = [ob 8 [.ref 15, .ref 16, vZ ho], ob 1 [.ref 2, .ref 3, .ref 4, .ref 5, .ref 6, .ref 7, .ref 8, .ref 9, .ref 10, .ref 11, .ref 12, .ref 13, .ref 14, vI (nn : Int), vI (ne : Int), vI (nm : Int)], cN 512 fr, cN 512 to, cI 512 wo, cN 512 te, cZ 512 hv, cI 401 fo, cI 512 no, cN 16 mb, cN 16 mw, cI 16 ml, cN 16 ma, cI 16 sk, cN 17 bo, cK 401 ga, cK 401 (alO (alE ho hv e) (to e) (tnO (ga (fr e)) (te e)) gb)]) := by
  refine CT.intro rfl (Nat.le_of_ble_eq_true rfl) ?_
  generalize hPost : (fun r w => r = none ∧ w = [ob 8 [.ref 15, .ref 16, vZ ho], ob 1 [.ref 2, .ref 3, .ref 4, .ref 5, .ref 6, .ref 7, .ref 8, .ref 9, .ref 10, .ref 11, .ref 12, .ref 13, .ref 14, vI (nn : Int), vI (ne : Int), vI (nm : Int)], cN 512 fr, cN 512 to, cI 512 wo, cN 512 te, cZ 512 hv, cI 401 fo, cI 512 no, cN 16 mb, cN 16 mw, cI 16 ml, cN 16 ma, cI 16 sk, cN 17 bo, cK 401 ga, cK 401 (alO (alE ho hv e) (to e) (tnO (ga (fr e)) (te e)) gb)] : MP) = Post
  have hPo : ∀ rr ww, (fun r w => r = none ∧ w = [ob 8 [.ref 15, .ref 16, vZ ho], ob 1 [.ref 2, .ref 3, .ref 4, .ref 5, .ref 6, .ref 7, .ref 8, .ref 9, .ref 10, .ref 11, .ref 12, .ref 13, .ref 14, vI (nn : Int), vI (ne : Int), vI (nm : Int)], cN 512 fr, cN 512 to, cI 512 wo, cN 512 te, cZ 512 hv, cI 401 fo, cI 512 no, cN 16 mb, cN 16 mw, cI 16 ml, cN 16 ma, cI 16 sk, cN 17 bo, cK 401 ga, cK 401 (alO (alE ho hv e) (to e) (tnO (ga (fr e)) (te e)) gb)] : MP) rr ww → Post rr ww := by rw [← hPost]; exact fun _ _ h => h
  clear hPost
  show WM mX8_along 0 0 Post 17 0 [(0, .ref 0), (1, .ref 1), (2, vI (e : Int)), (3, .ref 15), (4, .ref 16)] [] [ob 8 [.ref 15, .ref 16, vZ ho], ob 1 [.ref 2, .ref 3, .ref 4, .ref 5, .ref 6, .ref 7, .ref 8, .ref 9, .ref 10, .ref 11, .ref 12, .ref 13, .ref 14, vI (nn : Int), vI (ne : Int), vI (nm : Int)], cN 512 fr, cN 512 to, cI 512 wo, cN 512 te, cZ 512 hv, cI 401 fo, cI 512 no, cN 16 mb, cN 16 mw, cI 16 ml, cN 16 ma, cI 16 sk, cN 17 bo, cK 401 ga, cK 401 gb] 0 0
  refine sq_ok rfl [(.aload_n 0, 0, 0, 0), (.getfield 18, 8, 2, 0), (.ifCond .eq 12, 0, 0, 0)] 0 _ _ _ _ _ (by decide +kernel) ?_
  show ((bI ho) = kI 0 → WM mX8_along 0 0 Post 17 16 [(0, .ref 0), (1, .ref 1), (2, vI (e : Int)), (3, .ref 15), (4, .ref 16)] [] [ob 8 [.ref 15, .ref 16, vZ ho], ob 1 [.ref 2, .ref 3, .ref 4, .ref 5, .ref 6, .ref 7, .ref 8, .ref 9, .ref 10, .ref 11, .ref 12, .ref 13, .ref 14, vI (nn : Int), vI (ne : Int), vI (nm : Int)], cN 512 fr, cN 512 to, cI 512 wo, cN 512 te, cZ 512 hv, cI 401 fo, cI 512 no, cN 16 mb, cN 16 mw, cI 16 ml, cN 16 ma, cI 16 sk, cN 17 bo, cK 401 ga, cK 401 gb] 0 0) ∧ (¬ (bI ho) = kI 0 → WM mX8_along 0 0 Post 17 7 [(0, .ref 0), (1, .ref 1), (2, vI (e : Int)), (3, .ref 15), (4, .ref 16)] [] [ob 8 [.ref 15, .ref 16, vZ ho], ob 1 [.ref 2, .ref 3, .ref 4, .ref 5, .ref 6, .ref 7, .ref 8, .ref 9, .ref 10, .ref 11, .ref 12, .ref 13, .ref 14, vI (nn : Int), vI (ne : Int), vI (nm : Int)], cN 512 fr, cN 512 to, cI 512 wo, cN 512 te, cZ 512 hv, cI 401 fo, cI 512 no, cN 16 mb, cN 16 mw, cI 16 ml, cN 16 ma, cI 16 sk, cN 17 bo, cK 401 ga, cK 401 gb] 0 0)
  refine ⟨fun c4 => ?_, fun c4 => ?_⟩
  · 
    rw [bI_eq0] at c4
    have hal : alE ho hv e = true := by unfold alE; rw [c4]; rfl
    have htn := tnO_le (w := ga (fr e)) hte
    refine sq_ok rfl [(.aload_n 3, 0, 0, 0), (.aload_n 1, 0, 0, 0), (.getfield 68, 1, 0, 0), (.iload_n 2, 0, 0, 0), (.iaload, 0, 0, 0), (.laload, 0, 0, 0), (.aload_n 1, 0, 0, 0), (.getfield 71, 1, 3, 0), (.iload_n 2, 0, 0, 0), (.iaload, 0, 0, 0)] 16 _ _ _ _ _ (by decide +kernel) ?_
    show ∃ j22 : Nat, mj 512 (kI (e : Int)) j22 ∧ ∃ j23 : Nat, mj 401 (kI ((fr j22 : Nat) : Int)) j23 ∧ ∃ j29 : Nat, mj 512 (kI (e : Int)) j29 ∧ WM mX8_along 0 0 Post 17 30 [(0, .ref 0), (1, .ref 1), (2, vI (e : Int)), (3, .ref 15), (4, .ref 16)] [vI ((te j29 : Nat) : Int), vJ ((ga j23 : Nat) : Int)] [ob 8 [.ref 15, .ref 16, vZ ho], ob 1 [.ref 2, .ref 3, .ref 4, .ref 5, .ref 6, .ref 7, .ref 8, .ref 9, .ref 10, .ref 11, .ref 12, .ref 13, .ref 14, vI (nn : Int), vI (ne : Int), vI (nm : Int)], cN 512 fr, cN 512 to, cI 512 wo, cN 512 te, cZ 512 hv, cI 401 fo, cI 512 no, cN 16 mb, cN 16 mw, cI 16 ml, cN 16 ma, cI 16 sk, cN 17 bo, cK 401 ga, cK 401 gb] 0 0
    refine ⟨e, ⟨by omega, by omega, rfl⟩, ?_⟩
    refine ⟨(fr e), ⟨by omega, by omega, rfl⟩, ?_⟩
    refine ⟨e, ⟨by omega, by omega, rfl⟩, ?_⟩
    refine wm_callS (y := mX8_along) mX8_tenthsOf [] (pc := 30) (rest := []) (mc' := 0) (ms' := 0) (by decide +kernel) kX8_74 (c_X8_tenthsOf (ga (fr e)) (te e) hb hte) rfl ⟨Nat.le_of_ble_eq_true rfl, Nat.le_of_ble_eq_true rfl⟩ ⟨Nat.le_of_ble_eq_true rfl, Nat.le_of_ble_eq_true rfl⟩ (Nat.le_of_ble_eq_true rfl) rfl rfl (Nat.le_of_ble_eq_true rfl) rfl ?_
    rintro _ _ ⟨rfl, rfl⟩
    show WM mX8_along 0 0 Post 17 33 [(0, .ref 0), (1, .ref 1), (2, vI (e : Int)), (3, .ref 15), (4, .ref 16)] [vJ (((tnO (ga (fr e)) (te e)) : Nat) : Int)] [ob 8 [.ref 15, .ref 16, vZ ho], ob 1 [.ref 2, .ref 3, .ref 4, .ref 5, .ref 6, .ref 7, .ref 8, .ref 9, .ref 10, .ref 11, .ref 12, .ref 13, .ref 14, vI (nn : Int), vI (ne : Int), vI (nm : Int)], cN 512 fr, cN 512 to, cI 512 wo, cN 512 te, cZ 512 hv, cI 401 fo, cI 512 no, cN 16 mb, cN 16 mw, cI 16 ml, cN 16 ma, cI 16 sk, cN 17 bo, cK 401 ga, cK 401 gb] 0 0
    refine sq_ok rfl [(.lstore 5, 0, 0, 0), (.aload 4, 0, 0, 0), (.aload_n 1, 0, 0, 0), (.getfield 78, 1, 1, 0), (.iload_n 2, 0, 0, 0), (.iaload, 0, 0, 0), (.aload 4, 0, 0, 0), (.aload_n 1, 0, 0, 0), (.getfield 78, 1, 1, 0), (.iload_n 2, 0, 0, 0), (.iaload, 0, 0, 0), (.laload, 0, 0, 0), (.lload 5, 0, 0, 0)] 33 _ _ _ _ _ (by decide +kernel) ?_
    show ∃ j42 : Nat, mj 512 (kI (e : Int)) j42 ∧ ∃ j50 : Nat, mj 512 (kI (e : Int)) j50 ∧ ∃ j51 : Nat, mj 401 (kI ((to j50 : Nat) : Int)) j51 ∧ WM mX8_along 0 0 Post 17 54 [(0, .ref 0), (1, .ref 1), (2, vI (e : Int)), (3, .ref 15), (4, .ref 16), (5, vJ (((tnO (ga (fr e)) (te e)) : Nat) : Int))] [vJ (((tnO (ga (fr e)) (te e)) : Nat) : Int), vJ ((gb j51 : Nat) : Int), vI ((to j42 : Nat) : Int), .ref 16] [ob 8 [.ref 15, .ref 16, vZ ho], ob 1 [.ref 2, .ref 3, .ref 4, .ref 5, .ref 6, .ref 7, .ref 8, .ref 9, .ref 10, .ref 11, .ref 12, .ref 13, .ref 14, vI (nn : Int), vI (ne : Int), vI (nm : Int)], cN 512 fr, cN 512 to, cI 512 wo, cN 512 te, cZ 512 hv, cI 401 fo, cI 512 no, cN 16 mb, cN 16 mw, cI 16 ml, cN 16 ma, cI 16 sk, cN 17 bo, cK 401 ga, cK 401 gb] 0 0
    refine ⟨e, ⟨by omega, by omega, rfl⟩, ?_⟩
    refine ⟨e, ⟨by omega, by omega, rfl⟩, ?_⟩
    refine ⟨(to e), ⟨by omega, by omega, rfl⟩, ?_⟩
    refine wm_maxL (by unfold lR; omega) (by unfold lR; omega) (by decide +kernel) kX8_81 ⟨Nat.le_of_ble_eq_true rfl, Nat.le_of_ble_eq_true rfl⟩ ⟨Nat.le_of_ble_eq_true rfl, Nat.le_of_ble_eq_true rfl⟩ ?_
    rw [show (max ((gb (to e) : Nat) : Int) (((tnO (ga (fr e)) (te e)) : Nat) : Int)) = (((max (gb (to e)) (tnO (ga (fr e)) (te e))) : Nat) : Int) from by omega]
    show WM mX8_along 0 0 Post 17 57 [(0, .ref 0), (1, .ref 1), (2, vI (e : Int)), (3, .ref 15), (4, .ref 16), (5, vJ (((tnO (ga (fr e)) (te e)) : Nat) : Int))] [vJ (((max (gb (to e)) (tnO (ga (fr e)) (te e))) : Nat) : Int), vI ((to e : Nat) : Int), .ref 16] [ob 8 [.ref 15, .ref 16, vZ ho], ob 1 [.ref 2, .ref 3, .ref 4, .ref 5, .ref 6, .ref 7, .ref 8, .ref 9, .ref 10, .ref 11, .ref 12, .ref 13, .ref 14, vI (nn : Int), vI (ne : Int), vI (nm : Int)], cN 512 fr, cN 512 to, cI 512 wo, cN 512 te, cZ 512 hv, cI 401 fo, cI 512 no, cN 16 mb, cN 16 mw, cI 16 ml, cN 16 ma, cI 16 sk, cN 17 bo, cK 401 ga, cK 401 gb] 0 0
    refine sq_ok rfl [(.lastore, 0, 0, 0)] 57 _ _ _ _ _ (by decide +kernel) ?_
    show ∃ (j57 : Nat) (g57 : Nat → Int64), (mj 401 (kI ((to e : Nat) : Int)) j57 ∧ g57 = vp_updL (fun q => kL ((gb q : Nat) : Int)) j57 (kL (((max (gb (to e)) (tnO (ga (fr e)) (te e))) : Nat) : Int))) ∧ WM mX8_along 0 0 Post 17 58 [(0, .ref 0), (1, .ref 1), (2, vI (e : Int)), (3, .ref 15), (4, .ref 16), (5, vJ (((tnO (ga (fr e)) (te e)) : Nat) : Int))] [] [ob 8 [.ref 15, .ref 16, vZ ho], ob 1 [.ref 2, .ref 3, .ref 4, .ref 5, .ref 6, .ref 7, .ref 8, .ref 9, .ref 10, .ref 11, .ref 12, .ref 13, .ref 14, vI (nn : Int), vI (ne : Int), vI (nm : Int)], cN 512 fr, cN 512 to, cI 512 wo, cN 512 te, cZ 512 hv, cI 401 fo, cI 512 no, cN 16 mb, cN 16 mw, cI 16 ml, cN 16 ma, cI 16 sk, cN 17 bo, cK 401 ga, .inl (1, 401, .inr (.inl g57))] 0 0
    refine ⟨(to e), fun q => kL (((va_up gb (to e) (max (gb (to e)) (tnO (ga (fr e)) (te e)))) q : Nat) : Int), ⟨⟨by omega, by omega, rfl⟩, st_K (rfl)⟩, ?_⟩
    refine sq_ok rfl [(.return_, 0, 0, 0)] 58 _ _ _ _ _ (by decide +kernel) ?_
    show ((0 ≤ 0 ∧ 0 ≤ 0) ∧ Post none [ob 8 [.ref 15, .ref 16, vZ ho], ob 1 [.ref 2, .ref 3, .ref 4, .ref 5, .ref 6, .ref 7, .ref 8, .ref 9, .ref 10, .ref 11, .ref 12, .ref 13, .ref 14, vI (nn : Int), vI (ne : Int), vI (nm : Int)], cN 512 fr, cN 512 to, cI 512 wo, cN 512 te, cZ 512 hv, cI 401 fo, cI 512 no, cN 16 mb, cN 16 mw, cI 16 ml, cN 16 ma, cI 16 sk, cN 17 bo, cK 401 ga, cK 401 (va_up gb (to e) (max (gb (to e)) (tnO (ga (fr e)) (te e))))])
    refine ⟨⟨Nat.le_refl _, Nat.le_refl _⟩, hPo _ _ ?_⟩
    refine ⟨rfl, ?_⟩
    first
    | rw [show alO (alE ho hv e) (to e) (tnO (ga (fr e)) (te e)) gb = gb from if_neg (by rw [hal]; decide)]
    | rw [show alO (alE ho hv e) (to e) (tnO (ga (fr e)) (te e)) gb = va_up gb (to e) (max (gb (to e)) (tnO (ga (fr e)) (te e))) from if_pos hal]
  · 
    rw [bI_eq0, Bool.not_eq_false] at c4
    refine sq_ok rfl [(.aload_n 1, 0, 0, 0), (.getfield 64, 1, 4, 0), (.iload_n 2, 0, 0, 0), (.baload, 0, 0, 0), (.ifCond .eq 45, 0, 0, 0)] 7 _ _ _ _ _ (by decide +kernel) ?_
    show ∃ j12 : Nat, mj 512 (kI (e : Int)) j12 ∧ ((bI (hv j12)) = kI 0 → WM mX8_along 0 0 Post 17 58 [(0, .ref 0), (1, .ref 1), (2, vI (e : Int)), (3, .ref 15), (4, .ref 16)] [] [ob 8 [.ref 15, .ref 16, vZ ho], ob 1 [.ref 2, .ref 3, .ref 4, .ref 5, .ref 6, .ref 7, .ref 8, .ref 9, .ref 10, .ref 11, .ref 12, .ref 13, .ref 14, vI (nn : Int), vI (ne : Int), vI (nm : Int)], cN 512 fr, cN 512 to, cI 512 wo, cN 512 te, cZ 512 hv, cI 401 fo, cI 512 no, cN 16 mb, cN 16 mw, cI 16 ml, cN 16 ma, cI 16 sk, cN 17 bo, cK 401 ga, cK 401 gb] 0 0) ∧ (¬ (bI (hv j12)) = kI 0 → WM mX8_along 0 0 Post 17 16 [(0, .ref 0), (1, .ref 1), (2, vI (e : Int)), (3, .ref 15), (4, .ref 16)] [] [ob 8 [.ref 15, .ref 16, vZ ho], ob 1 [.ref 2, .ref 3, .ref 4, .ref 5, .ref 6, .ref 7, .ref 8, .ref 9, .ref 10, .ref 11, .ref 12, .ref 13, .ref 14, vI (nn : Int), vI (ne : Int), vI (nm : Int)], cN 512 fr, cN 512 to, cI 512 wo, cN 512 te, cZ 512 hv, cI 401 fo, cI 512 no, cN 16 mb, cN 16 mw, cI 16 ml, cN 16 ma, cI 16 sk, cN 17 bo, cK 401 ga, cK 401 gb] 0 0)
    refine ⟨e, ⟨by omega, by omega, rfl⟩, ?_⟩
    refine ⟨fun c13 => ?_, fun c13 => ?_⟩
    · 
      rw [bI_eq0] at c13
      have hal : alE ho hv e = false := by unfold alE; rw [c4, c13]; rfl
      refine sq_ok rfl [(.return_, 0, 0, 0)] 58 _ _ _ _ _ (by decide +kernel) ?_
      show ((0 ≤ 0 ∧ 0 ≤ 0) ∧ Post none [ob 8 [.ref 15, .ref 16, vZ ho], ob 1 [.ref 2, .ref 3, .ref 4, .ref 5, .ref 6, .ref 7, .ref 8, .ref 9, .ref 10, .ref 11, .ref 12, .ref 13, .ref 14, vI (nn : Int), vI (ne : Int), vI (nm : Int)], cN 512 fr, cN 512 to, cI 512 wo, cN 512 te, cZ 512 hv, cI 401 fo, cI 512 no, cN 16 mb, cN 16 mw, cI 16 ml, cN 16 ma, cI 16 sk, cN 17 bo, cK 401 ga, cK 401 gb])
      refine ⟨⟨Nat.le_refl _, Nat.le_refl _⟩, hPo _ _ ?_⟩
      refine ⟨rfl, ?_⟩
      first
      | rw [show alO (alE ho hv e) (to e) (tnO (ga (fr e)) (te e)) gb = gb from if_neg (by rw [hal]; decide)]
      | rw [show alO (alE ho hv e) (to e) (tnO (ga (fr e)) (te e)) gb = va_up gb (to e) (max (gb (to e)) (tnO (ga (fr e)) (te e))) from if_pos hal]
    · 
      rw [bI_eq0, Bool.not_eq_false] at c13
      have hal : alE ho hv e = true := by unfold alE; rw [c13, Bool.or_true]
      have htn := tnO_le (w := ga (fr e)) hte
      refine sq_ok rfl [(.aload_n 3, 0, 0, 0), (.aload_n 1, 0, 0, 0), (.getfield 68, 1, 0, 0), (.iload_n 2, 0, 0, 0), (.iaload, 0, 0, 0), (.laload, 0, 0, 0), (.aload_n 1, 0, 0, 0), (.getfield 71, 1, 3, 0), (.iload_n 2, 0, 0, 0), (.iaload, 0, 0, 0)] 16 _ _ _ _ _ (by decide +kernel) ?_
      show ∃ j22 : Nat, mj 512 (kI (e : Int)) j22 ∧ ∃ j23 : Nat, mj 401 (kI ((fr j22 : Nat) : Int)) j23 ∧ ∃ j29 : Nat, mj 512 (kI (e : Int)) j29 ∧ WM mX8_along 0 0 Post 17 30 [(0, .ref 0), (1, .ref 1), (2, vI (e : Int)), (3, .ref 15), (4, .ref 16)] [vI ((te j29 : Nat) : Int), vJ ((ga j23 : Nat) : Int)] [ob 8 [.ref 15, .ref 16, vZ ho], ob 1 [.ref 2, .ref 3, .ref 4, .ref 5, .ref 6, .ref 7, .ref 8, .ref 9, .ref 10, .ref 11, .ref 12, .ref 13, .ref 14, vI (nn : Int), vI (ne : Int), vI (nm : Int)], cN 512 fr, cN 512 to, cI 512 wo, cN 512 te, cZ 512 hv, cI 401 fo, cI 512 no, cN 16 mb, cN 16 mw, cI 16 ml, cN 16 ma, cI 16 sk, cN 17 bo, cK 401 ga, cK 401 gb] 0 0
      refine ⟨e, ⟨by omega, by omega, rfl⟩, ?_⟩
      refine ⟨(fr e), ⟨by omega, by omega, rfl⟩, ?_⟩
      refine ⟨e, ⟨by omega, by omega, rfl⟩, ?_⟩
      refine wm_callS (y := mX8_along) mX8_tenthsOf [] (pc := 30) (rest := []) (mc' := 0) (ms' := 0) (by decide +kernel) kX8_74 (c_X8_tenthsOf (ga (fr e)) (te e) hb hte) rfl ⟨Nat.le_of_ble_eq_true rfl, Nat.le_of_ble_eq_true rfl⟩ ⟨Nat.le_of_ble_eq_true rfl, Nat.le_of_ble_eq_true rfl⟩ (Nat.le_of_ble_eq_true rfl) rfl rfl (Nat.le_of_ble_eq_true rfl) rfl ?_
      rintro _ _ ⟨rfl, rfl⟩
      show WM mX8_along 0 0 Post 17 33 [(0, .ref 0), (1, .ref 1), (2, vI (e : Int)), (3, .ref 15), (4, .ref 16)] [vJ (((tnO (ga (fr e)) (te e)) : Nat) : Int)] [ob 8 [.ref 15, .ref 16, vZ ho], ob 1 [.ref 2, .ref 3, .ref 4, .ref 5, .ref 6, .ref 7, .ref 8, .ref 9, .ref 10, .ref 11, .ref 12, .ref 13, .ref 14, vI (nn : Int), vI (ne : Int), vI (nm : Int)], cN 512 fr, cN 512 to, cI 512 wo, cN 512 te, cZ 512 hv, cI 401 fo, cI 512 no, cN 16 mb, cN 16 mw, cI 16 ml, cN 16 ma, cI 16 sk, cN 17 bo, cK 401 ga, cK 401 gb] 0 0
      refine sq_ok rfl [(.lstore 5, 0, 0, 0), (.aload 4, 0, 0, 0), (.aload_n 1, 0, 0, 0), (.getfield 78, 1, 1, 0), (.iload_n 2, 0, 0, 0), (.iaload, 0, 0, 0), (.aload 4, 0, 0, 0), (.aload_n 1, 0, 0, 0), (.getfield 78, 1, 1, 0), (.iload_n 2, 0, 0, 0), (.iaload, 0, 0, 0), (.laload, 0, 0, 0), (.lload 5, 0, 0, 0)] 33 _ _ _ _ _ (by decide +kernel) ?_
      show ∃ j42 : Nat, mj 512 (kI (e : Int)) j42 ∧ ∃ j50 : Nat, mj 512 (kI (e : Int)) j50 ∧ ∃ j51 : Nat, mj 401 (kI ((to j50 : Nat) : Int)) j51 ∧ WM mX8_along 0 0 Post 17 54 [(0, .ref 0), (1, .ref 1), (2, vI (e : Int)), (3, .ref 15), (4, .ref 16), (5, vJ (((tnO (ga (fr e)) (te e)) : Nat) : Int))] [vJ (((tnO (ga (fr e)) (te e)) : Nat) : Int), vJ ((gb j51 : Nat) : Int), vI ((to j42 : Nat) : Int), .ref 16] [ob 8 [.ref 15, .ref 16, vZ ho], ob 1 [.ref 2, .ref 3, .ref 4, .ref 5, .ref 6, .ref 7, .ref 8, .ref 9, .ref 10, .ref 11, .ref 12, .ref 13, .ref 14, vI (nn : Int), vI (ne : Int), vI (nm : Int)], cN 512 fr, cN 512 to, cI 512 wo, cN 512 te, cZ 512 hv, cI 401 fo, cI 512 no, cN 16 mb, cN 16 mw, cI 16 ml, cN 16 ma, cI 16 sk, cN 17 bo, cK 401 ga, cK 401 gb] 0 0
      refine ⟨e, ⟨by omega, by omega, rfl⟩, ?_⟩
      refine ⟨e, ⟨by omega, by omega, rfl⟩, ?_⟩
      refine ⟨(to e), ⟨by omega, by omega, rfl⟩, ?_⟩
      refine wm_maxL (by unfold lR; omega) (by unfold lR; omega) (by decide +kernel) kX8_81 ⟨Nat.le_of_ble_eq_true rfl, Nat.le_of_ble_eq_true rfl⟩ ⟨Nat.le_of_ble_eq_true rfl, Nat.le_of_ble_eq_true rfl⟩ ?_
      rw [show (max ((gb (to e) : Nat) : Int) (((tnO (ga (fr e)) (te e)) : Nat) : Int)) = (((max (gb (to e)) (tnO (ga (fr e)) (te e))) : Nat) : Int) from by omega]
      show WM mX8_along 0 0 Post 17 57 [(0, .ref 0), (1, .ref 1), (2, vI (e : Int)), (3, .ref 15), (4, .ref 16), (5, vJ (((tnO (ga (fr e)) (te e)) : Nat) : Int))] [vJ (((max (gb (to e)) (tnO (ga (fr e)) (te e))) : Nat) : Int), vI ((to e : Nat) : Int), .ref 16] [ob 8 [.ref 15, .ref 16, vZ ho], ob 1 [.ref 2, .ref 3, .ref 4, .ref 5, .ref 6, .ref 7, .ref 8, .ref 9, .ref 10, .ref 11, .ref 12, .ref 13, .ref 14, vI (nn : Int), vI (ne : Int), vI (nm : Int)], cN 512 fr, cN 512 to, cI 512 wo, cN 512 te, cZ 512 hv, cI 401 fo, cI 512 no, cN 16 mb, cN 16 mw, cI 16 ml, cN 16 ma, cI 16 sk, cN 17 bo, cK 401 ga, cK 401 gb] 0 0
      refine sq_ok rfl [(.lastore, 0, 0, 0)] 57 _ _ _ _ _ (by decide +kernel) ?_
      show ∃ (j57 : Nat) (g57 : Nat → Int64), (mj 401 (kI ((to e : Nat) : Int)) j57 ∧ g57 = vp_updL (fun q => kL ((gb q : Nat) : Int)) j57 (kL (((max (gb (to e)) (tnO (ga (fr e)) (te e))) : Nat) : Int))) ∧ WM mX8_along 0 0 Post 17 58 [(0, .ref 0), (1, .ref 1), (2, vI (e : Int)), (3, .ref 15), (4, .ref 16), (5, vJ (((tnO (ga (fr e)) (te e)) : Nat) : Int))] [] [ob 8 [.ref 15, .ref 16, vZ ho], ob 1 [.ref 2, .ref 3, .ref 4, .ref 5, .ref 6, .ref 7, .ref 8, .ref 9, .ref 10, .ref 11, .ref 12, .ref 13, .ref 14, vI (nn : Int), vI (ne : Int), vI (nm : Int)], cN 512 fr, cN 512 to, cI 512 wo, cN 512 te, cZ 512 hv, cI 401 fo, cI 512 no, cN 16 mb, cN 16 mw, cI 16 ml, cN 16 ma, cI 16 sk, cN 17 bo, cK 401 ga, .inl (1, 401, .inr (.inl g57))] 0 0
      refine ⟨(to e), fun q => kL (((va_up gb (to e) (max (gb (to e)) (tnO (ga (fr e)) (te e)))) q : Nat) : Int), ⟨⟨by omega, by omega, rfl⟩, st_K (rfl)⟩, ?_⟩
      refine sq_ok rfl [(.return_, 0, 0, 0)] 58 _ _ _ _ _ (by decide +kernel) ?_
      show ((0 ≤ 0 ∧ 0 ≤ 0) ∧ Post none [ob 8 [.ref 15, .ref 16, vZ ho], ob 1 [.ref 2, .ref 3, .ref 4, .ref 5, .ref 6, .ref 7, .ref 8, .ref 9, .ref 10, .ref 11, .ref 12, .ref 13, .ref 14, vI (nn : Int), vI (ne : Int), vI (nm : Int)], cN 512 fr, cN 512 to, cI 512 wo, cN 512 te, cZ 512 hv, cI 401 fo, cI 512 no, cN 16 mb, cN 16 mw, cI 16 ml, cN 16 ma, cI 16 sk, cN 17 bo, cK 401 ga, cK 401 (va_up gb (to e) (max (gb (to e)) (tnO (ga (fr e)) (te e))))])
      refine ⟨⟨Nat.le_refl _, Nat.le_refl _⟩, hPo _ _ ?_⟩
      refine ⟨rfl, ?_⟩
      first
      | rw [show alO (alE ho hv e) (to e) (tnO (ga (fr e)) (te e)) gb = gb from if_neg (by rw [hal]; decide)]
      | rw [show alO (alE ho hv e) (to e) (tnO (ga (fr e)) (te e)) gb = va_up gb (to e) (max (gb (to e)) (tnO (ga (fr e)) (te e))) from if_pos hal]

set_option maxRecDepth 100000 in
set_option maxHeartbeats 500000 in
theorem c_X8_alongA (ga gb : Nat → Nat) (ho : Bool) (fr to : Nat → Nat) (wo : Nat → Int) (te : Nat → Nat) (hv : Nat → Bool) (fo no : Nat → Int) (mb mw : Nat → Nat) (ml : Nat → Int) (ma : Nat → Nat) (sk : Nat → Int) (bo : Nat → Nat) (nn ne nm : Nat) (e : Nat) (he : e < 512) (hfr : fr e < 401) (hto : to e < 401) (hte : te e ≤ 10) (hb : ga (fr e) ≤ 10000000000000000) (hh : ga (to e) ≤ 10000000000000000) : CT mX8_along 0 0 [.ref 0, .ref 1, vI (e : Int), .ref 15, .ref 15] [ob 8 [.ref 15, .ref 16, vZ ho], ob 1 [.ref 2, .ref 3, .ref 4, .ref 5, .ref 6, .ref 7, .ref 8, .ref 9, .ref 10, .ref 11, .ref 12, .ref 13, .ref 14, vI (nn : Int), vI (ne : Int), vI (nm : Int)], cN 512 fr, cN 512 to, cI 512 wo, cN 512 te, cZ 512 hv, cI 401 fo, cI 512 no, cN 16 mb, cN 16 mw, cI 16 ml, cN 16 ma, cI 16 sk, cN 17 bo, cK 401 ga, cK 401 gb] (fun r w => r = none ∧ w = [ob 8 [.ref 15, .ref 16, vZ ho], ob 1 [.ref 2, .ref 3, .ref 4, .ref 5, .ref 6, .ref 7, .ref 8, .ref 9, .ref 10, .ref 11, .ref 12, .ref 13, .ref 14, vI (nn : Int), vI (ne : Int), vI (nm : Int)], cN 512 fr, cN 512 to, cI 512 wo, cN 512 te, cZ 512 hv, cI 401 fo, cI 512 no, cN 16 mb, cN 16 mw, cI 16 ml, cN 16 ma, cI 16 sk, cN 17 bo, cK 401 (alO (alE ho hv e) (to e) (tnO (ga (fr e)) (te e)) ga), cK 401 gb]) := by
  refine CT.intro rfl (Nat.le_of_ble_eq_true rfl) ?_
  generalize hPost : (fun r w => r = none ∧ w = [ob 8 [.ref 15, .ref 16, vZ ho], ob 1 [.ref 2, .ref 3, .ref 4, .ref 5, .ref 6, .ref 7, .ref 8, .ref 9, .ref 10, .ref 11, .ref 12, .ref 13, .ref 14, vI (nn : Int), vI (ne : Int), vI (nm : Int)], cN 512 fr, cN 512 to, cI 512 wo, cN 512 te, cZ 512 hv, cI 401 fo, cI 512 no, cN 16 mb, cN 16 mw, cI 16 ml, cN 16 ma, cI 16 sk, cN 17 bo, cK 401 (alO (alE ho hv e) (to e) (tnO (ga (fr e)) (te e)) ga), cK 401 gb] : MP) = Post
  have hPo : ∀ rr ww, (fun r w => r = none ∧ w = [ob 8 [.ref 15, .ref 16, vZ ho], ob 1 [.ref 2, .ref 3, .ref 4, .ref 5, .ref 6, .ref 7, .ref 8, .ref 9, .ref 10, .ref 11, .ref 12, .ref 13, .ref 14, vI (nn : Int), vI (ne : Int), vI (nm : Int)], cN 512 fr, cN 512 to, cI 512 wo, cN 512 te, cZ 512 hv, cI 401 fo, cI 512 no, cN 16 mb, cN 16 mw, cI 16 ml, cN 16 ma, cI 16 sk, cN 17 bo, cK 401 (alO (alE ho hv e) (to e) (tnO (ga (fr e)) (te e)) ga), cK 401 gb] : MP) rr ww → Post rr ww := by rw [← hPost]; exact fun _ _ h => h
  clear hPost
  show WM mX8_along 0 0 Post 17 0 [(0, .ref 0), (1, .ref 1), (2, vI (e : Int)), (3, .ref 15), (4, .ref 15)] [] [ob 8 [.ref 15, .ref 16, vZ ho], ob 1 [.ref 2, .ref 3, .ref 4, .ref 5, .ref 6, .ref 7, .ref 8, .ref 9, .ref 10, .ref 11, .ref 12, .ref 13, .ref 14, vI (nn : Int), vI (ne : Int), vI (nm : Int)], cN 512 fr, cN 512 to, cI 512 wo, cN 512 te, cZ 512 hv, cI 401 fo, cI 512 no, cN 16 mb, cN 16 mw, cI 16 ml, cN 16 ma, cI 16 sk, cN 17 bo, cK 401 ga, cK 401 gb] 0 0
  refine sq_ok rfl [(.aload_n 0, 0, 0, 0), (.getfield 18, 8, 2, 0), (.ifCond .eq 12, 0, 0, 0)] 0 _ _ _ _ _ (by decide +kernel) ?_
  show ((bI ho) = kI 0 → WM mX8_along 0 0 Post 17 16 [(0, .ref 0), (1, .ref 1), (2, vI (e : Int)), (3, .ref 15), (4, .ref 15)] [] [ob 8 [.ref 15, .ref 16, vZ ho], ob 1 [.ref 2, .ref 3, .ref 4, .ref 5, .ref 6, .ref 7, .ref 8, .ref 9, .ref 10, .ref 11, .ref 12, .ref 13, .ref 14, vI (nn : Int), vI (ne : Int), vI (nm : Int)], cN 512 fr, cN 512 to, cI 512 wo, cN 512 te, cZ 512 hv, cI 401 fo, cI 512 no, cN 16 mb, cN 16 mw, cI 16 ml, cN 16 ma, cI 16 sk, cN 17 bo, cK 401 ga, cK 401 gb] 0 0) ∧ (¬ (bI ho) = kI 0 → WM mX8_along 0 0 Post 17 7 [(0, .ref 0), (1, .ref 1), (2, vI (e : Int)), (3, .ref 15), (4, .ref 15)] [] [ob 8 [.ref 15, .ref 16, vZ ho], ob 1 [.ref 2, .ref 3, .ref 4, .ref 5, .ref 6, .ref 7, .ref 8, .ref 9, .ref 10, .ref 11, .ref 12, .ref 13, .ref 14, vI (nn : Int), vI (ne : Int), vI (nm : Int)], cN 512 fr, cN 512 to, cI 512 wo, cN 512 te, cZ 512 hv, cI 401 fo, cI 512 no, cN 16 mb, cN 16 mw, cI 16 ml, cN 16 ma, cI 16 sk, cN 17 bo, cK 401 ga, cK 401 gb] 0 0)
  refine ⟨fun c4 => ?_, fun c4 => ?_⟩
  · 
    rw [bI_eq0] at c4
    have hal : alE ho hv e = true := by unfold alE; rw [c4]; rfl
    have htn := tnO_le (w := ga (fr e)) hte
    refine sq_ok rfl [(.aload_n 3, 0, 0, 0), (.aload_n 1, 0, 0, 0), (.getfield 68, 1, 0, 0), (.iload_n 2, 0, 0, 0), (.iaload, 0, 0, 0), (.laload, 0, 0, 0), (.aload_n 1, 0, 0, 0), (.getfield 71, 1, 3, 0), (.iload_n 2, 0, 0, 0), (.iaload, 0, 0, 0)] 16 _ _ _ _ _ (by decide +kernel) ?_
    show ∃ j22 : Nat, mj 512 (kI (e : Int)) j22 ∧ ∃ j23 : Nat, mj 401 (kI ((fr j22 : Nat) : Int)) j23 ∧ ∃ j29 : Nat, mj 512 (kI (e : Int)) j29 ∧ WM mX8_along 0 0 Post 17 30 [(0, .ref 0), (1, .ref 1), (2, vI (e : Int)), (3, .ref 15), (4, .ref 15)] [vI ((te j29 : Nat) : Int), vJ ((ga j23 : Nat) : Int)] [ob 8 [.ref 15, .ref 16, vZ ho], ob 1 [.ref 2, .ref 3, .ref 4, .ref 5, .ref 6, .ref 7, .ref 8, .ref 9, .ref 10, .ref 11, .ref 12, .ref 13, .ref 14, vI (nn : Int), vI (ne : Int), vI (nm : Int)], cN 512 fr, cN 512 to, cI 512 wo, cN 512 te, cZ 512 hv, cI 401 fo, cI 512 no, cN 16 mb, cN 16 mw, cI 16 ml, cN 16 ma, cI 16 sk, cN 17 bo, cK 401 ga, cK 401 gb] 0 0
    refine ⟨e, ⟨by omega, by omega, rfl⟩, ?_⟩
    refine ⟨(fr e), ⟨by omega, by omega, rfl⟩, ?_⟩
    refine ⟨e, ⟨by omega, by omega, rfl⟩, ?_⟩
    refine wm_callS (y := mX8_along) mX8_tenthsOf [] (pc := 30) (rest := []) (mc' := 0) (ms' := 0) (by decide +kernel) kX8_74 (c_X8_tenthsOf (ga (fr e)) (te e) hb hte) rfl ⟨Nat.le_of_ble_eq_true rfl, Nat.le_of_ble_eq_true rfl⟩ ⟨Nat.le_of_ble_eq_true rfl, Nat.le_of_ble_eq_true rfl⟩ (Nat.le_of_ble_eq_true rfl) rfl rfl (Nat.le_of_ble_eq_true rfl) rfl ?_
    rintro _ _ ⟨rfl, rfl⟩
    show WM mX8_along 0 0 Post 17 33 [(0, .ref 0), (1, .ref 1), (2, vI (e : Int)), (3, .ref 15), (4, .ref 15)] [vJ (((tnO (ga (fr e)) (te e)) : Nat) : Int)] [ob 8 [.ref 15, .ref 16, vZ ho], ob 1 [.ref 2, .ref 3, .ref 4, .ref 5, .ref 6, .ref 7, .ref 8, .ref 9, .ref 10, .ref 11, .ref 12, .ref 13, .ref 14, vI (nn : Int), vI (ne : Int), vI (nm : Int)], cN 512 fr, cN 512 to, cI 512 wo, cN 512 te, cZ 512 hv, cI 401 fo, cI 512 no, cN 16 mb, cN 16 mw, cI 16 ml, cN 16 ma, cI 16 sk, cN 17 bo, cK 401 ga, cK 401 gb] 0 0
    refine sq_ok rfl [(.lstore 5, 0, 0, 0), (.aload 4, 0, 0, 0), (.aload_n 1, 0, 0, 0), (.getfield 78, 1, 1, 0), (.iload_n 2, 0, 0, 0), (.iaload, 0, 0, 0), (.aload 4, 0, 0, 0), (.aload_n 1, 0, 0, 0), (.getfield 78, 1, 1, 0), (.iload_n 2, 0, 0, 0), (.iaload, 0, 0, 0), (.laload, 0, 0, 0), (.lload 5, 0, 0, 0)] 33 _ _ _ _ _ (by decide +kernel) ?_
    show ∃ j42 : Nat, mj 512 (kI (e : Int)) j42 ∧ ∃ j50 : Nat, mj 512 (kI (e : Int)) j50 ∧ ∃ j51 : Nat, mj 401 (kI ((to j50 : Nat) : Int)) j51 ∧ WM mX8_along 0 0 Post 17 54 [(0, .ref 0), (1, .ref 1), (2, vI (e : Int)), (3, .ref 15), (4, .ref 15), (5, vJ (((tnO (ga (fr e)) (te e)) : Nat) : Int))] [vJ (((tnO (ga (fr e)) (te e)) : Nat) : Int), vJ ((ga j51 : Nat) : Int), vI ((to j42 : Nat) : Int), .ref 15] [ob 8 [.ref 15, .ref 16, vZ ho], ob 1 [.ref 2, .ref 3, .ref 4, .ref 5, .ref 6, .ref 7, .ref 8, .ref 9, .ref 10, .ref 11, .ref 12, .ref 13, .ref 14, vI (nn : Int), vI (ne : Int), vI (nm : Int)], cN 512 fr, cN 512 to, cI 512 wo, cN 512 te, cZ 512 hv, cI 401 fo, cI 512 no, cN 16 mb, cN 16 mw, cI 16 ml, cN 16 ma, cI 16 sk, cN 17 bo, cK 401 ga, cK 401 gb] 0 0
    refine ⟨e, ⟨by omega, by omega, rfl⟩, ?_⟩
    refine ⟨e, ⟨by omega, by omega, rfl⟩, ?_⟩
    refine ⟨(to e), ⟨by omega, by omega, rfl⟩, ?_⟩
    refine wm_maxL (by unfold lR; omega) (by unfold lR; omega) (by decide +kernel) kX8_81 ⟨Nat.le_of_ble_eq_true rfl, Nat.le_of_ble_eq_true rfl⟩ ⟨Nat.le_of_ble_eq_true rfl, Nat.le_of_ble_eq_true rfl⟩ ?_
    rw [show (max ((ga (to e) : Nat) : Int) (((tnO (ga (fr e)) (te e)) : Nat) : Int)) = (((max (ga (to e)) (tnO (ga (fr e)) (te e))) : Nat) : Int) from by omega]
    show WM mX8_along 0 0 Post 17 57 [(0, .ref 0), (1, .ref 1), (2, vI (e : Int)), (3, .ref 15), (4, .ref 15), (5, vJ (((tnO (ga (fr e)) (te e)) : Nat) : Int))] [vJ (((max (ga (to e)) (tnO (ga (fr e)) (te e))) : Nat) : Int), vI ((to e : Nat) : Int), .ref 15] [ob 8 [.ref 15, .ref 16, vZ ho], ob 1 [.ref 2, .ref 3, .ref 4, .ref 5, .ref 6, .ref 7, .ref 8, .ref 9, .ref 10, .ref 11, .ref 12, .ref 13, .ref 14, vI (nn : Int), vI (ne : Int), vI (nm : Int)], cN 512 fr, cN 512 to, cI 512 wo, cN 512 te, cZ 512 hv, cI 401 fo, cI 512 no, cN 16 mb, cN 16 mw, cI 16 ml, cN 16 ma, cI 16 sk, cN 17 bo, cK 401 ga, cK 401 gb] 0 0
    refine sq_ok rfl [(.lastore, 0, 0, 0)] 57 _ _ _ _ _ (by decide +kernel) ?_
    show ∃ (j57 : Nat) (g57 : Nat → Int64), (mj 401 (kI ((to e : Nat) : Int)) j57 ∧ g57 = vp_updL (fun q => kL ((ga q : Nat) : Int)) j57 (kL (((max (ga (to e)) (tnO (ga (fr e)) (te e))) : Nat) : Int))) ∧ WM mX8_along 0 0 Post 17 58 [(0, .ref 0), (1, .ref 1), (2, vI (e : Int)), (3, .ref 15), (4, .ref 15), (5, vJ (((tnO (ga (fr e)) (te e)) : Nat) : Int))] [] [ob 8 [.ref 15, .ref 16, vZ ho], ob 1 [.ref 2, .ref 3, .ref 4, .ref 5, .ref 6, .ref 7, .ref 8, .ref 9, .ref 10, .ref 11, .ref 12, .ref 13, .ref 14, vI (nn : Int), vI (ne : Int), vI (nm : Int)], cN 512 fr, cN 512 to, cI 512 wo, cN 512 te, cZ 512 hv, cI 401 fo, cI 512 no, cN 16 mb, cN 16 mw, cI 16 ml, cN 16 ma, cI 16 sk, cN 17 bo, .inl (1, 401, .inr (.inl g57)), cK 401 gb] 0 0
    refine ⟨(to e), fun q => kL (((va_up ga (to e) (max (ga (to e)) (tnO (ga (fr e)) (te e)))) q : Nat) : Int), ⟨⟨by omega, by omega, rfl⟩, st_K (rfl)⟩, ?_⟩
    refine sq_ok rfl [(.return_, 0, 0, 0)] 58 _ _ _ _ _ (by decide +kernel) ?_
    show ((0 ≤ 0 ∧ 0 ≤ 0) ∧ Post none [ob 8 [.ref 15, .ref 16, vZ ho], ob 1 [.ref 2, .ref 3, .ref 4, .ref 5, .ref 6, .ref 7, .ref 8, .ref 9, .ref 10, .ref 11, .ref 12, .ref 13, .ref 14, vI (nn : Int), vI (ne : Int), vI (nm : Int)], cN 512 fr, cN 512 to, cI 512 wo, cN 512 te, cZ 512 hv, cI 401 fo, cI 512 no, cN 16 mb, cN 16 mw, cI 16 ml, cN 16 ma, cI 16 sk, cN 17 bo, cK 401 (va_up ga (to e) (max (ga (to e)) (tnO (ga (fr e)) (te e)))), cK 401 gb])
    refine ⟨⟨Nat.le_refl _, Nat.le_refl _⟩, hPo _ _ ?_⟩
    refine ⟨rfl, ?_⟩
    first
    | rw [show alO (alE ho hv e) (to e) (tnO (ga (fr e)) (te e)) ga = ga from if_neg (by rw [hal]; decide)]
    | rw [show alO (alE ho hv e) (to e) (tnO (ga (fr e)) (te e)) ga = va_up ga (to e) (max (ga (to e)) (tnO (ga (fr e)) (te e))) from if_pos hal]
  · 
    rw [bI_eq0, Bool.not_eq_false] at c4
    refine sq_ok rfl [(.aload_n 1, 0, 0, 0), (.getfield 64, 1, 4, 0), (.iload_n 2, 0, 0, 0), (.baload, 0, 0, 0), (.ifCond .eq 45, 0, 0, 0)] 7 _ _ _ _ _ (by decide +kernel) ?_
    show ∃ j12 : Nat, mj 512 (kI (e : Int)) j12 ∧ ((bI (hv j12)) = kI 0 → WM mX8_along 0 0 Post 17 58 [(0, .ref 0), (1, .ref 1), (2, vI (e : Int)), (3, .ref 15), (4, .ref 15)] [] [ob 8 [.ref 15, .ref 16, vZ ho], ob 1 [.ref 2, .ref 3, .ref 4, .ref 5, .ref 6, .ref 7, .ref 8, .ref 9, .ref 10, .ref 11, .ref 12, .ref 13, .ref 14, vI (nn : Int), vI (ne : Int), vI (nm : Int)], cN 512 fr, cN 512 to, cI 512 wo, cN 512 te, cZ 512 hv, cI 401 fo, cI 512 no, cN 16 mb, cN 16 mw, cI 16 ml, cN 16 ma, cI 16 sk, cN 17 bo, cK 401 ga, cK 401 gb] 0 0) ∧ (¬ (bI (hv j12)) = kI 0 → WM mX8_along 0 0 Post 17 16 [(0, .ref 0), (1, .ref 1), (2, vI (e : Int)), (3, .ref 15), (4, .ref 15)] [] [ob 8 [.ref 15, .ref 16, vZ ho], ob 1 [.ref 2, .ref 3, .ref 4, .ref 5, .ref 6, .ref 7, .ref 8, .ref 9, .ref 10, .ref 11, .ref 12, .ref 13, .ref 14, vI (nn : Int), vI (ne : Int), vI (nm : Int)], cN 512 fr, cN 512 to, cI 512 wo, cN 512 te, cZ 512 hv, cI 401 fo, cI 512 no, cN 16 mb, cN 16 mw, cI 16 ml, cN 16 ma, cI 16 sk, cN 17 bo, cK 401 ga, cK 401 gb] 0 0)
    refine ⟨e, ⟨by omega, by omega, rfl⟩, ?_⟩
    refine ⟨fun c13 => ?_, fun c13 => ?_⟩
    · 
      rw [bI_eq0] at c13
      have hal : alE ho hv e = false := by unfold alE; rw [c4, c13]; rfl
      refine sq_ok rfl [(.return_, 0, 0, 0)] 58 _ _ _ _ _ (by decide +kernel) ?_
      show ((0 ≤ 0 ∧ 0 ≤ 0) ∧ Post none [ob 8 [.ref 15, .ref 16, vZ ho], ob 1 [.ref 2, .ref 3, .ref 4, .ref 5, .ref 6, .ref 7, .ref 8, .ref 9, .ref 10, .ref 11, .ref 12, .ref 13, .ref 14, vI (nn : Int), vI (ne : Int), vI (nm : Int)], cN 512 fr, cN 512 to, cI 512 wo, cN 512 te, cZ 512 hv, cI 401 fo, cI 512 no, cN 16 mb, cN 16 mw, cI 16 ml, cN 16 ma, cI 16 sk, cN 17 bo, cK 401 ga, cK 401 gb])
      refine ⟨⟨Nat.le_refl _, Nat.le_refl _⟩, hPo _ _ ?_⟩
      refine ⟨rfl, ?_⟩
      first
      | rw [show alO (alE ho hv e) (to e) (tnO (ga (fr e)) (te e)) ga = ga from if_neg (by rw [hal]; decide)]
      | rw [show alO (alE ho hv e) (to e) (tnO (ga (fr e)) (te e)) ga = va_up ga (to e) (max (ga (to e)) (tnO (ga (fr e)) (te e))) from if_pos hal]
    · 
      rw [bI_eq0, Bool.not_eq_false] at c13
      have hal : alE ho hv e = true := by unfold alE; rw [c13, Bool.or_true]
      have htn := tnO_le (w := ga (fr e)) hte
      refine sq_ok rfl [(.aload_n 3, 0, 0, 0), (.aload_n 1, 0, 0, 0), (.getfield 68, 1, 0, 0), (.iload_n 2, 0, 0, 0), (.iaload, 0, 0, 0), (.laload, 0, 0, 0), (.aload_n 1, 0, 0, 0), (.getfield 71, 1, 3, 0), (.iload_n 2, 0, 0, 0), (.iaload, 0, 0, 0)] 16 _ _ _ _ _ (by decide +kernel) ?_
      show ∃ j22 : Nat, mj 512 (kI (e : Int)) j22 ∧ ∃ j23 : Nat, mj 401 (kI ((fr j22 : Nat) : Int)) j23 ∧ ∃ j29 : Nat, mj 512 (kI (e : Int)) j29 ∧ WM mX8_along 0 0 Post 17 30 [(0, .ref 0), (1, .ref 1), (2, vI (e : Int)), (3, .ref 15), (4, .ref 15)] [vI ((te j29 : Nat) : Int), vJ ((ga j23 : Nat) : Int)] [ob 8 [.ref 15, .ref 16, vZ ho], ob 1 [.ref 2, .ref 3, .ref 4, .ref 5, .ref 6, .ref 7, .ref 8, .ref 9, .ref 10, .ref 11, .ref 12, .ref 13, .ref 14, vI (nn : Int), vI (ne : Int), vI (nm : Int)], cN 512 fr, cN 512 to, cI 512 wo, cN 512 te, cZ 512 hv, cI 401 fo, cI 512 no, cN 16 mb, cN 16 mw, cI 16 ml, cN 16 ma, cI 16 sk, cN 17 bo, cK 401 ga, cK 401 gb] 0 0
      refine ⟨e, ⟨by omega, by omega, rfl⟩, ?_⟩
      refine ⟨(fr e), ⟨by omega, by omega, rfl⟩, ?_⟩
      refine ⟨e, ⟨by omega, by omega, rfl⟩, ?_⟩
      refine wm_callS (y := mX8_along) mX8_tenthsOf [] (pc := 30) (rest := []) (mc' := 0) (ms' := 0) (by decide +kernel) kX8_74 (c_X8_tenthsOf (ga (fr e)) (te e) hb hte) rfl ⟨Nat.le_of_ble_eq_true rfl, Nat.le_of_ble_eq_true rfl⟩ ⟨Nat.le_of_ble_eq_true rfl, Nat.le_of_ble_eq_true rfl⟩ (Nat.le_of_ble_eq_true rfl) rfl rfl (Nat.le_of_ble_eq_true rfl) rfl ?_
      rintro _ _ ⟨rfl, rfl⟩
      show WM mX8_along 0 0 Post 17 33 [(0, .ref 0), (1, .ref 1), (2, vI (e : Int)), (3, .ref 15), (4, .ref 15)] [vJ (((tnO (ga (fr e)) (te e)) : Nat) : Int)] [ob 8 [.ref 15, .ref 16, vZ ho], ob 1 [.ref 2, .ref 3, .ref 4, .ref 5, .ref 6, .ref 7, .ref 8, .ref 9, .ref 10, .ref 11, .ref 12, .ref 13, .ref 14, vI (nn : Int), vI (ne : Int), vI (nm : Int)], cN 512 fr, cN 512 to, cI 512 wo, cN 512 te, cZ 512 hv, cI 401 fo, cI 512 no, cN 16 mb, cN 16 mw, cI 16 ml, cN 16 ma, cI 16 sk, cN 17 bo, cK 401 ga, cK 401 gb] 0 0
      refine sq_ok rfl [(.lstore 5, 0, 0, 0), (.aload 4, 0, 0, 0), (.aload_n 1, 0, 0, 0), (.getfield 78, 1, 1, 0), (.iload_n 2, 0, 0, 0), (.iaload, 0, 0, 0), (.aload 4, 0, 0, 0), (.aload_n 1, 0, 0, 0), (.getfield 78, 1, 1, 0), (.iload_n 2, 0, 0, 0), (.iaload, 0, 0, 0), (.laload, 0, 0, 0), (.lload 5, 0, 0, 0)] 33 _ _ _ _ _ (by decide +kernel) ?_
      show ∃ j42 : Nat, mj 512 (kI (e : Int)) j42 ∧ ∃ j50 : Nat, mj 512 (kI (e : Int)) j50 ∧ ∃ j51 : Nat, mj 401 (kI ((to j50 : Nat) : Int)) j51 ∧ WM mX8_along 0 0 Post 17 54 [(0, .ref 0), (1, .ref 1), (2, vI (e : Int)), (3, .ref 15), (4, .ref 15), (5, vJ (((tnO (ga (fr e)) (te e)) : Nat) : Int))] [vJ (((tnO (ga (fr e)) (te e)) : Nat) : Int), vJ ((ga j51 : Nat) : Int), vI ((to j42 : Nat) : Int), .ref 15] [ob 8 [.ref 15, .ref 16, vZ ho], ob 1 [.ref 2, .ref 3, .ref 4, .ref 5, .ref 6, .ref 7, .ref 8, .ref 9, .ref 10, .ref 11, .ref 12, .ref 13, .ref 14, vI (nn : Int), vI (ne : Int), vI (nm : Int)], cN 512 fr, cN 512 to, cI 512 wo, cN 512 te, cZ 512 hv, cI 401 fo, cI 512 no, cN 16 mb, cN 16 mw, cI 16 ml, cN 16 ma, cI 16 sk, cN 17 bo, cK 401 ga, cK 401 gb] 0 0
      refine ⟨e, ⟨by omega, by omega, rfl⟩, ?_⟩
      refine ⟨e, ⟨by omega, by omega, rfl⟩, ?_⟩
      refine ⟨(to e), ⟨by omega, by omega, rfl⟩, ?_⟩
      refine wm_maxL (by unfold lR; omega) (by unfold lR; omega) (by decide +kernel) kX8_81 ⟨Nat.le_of_ble_eq_true rfl, Nat.le_of_ble_eq_true rfl⟩ ⟨Nat.le_of_ble_eq_true rfl, Nat.le_of_ble_eq_true rfl⟩ ?_
      rw [show (max ((ga (to e) : Nat) : Int) (((tnO (ga (fr e)) (te e)) : Nat) : Int)) = (((max (ga (to e)) (tnO (ga (fr e)) (te e))) : Nat) : Int) from by omega]
      show WM mX8_along 0 0 Post 17 57 [(0, .ref 0), (1, .ref 1), (2, vI (e : Int)), (3, .ref 15), (4, .ref 15), (5, vJ (((tnO (ga (fr e)) (te e)) : Nat) : Int))] [vJ (((max (ga (to e)) (tnO (ga (fr e)) (te e))) : Nat) : Int), vI ((to e : Nat) : Int), .ref 15] [ob 8 [.ref 15, .ref 16, vZ ho], ob 1 [.ref 2, .ref 3, .ref 4, .ref 5, .ref 6, .ref 7, .ref 8, .ref 9, .ref 10, .ref 11, .ref 12, .ref 13, .ref 14, vI (nn : Int), vI (ne : Int), vI (nm : Int)], cN 512 fr, cN 512 to, cI 512 wo, cN 512 te, cZ 512 hv, cI 401 fo, cI 512 no, cN 16 mb, cN 16 mw, cI 16 ml, cN 16 ma, cI 16 sk, cN 17 bo, cK 401 ga, cK 401 gb] 0 0
      refine sq_ok rfl [(.lastore, 0, 0, 0)] 57 _ _ _ _ _ (by decide +kernel) ?_
      show ∃ (j57 : Nat) (g57 : Nat → Int64), (mj 401 (kI ((to e : Nat) : Int)) j57 ∧ g57 = vp_updL (fun q => kL ((ga q : Nat) : Int)) j57 (kL (((max (ga (to e)) (tnO (ga (fr e)) (te e))) : Nat) : Int))) ∧ WM mX8_along 0 0 Post 17 58 [(0, .ref 0), (1, .ref 1), (2, vI (e : Int)), (3, .ref 15), (4, .ref 15), (5, vJ (((tnO (ga (fr e)) (te e)) : Nat) : Int))] [] [ob 8 [.ref 15, .ref 16, vZ ho], ob 1 [.ref 2, .ref 3, .ref 4, .ref 5, .ref 6, .ref 7, .ref 8, .ref 9, .ref 10, .ref 11, .ref 12, .ref 13, .ref 14, vI (nn : Int), vI (ne : Int), vI (nm : Int)], cN 512 fr, cN 512 to, cI 512 wo, cN 512 te, cZ 512 hv, cI 401 fo, cI 512 no, cN 16 mb, cN 16 mw, cI 16 ml, cN 16 ma, cI 16 sk, cN 17 bo, .inl (1, 401, .inr (.inl g57)), cK 401 gb] 0 0
      refine ⟨(to e), fun q => kL (((va_up ga (to e) (max (ga (to e)) (tnO (ga (fr e)) (te e)))) q : Nat) : Int), ⟨⟨by omega, by omega, rfl⟩, st_K (rfl)⟩, ?_⟩
      refine sq_ok rfl [(.return_, 0, 0, 0)] 58 _ _ _ _ _ (by decide +kernel) ?_
      show ((0 ≤ 0 ∧ 0 ≤ 0) ∧ Post none [ob 8 [.ref 15, .ref 16, vZ ho], ob 1 [.ref 2, .ref 3, .ref 4, .ref 5, .ref 6, .ref 7, .ref 8, .ref 9, .ref 10, .ref 11, .ref 12, .ref 13, .ref 14, vI (nn : Int), vI (ne : Int), vI (nm : Int)], cN 512 fr, cN 512 to, cI 512 wo, cN 512 te, cZ 512 hv, cI 401 fo, cI 512 no, cN 16 mb, cN 16 mw, cI 16 ml, cN 16 ma, cI 16 sk, cN 17 bo, cK 401 (va_up ga (to e) (max (ga (to e)) (tnO (ga (fr e)) (te e)))), cK 401 gb])
      refine ⟨⟨Nat.le_refl _, Nat.le_refl _⟩, hPo _ _ ?_⟩
      refine ⟨rfl, ?_⟩
      first
      | rw [show alO (alE ho hv e) (to e) (tnO (ga (fr e)) (te e)) ga = ga from if_neg (by rw [hal]; decide)]
      | rw [show alO (alE ho hv e) (to e) (tnO (ga (fr e)) (te e)) ga = va_up ga (to e) (max (ga (to e)) (tnO (ga (fr e)) (te e))) from if_pos hal]

set_option maxRecDepth 100000 in
set_option maxHeartbeats 500000 in
theorem c_X8_alongB (ga gb : Nat → Nat) (ho : Bool) (fr to : Nat → Nat) (wo : Nat → Int) (te : Nat → Nat) (hv : Nat → Bool) (fo no : Nat → Int) (mb mw : Nat → Nat) (ml : Nat → Int) (ma : Nat → Nat) (sk : Nat → Int) (bo : Nat → Nat) (nn ne nm : Nat) (e : Nat) (he : e < 512) (hfr : fr e < 401) (hto : to e < 401) (hte : te e ≤ 10) (hb : gb (fr e) ≤ 10000000000000000) (hh : gb (to e) ≤ 10000000000000000) : CT mX8_along 0 0 [.ref 0, .ref 1, vI (e : Int), .ref 16, .ref 16] [ob 8 [.ref 15, .ref 16, vZ ho], ob 1 [.ref 2, .ref 3, .ref 4, .ref 5, .ref 6, .ref 7, .ref 8, .ref 9, .ref 10, .ref 11, .ref 12, .ref 13, .ref 14, vI (nn : Int), vI (ne : Int), vI (nm : Int)], cN 512 fr, cN 512 to, cI 512 wo, cN 512 te, cZ 512 hv, cI 401 fo, cI 512 no, cN 16 mb, cN 16 mw, cI 16 ml, cN 16 ma, cI 16 sk, cN 17 bo, cK 401 ga, cK 401 gb] (fun r w => r = none ∧ w = [ob 8 [.ref 15, .ref 16, vZ ho], ob 1 [.ref 2, .ref 3, .ref 4, .ref 5, .ref 6, .ref 7, .ref 8, .ref 9, .ref 10, .ref 11, .ref 12, .ref 13, .ref 14, vI (nn : Int), vI (ne : Int), vI (nm : Int)], cN 512 fr, cN 512 to, cI 512 wo, cN 512 te, cZ 512 hv, cI 401 fo, cI 512 no, cN 16 mb, cN 16 mw, cI 16 ml, cN 16 ma, cI 16 sk, cN 17 bo, cK 401 ga, cK 401 (alO (alE ho hv e) (to e) (tnO (gb (fr e)) (te e)) gb)]) := by
  refine CT.intro rfl (Nat.le_of_ble_eq_true rfl) ?_
  generalize hPost : (fun r w => r = none ∧ w = [ob 8 [.ref 15, .ref 16, vZ ho], ob 1 [.ref 2, .ref 3, .ref 4, .ref 5, .ref 6, .ref 7, .ref 8, .ref 9, .ref 10, .ref 11, .ref 12, .ref 13, .ref 14, vI (nn : Int), vI (ne : Int), vI (nm : Int)], cN 512 fr, cN 512 to, cI 512 wo, cN 512 te, cZ 512 hv, cI 401 fo, cI 512 no, cN 16 mb, cN 16 mw, cI 16 ml, cN 16 ma, cI 16 sk, cN 17 bo, cK 401 ga, cK 401 (alO (alE ho hv e) (to e) (tnO (gb (fr e)) (te e)) gb)] : MP) = Post
  have hPo : ∀ rr ww, (fun r w => r = none ∧ w = [ob 8 [.ref 15, .ref 16, vZ ho], ob 1 [.ref 2, .ref 3, .ref 4, .ref 5, .ref 6, .ref 7, .ref 8, .ref 9, .ref 10, .ref 11, .ref 12, .ref 13, .ref 14, vI (nn : Int), vI (ne : Int), vI (nm : Int)], cN 512 fr, cN 512 to, cI 512 wo, cN 512 te, cZ 512 hv, cI 401 fo, cI 512 no, cN 16 mb, cN 16 mw, cI 16 ml, cN 16 ma, cI 16 sk, cN 17 bo, cK 401 ga, cK 401 (alO (alE ho hv e) (to e) (tnO (gb (fr e)) (te e)) gb)] : MP) rr ww → Post rr ww := by rw [← hPost]; exact fun _ _ h => h
  clear hPost
  show WM mX8_along 0 0 Post 17 0 [(0, .ref 0), (1, .ref 1), (2, vI (e : Int)), (3, .ref 16), (4, .ref 16)] [] [ob 8 [.ref 15, .ref 16, vZ ho], ob 1 [.ref 2, .ref 3, .ref 4, .ref 5, .ref 6, .ref 7, .ref 8, .ref 9, .ref 10, .ref 11, .ref 12, .ref 13, .ref 14, vI (nn : Int), vI (ne : Int), vI (nm : Int)], cN 512 fr, cN 512 to, cI 512 wo, cN 512 te, cZ 512 hv, cI 401 fo, cI 512 no, cN 16 mb, cN 16 mw, cI 16 ml, cN 16 ma, cI 16 sk, cN 17 bo, cK 401 ga, cK 401 gb] 0 0
  refine sq_ok rfl [(.aload_n 0, 0, 0, 0), (.getfield 18, 8, 2, 0), (.ifCond .eq 12, 0, 0, 0)] 0 _ _ _ _ _ (by decide +kernel) ?_
  show ((bI ho) = kI 0 → WM mX8_along 0 0 Post 17 16 [(0, .ref 0), (1, .ref 1), (2, vI (e : Int)), (3, .ref 16), (4, .ref 16)] [] [ob 8 [.ref 15, .ref 16, vZ ho], ob 1 [.ref 2, .ref 3, .ref 4, .ref 5, .ref 6, .ref 7, .ref 8, .ref 9, .ref 10, .ref 11, .ref 12, .ref 13, .ref 14, vI (nn : Int), vI (ne : Int), vI (nm : Int)], cN 512 fr, cN 512 to, cI 512 wo, cN 512 te, cZ 512 hv, cI 401 fo, cI 512 no, cN 16 mb, cN 16 mw, cI 16 ml, cN 16 ma, cI 16 sk, cN 17 bo, cK 401 ga, cK 401 gb] 0 0) ∧ (¬ (bI ho) = kI 0 → WM mX8_along 0 0 Post 17 7 [(0, .ref 0), (1, .ref 1), (2, vI (e : Int)), (3, .ref 16), (4, .ref 16)] [] [ob 8 [.ref 15, .ref 16, vZ ho], ob 1 [.ref 2, .ref 3, .ref 4, .ref 5, .ref 6, .ref 7, .ref 8, .ref 9, .ref 10, .ref 11, .ref 12, .ref 13, .ref 14, vI (nn : Int), vI (ne : Int), vI (nm : Int)], cN 512 fr, cN 512 to, cI 512 wo, cN 512 te, cZ 512 hv, cI 401 fo, cI 512 no, cN 16 mb, cN 16 mw, cI 16 ml, cN 16 ma, cI 16 sk, cN 17 bo, cK 401 ga, cK 401 gb] 0 0)
  refine ⟨fun c4 => ?_, fun c4 => ?_⟩
  · 
    rw [bI_eq0] at c4
    have hal : alE ho hv e = true := by unfold alE; rw [c4]; rfl
    have htn := tnO_le (w := gb (fr e)) hte
    refine sq_ok rfl [(.aload_n 3, 0, 0, 0), (.aload_n 1, 0, 0, 0), (.getfield 68, 1, 0, 0), (.iload_n 2, 0, 0, 0), (.iaload, 0, 0, 0), (.laload, 0, 0, 0), (.aload_n 1, 0, 0, 0), (.getfield 71, 1, 3, 0), (.iload_n 2, 0, 0, 0), (.iaload, 0, 0, 0)] 16 _ _ _ _ _ (by decide +kernel) ?_
    show ∃ j22 : Nat, mj 512 (kI (e : Int)) j22 ∧ ∃ j23 : Nat, mj 401 (kI ((fr j22 : Nat) : Int)) j23 ∧ ∃ j29 : Nat, mj 512 (kI (e : Int)) j29 ∧ WM mX8_along 0 0 Post 17 30 [(0, .ref 0), (1, .ref 1), (2, vI (e : Int)), (3, .ref 16), (4, .ref 16)] [vI ((te j29 : Nat) : Int), vJ ((gb j23 : Nat) : Int)] [ob 8 [.ref 15, .ref 16, vZ ho], ob 1 [.ref 2, .ref 3, .ref 4, .ref 5, .ref 6, .ref 7, .ref 8, .ref 9, .ref 10, .ref 11, .ref 12, .ref 13, .ref 14, vI (nn : Int), vI (ne : Int), vI (nm : Int)], cN 512 fr, cN 512 to, cI 512 wo, cN 512 te, cZ 512 hv, cI 401 fo, cI 512 no, cN 16 mb, cN 16 mw, cI 16 ml, cN 16 ma, cI 16 sk, cN 17 bo, cK 401 ga, cK 401 gb] 0 0
    refine ⟨e, ⟨by omega, by omega, rfl⟩, ?_⟩
    refine ⟨(fr e), ⟨by omega, by omega, rfl⟩, ?_⟩
    refine ⟨e, ⟨by omega, by omega, rfl⟩, ?_⟩
    refine wm_callS (y := mX8_along) mX8_tenthsOf [] (pc := 30) (rest := []) (mc' := 0) (ms' := 0) (by decide +kernel) kX8_74 (c_X8_tenthsOf (gb (fr e)) (te e) hb hte) rfl ⟨Nat.le_of_ble_eq_true rfl, Nat.le_of_ble_eq_true rfl⟩ ⟨Nat.le_of_ble_eq_true rfl, Nat.le_of_ble_eq_true rfl⟩ (Nat.le_of_ble_eq_true rfl) rfl rfl (Nat.le_of_ble_eq_true rfl) rfl ?_
    rintro _ _ ⟨rfl, rfl⟩
    show WM mX8_along 0 0 Post 17 33 [(0, .ref 0), (1, .ref 1), (2, vI (e : Int)), (3, .ref 16), (4, .ref 16)] [vJ (((tnO (gb (fr e)) (te e)) : Nat) : Int)] [ob 8 [.ref 15, .ref 16, vZ ho], ob 1 [.ref 2, .ref 3, .ref 4, .ref 5, .ref 6, .ref 7, .ref 8, .ref 9, .ref 10, .ref 11, .ref 12, .ref 13, .ref 14, vI (nn : Int), vI (ne : Int), vI (nm : Int)], cN 512 fr, cN 512 to, cI 512 wo, cN 512 te, cZ 512 hv, cI 401 fo, cI 512 no, cN 16 mb, cN 16 mw, cI 16 ml, cN 16 ma, cI 16 sk, cN 17 bo, cK 401 ga, cK 401 gb] 0 0
    refine sq_ok rfl [(.lstore 5, 0, 0, 0), (.aload 4, 0, 0, 0), (.aload_n 1, 0, 0, 0), (.getfield 78, 1, 1, 0), (.iload_n 2, 0, 0, 0), (.iaload, 0, 0, 0), (.aload 4, 0, 0, 0), (.aload_n 1, 0, 0, 0), (.getfield 78, 1, 1, 0), (.iload_n 2, 0, 0, 0), (.iaload, 0, 0, 0), (.laload, 0, 0, 0), (.lload 5, 0, 0, 0)] 33 _ _ _ _ _ (by decide +kernel) ?_
    show ∃ j42 : Nat, mj 512 (kI (e : Int)) j42 ∧ ∃ j50 : Nat, mj 512 (kI (e : Int)) j50 ∧ ∃ j51 : Nat, mj 401 (kI ((to j50 : Nat) : Int)) j51 ∧ WM mX8_along 0 0 Post 17 54 [(0, .ref 0), (1, .ref 1), (2, vI (e : Int)), (3, .ref 16), (4, .ref 16), (5, vJ (((tnO (gb (fr e)) (te e)) : Nat) : Int))] [vJ (((tnO (gb (fr e)) (te e)) : Nat) : Int), vJ ((gb j51 : Nat) : Int), vI ((to j42 : Nat) : Int), .ref 16] [ob 8 [.ref 15, .ref 16, vZ ho], ob 1 [.ref 2, .ref 3, .ref 4, .ref 5, .ref 6, .ref 7, .ref 8, .ref 9, .ref 10, .ref 11, .ref 12, .ref 13, .ref 14, vI (nn : Int), vI (ne : Int), vI (nm : Int)], cN 512 fr, cN 512 to, cI 512 wo, cN 512 te, cZ 512 hv, cI 401 fo, cI 512 no, cN 16 mb, cN 16 mw, cI 16 ml, cN 16 ma, cI 16 sk, cN 17 bo, cK 401 ga, cK 401 gb] 0 0
    refine ⟨e, ⟨by omega, by omega, rfl⟩, ?_⟩
    refine ⟨e, ⟨by omega, by omega, rfl⟩, ?_⟩
    refine ⟨(to e), ⟨by omega, by omega, rfl⟩, ?_⟩
    refine wm_maxL (by unfold lR; omega) (by unfold lR; omega) (by decide +kernel) kX8_81 ⟨Nat.le_of_ble_eq_true rfl, Nat.le_of_ble_eq_true rfl⟩ ⟨Nat.le_of_ble_eq_true rfl, Nat.le_of_ble_eq_true rfl⟩ ?_
    rw [show (max ((gb (to e) : Nat) : Int) (((tnO (gb (fr e)) (te e)) : Nat) : Int)) = (((max (gb (to e)) (tnO (gb (fr e)) (te e))) : Nat) : Int) from by omega]
    show WM mX8_along 0 0 Post 17 57 [(0, .ref 0), (1, .ref 1), (2, vI (e : Int)), (3, .ref 16), (4, .ref 16), (5, vJ (((tnO (gb (fr e)) (te e)) : Nat) : Int))] [vJ (((max (gb (to e)) (tnO (gb (fr e)) (te e))) : Nat) : Int), vI ((to e : Nat) : Int), .ref 16] [ob 8 [.ref 15, .ref 16, vZ ho], ob 1 [.ref 2, .ref 3, .ref 4, .ref 5, .ref 6, .ref 7, .ref 8, .ref 9, .ref 10, .ref 11, .ref 12, .ref 13, .ref 14, vI (nn : Int), vI (ne : Int), vI (nm : Int)], cN 512 fr, cN 512 to, cI 512 wo, cN 512 te, cZ 512 hv, cI 401 fo, cI 512 no, cN 16 mb, cN 16 mw, cI 16 ml, cN 16 ma, cI 16 sk, cN 17 bo, cK 401 ga, cK 401 gb] 0 0
    refine sq_ok rfl [(.lastore, 0, 0, 0)] 57 _ _ _ _ _ (by decide +kernel) ?_
    show ∃ (j57 : Nat) (g57 : Nat → Int64), (mj 401 (kI ((to e : Nat) : Int)) j57 ∧ g57 = vp_updL (fun q => kL ((gb q : Nat) : Int)) j57 (kL (((max (gb (to e)) (tnO (gb (fr e)) (te e))) : Nat) : Int))) ∧ WM mX8_along 0 0 Post 17 58 [(0, .ref 0), (1, .ref 1), (2, vI (e : Int)), (3, .ref 16), (4, .ref 16), (5, vJ (((tnO (gb (fr e)) (te e)) : Nat) : Int))] [] [ob 8 [.ref 15, .ref 16, vZ ho], ob 1 [.ref 2, .ref 3, .ref 4, .ref 5, .ref 6, .ref 7, .ref 8, .ref 9, .ref 10, .ref 11, .ref 12, .ref 13, .ref 14, vI (nn : Int), vI (ne : Int), vI (nm : Int)], cN 512 fr, cN 512 to, cI 512 wo, cN 512 te, cZ 512 hv, cI 401 fo, cI 512 no, cN 16 mb, cN 16 mw, cI 16 ml, cN 16 ma, cI 16 sk, cN 17 bo, cK 401 ga, .inl (1, 401, .inr (.inl g57))] 0 0
    refine ⟨(to e), fun q => kL (((va_up gb (to e) (max (gb (to e)) (tnO (gb (fr e)) (te e)))) q : Nat) : Int), ⟨⟨by omega, by omega, rfl⟩, st_K (rfl)⟩, ?_⟩
    refine sq_ok rfl [(.return_, 0, 0, 0)] 58 _ _ _ _ _ (by decide +kernel) ?_
    show ((0 ≤ 0 ∧ 0 ≤ 0) ∧ Post none [ob 8 [.ref 15, .ref 16, vZ ho], ob 1 [.ref 2, .ref 3, .ref 4, .ref 5, .ref 6, .ref 7, .ref 8, .ref 9, .ref 10, .ref 11, .ref 12, .ref 13, .ref 14, vI (nn : Int), vI (ne : Int), vI (nm : Int)], cN 512 fr, cN 512 to, cI 512 wo, cN 512 te, cZ 512 hv, cI 401 fo, cI 512 no, cN 16 mb, cN 16 mw, cI 16 ml, cN 16 ma, cI 16 sk, cN 17 bo, cK 401 ga, cK 401 (va_up gb (to e) (max (gb (to e)) (tnO (gb (fr e)) (te e))))])
    refine ⟨⟨Nat.le_refl _, Nat.le_refl _⟩, hPo _ _ ?_⟩
    refine ⟨rfl, ?_⟩
    first
    | rw [show alO (alE ho hv e) (to e) (tnO (gb (fr e)) (te e)) gb = gb from if_neg (by rw [hal]; decide)]
    | rw [show alO (alE ho hv e) (to e) (tnO (gb (fr e)) (te e)) gb = va_up gb (to e) (max (gb (to e)) (tnO (gb (fr e)) (te e))) from if_pos hal]
  · 
    rw [bI_eq0, Bool.not_eq_false] at c4
    refine sq_ok rfl [(.aload_n 1, 0, 0, 0), (.getfield 64, 1, 4, 0), (.iload_n 2, 0, 0, 0), (.baload, 0, 0, 0), (.ifCond .eq 45, 0, 0, 0)] 7 _ _ _ _ _ (by decide +kernel) ?_
    show ∃ j12 : Nat, mj 512 (kI (e : Int)) j12 ∧ ((bI (hv j12)) = kI 0 → WM mX8_along 0 0 Post 17 58 [(0, .ref 0), (1, .ref 1), (2, vI (e : Int)), (3, .ref 16), (4, .ref 16)] [] [ob 8 [.ref 15, .ref 16, vZ ho], ob 1 [.ref 2, .ref 3, .ref 4, .ref 5, .ref 6, .ref 7, .ref 8, .ref 9, .ref 10, .ref 11, .ref 12, .ref 13, .ref 14, vI (nn : Int), vI (ne : Int), vI (nm : Int)], cN 512 fr, cN 512 to, cI 512 wo, cN 512 te, cZ 512 hv, cI 401 fo, cI 512 no, cN 16 mb, cN 16 mw, cI 16 ml, cN 16 ma, cI 16 sk, cN 17 bo, cK 401 ga, cK 401 gb] 0 0) ∧ (¬ (bI (hv j12)) = kI 0 → WM mX8_along 0 0 Post 17 16 [(0, .ref 0), (1, .ref 1), (2, vI (e : Int)), (3, .ref 16), (4, .ref 16)] [] [ob 8 [.ref 15, .ref 16, vZ ho], ob 1 [.ref 2, .ref 3, .ref 4, .ref 5, .ref 6, .ref 7, .ref 8, .ref 9, .ref 10, .ref 11, .ref 12, .ref 13, .ref 14, vI (nn : Int), vI (ne : Int), vI (nm : Int)], cN 512 fr, cN 512 to, cI 512 wo, cN 512 te, cZ 512 hv, cI 401 fo, cI 512 no, cN 16 mb, cN 16 mw, cI 16 ml, cN 16 ma, cI 16 sk, cN 17 bo, cK 401 ga, cK 401 gb] 0 0)
    refine ⟨e, ⟨by omega, by omega, rfl⟩, ?_⟩
    refine ⟨fun c13 => ?_, fun c13 => ?_⟩
    · 
      rw [bI_eq0] at c13
      have hal : alE ho hv e = false := by unfold alE; rw [c4, c13]; rfl
      refine sq_ok rfl [(.return_, 0, 0, 0)] 58 _ _ _ _ _ (by decide +kernel) ?_
      show ((0 ≤ 0 ∧ 0 ≤ 0) ∧ Post none [ob 8 [.ref 15, .ref 16, vZ ho], ob 1 [.ref 2, .ref 3, .ref 4, .ref 5, .ref 6, .ref 7, .ref 8, .ref 9, .ref 10, .ref 11, .ref 12, .ref 13, .ref 14, vI (nn : Int), vI (ne : Int), vI (nm : Int)], cN 512 fr, cN 512 to, cI 512 wo, cN 512 te, cZ 512 hv, cI 401 fo, cI 512 no, cN 16 mb, cN 16 mw, cI 16 ml, cN 16 ma, cI 16 sk, cN 17 bo, cK 401 ga, cK 401 gb])
      refine ⟨⟨Nat.le_refl _, Nat.le_refl _⟩, hPo _ _ ?_⟩
      refine ⟨rfl, ?_⟩
      first
      | rw [show alO (alE ho hv e) (to e) (tnO (gb (fr e)) (te e)) gb = gb from if_neg (by rw [hal]; decide)]
      | rw [show alO (alE ho hv e) (to e) (tnO (gb (fr e)) (te e)) gb = va_up gb (to e) (max (gb (to e)) (tnO (gb (fr e)) (te e))) from if_pos hal]
    · 
      rw [bI_eq0, Bool.not_eq_false] at c13
      have hal : alE ho hv e = true := by unfold alE; rw [c13, Bool.or_true]
      have htn := tnO_le (w := gb (fr e)) hte
      refine sq_ok rfl [(.aload_n 3, 0, 0, 0), (.aload_n 1, 0, 0, 0), (.getfield 68, 1, 0, 0), (.iload_n 2, 0, 0, 0), (.iaload, 0, 0, 0), (.laload, 0, 0, 0), (.aload_n 1, 0, 0, 0), (.getfield 71, 1, 3, 0), (.iload_n 2, 0, 0, 0), (.iaload, 0, 0, 0)] 16 _ _ _ _ _ (by decide +kernel) ?_
      show ∃ j22 : Nat, mj 512 (kI (e : Int)) j22 ∧ ∃ j23 : Nat, mj 401 (kI ((fr j22 : Nat) : Int)) j23 ∧ ∃ j29 : Nat, mj 512 (kI (e : Int)) j29 ∧ WM mX8_along 0 0 Post 17 30 [(0, .ref 0), (1, .ref 1), (2, vI (e : Int)), (3, .ref 16), (4, .ref 16)] [vI ((te j29 : Nat) : Int), vJ ((gb j23 : Nat) : Int)] [ob 8 [.ref 15, .ref 16, vZ ho], ob 1 [.ref 2, .ref 3, .ref 4, .ref 5, .ref 6, .ref 7, .ref 8, .ref 9, .ref 10, .ref 11, .ref 12, .ref 13, .ref 14, vI (nn : Int), vI (ne : Int), vI (nm : Int)], cN 512 fr, cN 512 to, cI 512 wo, cN 512 te, cZ 512 hv, cI 401 fo, cI 512 no, cN 16 mb, cN 16 mw, cI 16 ml, cN 16 ma, cI 16 sk, cN 17 bo, cK 401 ga, cK 401 gb] 0 0
      refine ⟨e, ⟨by omega, by omega, rfl⟩, ?_⟩
      refine ⟨(fr e), ⟨by omega, by omega, rfl⟩, ?_⟩
      refine ⟨e, ⟨by omega, by omega, rfl⟩, ?_⟩
      refine wm_callS (y := mX8_along) mX8_tenthsOf [] (pc := 30) (rest := []) (mc' := 0) (ms' := 0) (by decide +kernel) kX8_74 (c_X8_tenthsOf (gb (fr e)) (te e) hb hte) rfl ⟨Nat.le_of_ble_eq_true rfl, Nat.le_of_ble_eq_true rfl⟩ ⟨Nat.le_of_ble_eq_true rfl, Nat.le_of_ble_eq_true rfl⟩ (Nat.le_of_ble_eq_true rfl) rfl rfl (Nat.le_of_ble_eq_true rfl) rfl ?_
      rintro _ _ ⟨rfl, rfl⟩
      show WM mX8_along 0 0 Post 17 33 [(0, .ref 0), (1, .ref 1), (2, vI (e : Int)), (3, .ref 16), (4, .ref 16)] [vJ (((tnO (gb (fr e)) (te e)) : Nat) : Int)] [ob 8 [.ref 15, .ref 16, vZ ho], ob 1 [.ref 2, .ref 3, .ref 4, .ref 5, .ref 6, .ref 7, .ref 8, .ref 9, .ref 10, .ref 11, .ref 12, .ref 13, .ref 14, vI (nn : Int), vI (ne : Int), vI (nm : Int)], cN 512 fr, cN 512 to, cI 512 wo, cN 512 te, cZ 512 hv, cI 401 fo, cI 512 no, cN 16 mb, cN 16 mw, cI 16 ml, cN 16 ma, cI 16 sk, cN 17 bo, cK 401 ga, cK 401 gb] 0 0
      refine sq_ok rfl [(.lstore 5, 0, 0, 0), (.aload 4, 0, 0, 0), (.aload_n 1, 0, 0, 0), (.getfield 78, 1, 1, 0), (.iload_n 2, 0, 0, 0), (.iaload, 0, 0, 0), (.aload 4, 0, 0, 0), (.aload_n 1, 0, 0, 0), (.getfield 78, 1, 1, 0), (.iload_n 2, 0, 0, 0), (.iaload, 0, 0, 0), (.laload, 0, 0, 0), (.lload 5, 0, 0, 0)] 33 _ _ _ _ _ (by decide +kernel) ?_
      show ∃ j42 : Nat, mj 512 (kI (e : Int)) j42 ∧ ∃ j50 : Nat, mj 512 (kI (e : Int)) j50 ∧ ∃ j51 : Nat, mj 401 (kI ((to j50 : Nat) : Int)) j51 ∧ WM mX8_along 0 0 Post 17 54 [(0, .ref 0), (1, .ref 1), (2, vI (e : Int)), (3, .ref 16), (4, .ref 16), (5, vJ (((tnO (gb (fr e)) (te e)) : Nat) : Int))] [vJ (((tnO (gb (fr e)) (te e)) : Nat) : Int), vJ ((gb j51 : Nat) : Int), vI ((to j42 : Nat) : Int), .ref 16] [ob 8 [.ref 15, .ref 16, vZ ho], ob 1 [.ref 2, .ref 3, .ref 4, .ref 5, .ref 6, .ref 7, .ref 8, .ref 9, .ref 10, .ref 11, .ref 12, .ref 13, .ref 14, vI (nn : Int), vI (ne : Int), vI (nm : Int)], cN 512 fr, cN 512 to, cI 512 wo, cN 512 te, cZ 512 hv, cI 401 fo, cI 512 no, cN 16 mb, cN 16 mw, cI 16 ml, cN 16 ma, cI 16 sk, cN 17 bo, cK 401 ga, cK 401 gb] 0 0
      refine ⟨e, ⟨by omega, by omega, rfl⟩, ?_⟩
      refine ⟨e, ⟨by omega, by omega, rfl⟩, ?_⟩
      refine ⟨(to e), ⟨by omega, by omega, rfl⟩, ?_⟩
      refine wm_maxL (by unfold lR; omega) (by unfold lR; omega) (by decide +kernel) kX8_81 ⟨Nat.le_of_ble_eq_true rfl, Nat.le_of_ble_eq_true rfl⟩ ⟨Nat.le_of_ble_eq_true rfl, Nat.le_of_ble_eq_true rfl⟩ ?_
      rw [show (max ((gb (to e) : Nat) : Int) (((tnO (gb (fr e)) (te e)) : Nat) : Int)) = (((max (gb (to e)) (tnO (gb (fr e)) (te e))) : Nat) : Int) from by omega]
      show WM mX8_along 0 0 Post 17 57 [(0, .ref 0), (1, .ref 1), (2, vI (e : Int)), (3, .ref 16), (4, .ref 16), (5, vJ (((tnO (gb (fr e)) (te e)) : Nat) : Int))] [vJ (((max (gb (to e)) (tnO (gb (fr e)) (te e))) : Nat) : Int), vI ((to e : Nat) : Int), .ref 16] [ob 8 [.ref 15, .ref 16, vZ ho], ob 1 [.ref 2, .ref 3, .ref 4, .ref 5, .ref 6, .ref 7, .ref 8, .ref 9, .ref 10, .ref 11, .ref 12, .ref 13, .ref 14, vI (nn : Int), vI (ne : Int), vI (nm : Int)], cN 512 fr, cN 512 to, cI 512 wo, cN 512 te, cZ 512 hv, cI 401 fo, cI 512 no, cN 16 mb, cN 16 mw, cI 16 ml, cN 16 ma, cI 16 sk, cN 17 bo, cK 401 ga, cK 401 gb] 0 0
      refine sq_ok rfl [(.lastore, 0, 0, 0)] 57 _ _ _ _ _ (by decide +kernel) ?_
      show ∃ (j57 : Nat) (g57 : Nat → Int64), (mj 401 (kI ((to e : Nat) : Int)) j57 ∧ g57 = vp_updL (fun q => kL ((gb q : Nat) : Int)) j57 (kL (((max (gb (to e)) (tnO (gb (fr e)) (te e))) : Nat) : Int))) ∧ WM mX8_along 0 0 Post 17 58 [(0, .ref 0), (1, .ref 1), (2, vI (e : Int)), (3, .ref 16), (4, .ref 16), (5, vJ (((tnO (gb (fr e)) (te e)) : Nat) : Int))] [] [ob 8 [.ref 15, .ref 16, vZ ho], ob 1 [.ref 2, .ref 3, .ref 4, .ref 5, .ref 6, .ref 7, .ref 8, .ref 9, .ref 10, .ref 11, .ref 12, .ref 13, .ref 14, vI (nn : Int), vI (ne : Int), vI (nm : Int)], cN 512 fr, cN 512 to, cI 512 wo, cN 512 te, cZ 512 hv, cI 401 fo, cI 512 no, cN 16 mb, cN 16 mw, cI 16 ml, cN 16 ma, cI 16 sk, cN 17 bo, cK 401 ga, .inl (1, 401, .inr (.inl g57))] 0 0
      refine ⟨(to e), fun q => kL (((va_up gb (to e) (max (gb (to e)) (tnO (gb (fr e)) (te e)))) q : Nat) : Int), ⟨⟨by omega, by omega, rfl⟩, st_K (rfl)⟩, ?_⟩
      refine sq_ok rfl [(.return_, 0, 0, 0)] 58 _ _ _ _ _ (by decide +kernel) ?_
      show ((0 ≤ 0 ∧ 0 ≤ 0) ∧ Post none [ob 8 [.ref 15, .ref 16, vZ ho], ob 1 [.ref 2, .ref 3, .ref 4, .ref 5, .ref 6, .ref 7, .ref 8, .ref 9, .ref 10, .ref 11, .ref 12, .ref 13, .ref 14, vI (nn : Int), vI (ne : Int), vI (nm : Int)], cN 512 fr, cN 512 to, cI 512 wo, cN 512 te, cZ 512 hv, cI 401 fo, cI 512 no, cN 16 mb, cN 16 mw, cI 16 ml, cN 16 ma, cI 16 sk, cN 17 bo, cK 401 ga, cK 401 (va_up gb (to e) (max (gb (to e)) (tnO (gb (fr e)) (te e))))])
      refine ⟨⟨Nat.le_refl _, Nat.le_refl _⟩, hPo _ _ ?_⟩
      refine ⟨rfl, ?_⟩
      first
      | rw [show alO (alE ho hv e) (to e) (tnO (gb (fr e)) (te e)) gb = gb from if_neg (by rw [hal]; decide)]
      | rw [show alO (alE ho hv e) (to e) (tnO (gb (fr e)) (te e)) gb = va_up gb (to e) (max (gb (to e)) (tnO (gb (fr e)) (te e))) from if_pos hal]

set_option maxRecDepth 100000 in
set_option maxHeartbeats 500000 in
theorem c_X8_skipA (ga gb : Nat → Nat) (ho : Bool) (fr to : Nat → Nat) (wo : Nat → Int) (te : Nat → Nat) (hv : Nat → Bool) (fo no : Nat → Int) (mb mw : Nat → Nat) (ml : Nat → Int) (ma : Nat → Nat) (sk : Nat → Int) (bo : Nat → Nat) (nn ne nm : Nat) (hnm : nm ≤ 16) (hne : ne ≤ 512) (hnn : nn ≤ 401) (hG : chn fr fo no nn ne) (hto : ∀ e, e < ne → to e < nn) (hte : ∀ e, e < ne → te e ≤ 10) (hskn : ∀ m, m < nm → -2 ≤ sk m ∧ sk m < ne) (hb : ∀ v, v < nn → ga v ≤ 10000000000000000) : CT mX8_skip 0 0 [.ref 0, .ref 1, .ref 15] [ob 8 [.ref 15, .ref 16, vZ ho], ob 1 [.ref 2, .ref 3, .ref 4, .ref 5, .ref 6, .ref 7, .ref 8, .ref 9, .ref 10, .ref 11, .ref 12, .ref 13, .ref 14, vI (nn : Int), vI (ne : Int), vI (nm : Int)], cN 512 fr, cN 512 to, cI 512 wo, cN 512 te, cZ 512 hv, cI 401 fo, cI 512 no, cN 16 mb, cN 16 mw, cI 16 ml, cN 16 ma, cI 16 sk, cN 17 bo, cK 401 ga, cK 401 gb] (fun r w => r = none ∧ w = [ob 8 [.ref 15, .ref 16, vZ ho], ob 1 [.ref 2, .ref 3, .ref 4, .ref 5, .ref 6, .ref 7, .ref 8, .ref 9, .ref 10, .ref 11, .ref 12, .ref 13, .ref 14, vI (nn : Int), vI (ne : Int), vI (nm : Int)], cN 512 fr, cN 512 to, cI 512 wo, cN 512 te, cZ 512 hv, cI 401 fo, cI 512 no, cN 16 mb, cN 16 mw, cI 16 ml, cN 16 ma, cI 16 sk, cN 17 bo, cK 401 (skF (alE ho hv) fr to te sk nm ga), cK 401 gb]) := by
  refine CT.intro rfl (Nat.le_of_ble_eq_true rfl) ?_
  generalize hPost : (fun r w => r = none ∧ w = [ob 8 [.ref 15, .ref 16, vZ ho], ob 1 [.ref 2, .ref 3, .ref 4, .ref 5, .ref 6, .ref 7, .ref 8, .ref 9, .ref 10, .ref 11, .ref 12, .ref 13, .ref 14, vI (nn : Int), vI (ne : Int), vI (nm : Int)], cN 512 fr, cN 512 to, cI 512 wo, cN 512 te, cZ 512 hv, cI 401 fo, cI 512 no, cN 16 mb, cN 16 mw, cI 16 ml, cN 16 ma, cI 16 sk, cN 17 bo, cK 401 (skF (alE ho hv) fr to te sk nm ga), cK 401 gb] : MP) = Post
  have hPo : ∀ rr ww, (fun r w => r = none ∧ w = [ob 8 [.ref 15, .ref 16, vZ ho], ob 1 [.ref 2, .ref 3, .ref 4, .ref 5, .ref 6, .ref 7, .ref 8, .ref 9, .ref 10, .ref 11, .ref 12, .ref 13, .ref 14, vI (nn : Int), vI (ne : Int), vI (nm : Int)], cN 512 fr, cN 512 to, cI 512 wo, cN 512 te, cZ 512 hv, cI 401 fo, cI 512 no, cN 16 mb, cN 16 mw, cI 16 ml, cN 16 ma, cI 16 sk, cN 17 bo, cK 401 (skF (alE ho hv) fr to te sk nm ga), cK 401 gb] : MP) rr ww → Post rr ww := by rw [← hPost]; exact fun _ _ h => h
  clear hPost
  have hsd : ∀ j, j < nm → 0 ≤ sk j → fr (sk j).toNat < nn ∧ to (sk j).toNat < nn ∧ te (sk j).toNat ≤ 10 := fun j hj h0 => by have h1 := hskn j hj; exact ⟨hG.2.2 _ (by omega), hto _ (by omega), hte _ (by omega)⟩
  show WM mX8_skip 0 0 Post 17 0 [(0, .ref 0), (1, .ref 1), (2, .ref 15)] [] [ob 8 [.ref 15, .ref 16, vZ ho], ob 1 [.ref 2, .ref 3, .ref 4, .ref 5, .ref 6, .ref 7, .ref 8, .ref 9, .ref 10, .ref 11, .ref 12, .ref 13, .ref 14, vI (nn : Int), vI (ne : Int), vI (nm : Int)], cN 512 fr, cN 512 to, cI 512 wo, cN 512 te, cZ 512 hv, cI 401 fo, cI 512 no, cN 16 mb, cN 16 mw, cI 16 ml, cN 16 ma, cI 16 sk, cN 17 bo, cK 401 ga, cK 401 gb] 0 0
  refine sq_ok rfl [(.iconst 0, 0, 0, 0), (.istore_n 3, 0, 0, 0)] 0 _ _ _ _ _ (by decide +kernel) ?_
  show WM mX8_skip 0 0 Post 17 2 [(0, .ref 0), (1, .ref 1), (2, .ref 15), (3, vI 0)] [] [ob 8 [.ref 15, .ref 16, vZ ho], ob 1 [.ref 2, .ref 3, .ref 4, .ref 5, .ref 6, .ref 7, .ref 8, .ref 9, .ref 10, .ref 11, .ref 12, .ref 13, .ref 14, vI (nn : Int), vI (ne : Int), vI (nm : Int)], cN 512 fr, cN 512 to, cI 512 wo, cN 512 te, cZ 512 hv, cI 401 fo, cI 512 no, cN 16 mb, cN 16 mw, cI 16 ml, cN 16 ma, cI 16 sk, cN 17 bo, cK 401 ga, cK 401 gb] 0 0
  have lp2 : ∀ (n2 : Nat) (m : Nat) (g1 : Nat → Nat), (m ≤ nm) → (g1 = skF (alE ho hv) fr to te sk m ga) → (nm - m) < n2 → WM mX8_skip 0 0 Post 17 2 [(0, .ref 0), (1, .ref 1), (2, .ref 15), (3, vI (m : Int))] [] [ob 8 [.ref 15, .ref 16, vZ ho], ob 1 [.ref 2, .ref 3, .ref 4, .ref 5, .ref 6, .ref 7, .ref 8, .ref 9, .ref 10, .ref 11, .ref 12, .ref 13, .ref 14, vI (nn : Int), vI (ne : Int), vI (nm : Int)], cN 512 fr, cN 512 to, cI 512 wo, cN 512 te, cZ 512 hv, cI 401 fo, cI 512 no, cN 16 mb, cN 16 mw, cI 16 ml, cN 16 ma, cI 16 sk, cN 17 bo, cK 401 g1, cK 401 gb] 0 0 := by
    intro n2
    induction n2 with
    | zero => intro m g1 hm hg hm; exact absurd hm (Nat.not_lt_zero _)
    | succ n2 ih2 =>
      intro m g1 hm hg hm2
      refine sq_ok rfl [(.iload_n 3, 0, 0, 0), (.aload_n 1, 0, 0, 0), (.getfield 58, 1, 15, 0), (.if_icmp .ge 31, 0, 0, 0)] 2 _ _ _ _ _ (by decide +kernel) ?_
      show (kI (nm : Int) ≤ kI (m : Int) → WM mX8_skip 0 0 Post 17 38 [(0, .ref 0), (1, .ref 1), (2, .ref 15), (3, vI (m : Int))] [] [ob 8 [.ref 15, .ref 16, vZ ho], ob 1 [.ref 2, .ref 3, .ref 4, .ref 5, .ref 6, .ref 7, .ref 8, .ref 9, .ref 10, .ref 11, .ref 12, .ref 13, .ref 14, vI (nn : Int), vI (ne : Int), vI (nm : Int)], cN 512 fr, cN 512 to, cI 512 wo, cN 512 te, cZ 512 hv, cI 401 fo, cI 512 no, cN 16 mb, cN 16 mw, cI 16 ml, cN 16 ma, cI 16 sk, cN 17 bo, cK 401 g1, cK 401 gb] 0 0) ∧ (¬ kI (nm : Int) ≤ kI (m : Int) → WM mX8_skip 0 0 Post 17 10 [(0, .ref 0), (1, .ref 1), (2, .ref 15), (3, vI (m : Int))] [] [ob 8 [.ref 15, .ref 16, vZ ho], ob 1 [.ref 2, .ref 3, .ref 4, .ref 5, .ref 6, .ref 7, .ref 8, .ref 9, .ref 10, .ref 11, .ref 12, .ref 13, .ref 14, vI (nn : Int), vI (ne : Int), vI (nm : Int)], cN 512 fr, cN 512 to, cI 512 wo, cN 512 te, cZ 512 hv, cI 401 fo, cI 512 no, cN 16 mb, cN 16 mw, cI 16 ml, cN 16 ma, cI 16 sk, cN 17 bo, cK 401 g1, cK 401 gb] 0 0)
      refine ⟨fun c7 => ?_, fun c7 => ?_⟩
      · 
        rw [kI_le (by omega)] at c7
        refine sq_ok rfl [(.return_, 0, 0, 0)] 38 _ _ _ _ _ (by decide +kernel) ?_
        show ((0 ≤ 0 ∧ 0 ≤ 0) ∧ Post none [ob 8 [.ref 15, .ref 16, vZ ho], ob 1 [.ref 2, .ref 3, .ref 4, .ref 5, .ref 6, .ref 7, .ref 8, .ref 9, .ref 10, .ref 11, .ref 12, .ref 13, .ref 14, vI (nn : Int), vI (ne : Int), vI (nm : Int)], cN 512 fr, cN 512 to, cI 512 wo, cN 512 te, cZ 512 hv, cI 401 fo, cI 512 no, cN 16 mb, cN 16 mw, cI 16 ml, cN 16 ma, cI 16 sk, cN 17 bo, cK 401 g1, cK 401 gb])
        refine ⟨⟨Nat.le_refl _, Nat.le_refl _⟩, hPo _ _ ?_⟩
        rw [show m = nm by omega] at hg
        exact ⟨rfl, by rw [hg]⟩
      · 
        rw [kI_le (by omega)] at c7
        have hkm := hskn m (by omega)
        have hgb : ∀ v, v < nn → g1 v ≤ 10000000000000000 := by rw [hg]; exact skF_le hb (fun j hj => hsd j (by omega))
        refine sq_ok rfl [(.aload_n 1, 0, 0, 0), (.getfield 61, 1, 11, 0), (.iload_n 3, 0, 0, 0), (.iaload, 0, 0, 0), (.ifCond .lt 16, 0, 0, 0)] 10 _ _ _ _ _ (by decide +kernel) ?_
        show ∃ j15 : Nat, mj 16 (kI (m : Int)) j15 ∧ (kI (sk j15) < kI 0 → WM mX8_skip 0 0 Post 17 32 [(0, .ref 0), (1, .ref 1), (2, .ref 15), (3, vI (m : Int))] [] [ob 8 [.ref 15, .ref 16, vZ ho], ob 1 [.ref 2, .ref 3, .ref 4, .ref 5, .ref 6, .ref 7, .ref 8, .ref 9, .ref 10, .ref 11, .ref 12, .ref 13, .ref 14, vI (nn : Int), vI (ne : Int), vI (nm : Int)], cN 512 fr, cN 512 to, cI 512 wo, cN 512 te, cZ 512 hv, cI 401 fo, cI 512 no, cN 16 mb, cN 16 mw, cI 16 ml, cN 16 ma, cI 16 sk, cN 17 bo, cK 401 g1, cK 401 gb] 0 0) ∧ (¬ kI (sk j15) < kI 0 → WM mX8_skip 0 0 Post 17 19 [(0, .ref 0), (1, .ref 1), (2, .ref 15), (3, vI (m : Int))] [] [ob 8 [.ref 15, .ref 16, vZ ho], ob 1 [.ref 2, .ref 3, .ref 4, .ref 5, .ref 6, .ref 7, .ref 8, .ref 9, .ref 10, .ref 11, .ref 12, .ref 13, .ref 14, vI (nn : Int), vI (ne : Int), vI (nm : Int)], cN 512 fr, cN 512 to, cI 512 wo, cN 512 te, cZ 512 hv, cI 401 fo, cI 512 no, cN 16 mb, cN 16 mw, cI 16 ml, cN 16 ma, cI 16 sk, cN 17 bo, cK 401 g1, cK 401 gb] 0 0)
        refine ⟨m, ⟨by omega, by omega, rfl⟩, ?_⟩
        refine ⟨fun c16 => ?_, fun c16 => ?_⟩
        · 
          rw [kI_lt (by omega)] at c16
          refine sq_ok rfl [(.iinc 3 1, 0, 0, 0), (.goto (-33), 0, 0, 0)] 32 _ _ _ _ _ (by decide +kernel) ?_
          show WM mX8_skip 0 0 Post 17 2 [(0, .ref 0), (1, .ref 1), (2, .ref 15), (3, .int ((kI (m : Int)) + (kI 1)))] [] [ob 8 [.ref 15, .ref 16, vZ ho], ob 1 [.ref 2, .ref 3, .ref 4, .ref 5, .ref 6, .ref 7, .ref 8, .ref 9, .ref 10, .ref 11, .ref 12, .ref 13, .ref 14, vI (nn : Int), vI (ne : Int), vI (nm : Int)], cN 512 fr, cN 512 to, cI 512 wo, cN 512 te, cZ 512 hv, cI 401 fo, cI 512 no, cN 16 mb, cN 16 mw, cI 16 ml, cN 16 ma, cI 16 sk, cN 17 bo, cK 401 g1, cK 401 gb] 0 0
          have e3 : ((kI (m : Int)) + (kI 1)) = kI (((m + 1) : Nat) : Int) := by first | (simp only [kI_add, kI_sub, kI_mul]; done) | (simp only [kI_add, kI_sub, kI_mul]; rfl)
          rw [e3]
          exact WM.pick [0, 1, 2, 3] rfl (ih2 (m + 1) g1 (by omega) (by first | (rw [show skF (alE ho hv) fr to te sk (m + 1) ga = skF (alE ho hv) fr to te sk m ga from if_neg (by omega)]; exact hg) | (refine Eq.trans ?_ (if_pos (show 0 ≤ sk m by omega)).symm; rw [hek, ← hg]; rfl)) (by omega))
        · 
          rw [kI_lt (by omega)] at c16
          obtain ⟨e, hek⟩ := Int.eq_ofNat_of_zero_le (show 0 ≤ sk m by omega)
          have hsm := hsd m (by omega) (by omega)
          rw [hek] at hkm hsm
          replace hsm : fr e < nn ∧ to e < nn ∧ te e ≤ 10 := hsm
          refine sq_ok rfl [(.aload_n 0, 0, 0, 0), (.aload_n 1, 0, 0, 0), (.aload_n 1, 0, 0, 0), (.getfield 61, 1, 11, 0), (.iload_n 3, 0, 0, 0), (.iaload, 0, 0, 0)] 19 _ _ _ _ _ (by decide +kernel) ?_
          show ∃ j26 : Nat, mj 16 (kI (m : Int)) j26 ∧ WM mX8_skip 0 0 Post 17 27 [(0, .ref 0), (1, .ref 1), (2, .ref 15), (3, vI (m : Int))] [.int (kI (sk j26)), .ref 1, .ref 0] [ob 8 [.ref 15, .ref 16, vZ ho], ob 1 [.ref 2, .ref 3, .ref 4, .ref 5, .ref 6, .ref 7, .ref 8, .ref 9, .ref 10, .ref 11, .ref 12, .ref 13, .ref 14, vI (nn : Int), vI (ne : Int), vI (nm : Int)], cN 512 fr, cN 512 to, cI 512 wo, cN 512 te, cZ 512 hv, cI 401 fo, cI 512 no, cN 16 mb, cN 16 mw, cI 16 ml, cN 16 ma, cI 16 sk, cN 17 bo, cK 401 g1, cK 401 gb] 0 0
          refine ⟨m, ⟨by omega, by omega, rfl⟩, ?_⟩
          have e4 : kI (sk m) = kI (e : Int) := by rw [hek]
          rw [e4]
          refine sq_ok rfl [(.aload_n 2, 0, 0, 0), (.aload_n 2, 0, 0, 0)] 27 _ _ _ _ _ (by decide +kernel) ?_
          show WM mX8_skip 0 0 Post 17 29 [(0, .ref 0), (1, .ref 1), (2, .ref 15), (3, vI (m : Int))] [.ref 15, .ref 15, vI (e : Int), .ref 1, .ref 0] [ob 8 [.ref 15, .ref 16, vZ ho], ob 1 [.ref 2, .ref 3, .ref 4, .ref 5, .ref 6, .ref 7, .ref 8, .ref 9, .ref 10, .ref 11, .ref 12, .ref 13, .ref 14, vI (nn : Int), vI (ne : Int), vI (nm : Int)], cN 512 fr, cN 512 to, cI 512 wo, cN 512 te, cZ 512 hv, cI 401 fo, cI 512 no, cN 16 mb, cN 16 mw, cI 16 ml, cN 16 ma, cI 16 sk, cN 17 bo, cK 401 g1, cK 401 gb] 0 0
          refine wm_callV (y := mX8_skip) mX8_along [0, 1, 2, 3, 4, 5, 6, 7, 8, 9, 10, 11, 12, 13, 14, 15, 16] (pc := 29) (rest := []) (mc' := 0) (ms' := 0) (by decide +kernel) kX8_51 (c_X8_alongA g1 gb ho fr to wo te hv fo no mb mw ml ma sk bo nn ne nm e (by omega) (by omega) (by omega) hsm.2.2 (hgb _ hsm.1) (hgb _ hsm.2.1)) rfl rfl ⟨_, rfl, rfl⟩ ⟨Nat.le_of_ble_eq_true rfl, Nat.le_of_ble_eq_true rfl⟩ ⟨Nat.le_of_ble_eq_true rfl, Nat.le_of_ble_eq_true rfl⟩ (Nat.le_of_ble_eq_true rfl) rfl rfl (Nat.le_of_ble_eq_true rfl) rfl ?_
          rintro _ _ ⟨rfl, rfl⟩
          show WM mX8_skip 0 0 Post 17 32 [(0, .ref 0), (1, .ref 1), (2, .ref 15), (3, vI (m : Int))] [] [ob 8 [.ref 15, .ref 16, vZ ho], ob 1 [.ref 2, .ref 3, .ref 4, .ref 5, .ref 6, .ref 7, .ref 8, .ref 9, .ref 10, .ref 11, .ref 12, .ref 13, .ref 14, vI (nn : Int), vI (ne : Int), vI (nm : Int)], cN 512 fr, cN 512 to, cI 512 wo, cN 512 te, cZ 512 hv, cI 401 fo, cI 512 no, cN 16 mb, cN 16 mw, cI 16 ml, cN 16 ma, cI 16 sk, cN 17 bo, cK 401 (alO (alE ho hv e) (to e) (tnO (g1 (fr e)) (te e)) g1), cK 401 gb] 0 0
          refine sq_ok rfl [(.iinc 3 1, 0, 0, 0), (.goto (-33), 0, 0, 0)] 32 _ _ _ _ _ (by decide +kernel) ?_
          show WM mX8_skip 0 0 Post 17 2 [(0, .ref 0), (1, .ref 1), (2, .ref 15), (3, .int ((kI (m : Int)) + (kI 1)))] [] [ob 8 [.ref 15, .ref 16, vZ ho], ob 1 [.ref 2, .ref 3, .ref 4, .ref 5, .ref 6, .ref 7, .ref 8, .ref 9, .ref 10, .ref 11, .ref 12, .ref 13, .ref 14, vI (nn : Int), vI (ne : Int), vI (nm : Int)], cN 512 fr, cN 512 to, cI 512 wo, cN 512 te, cZ 512 hv, cI 401 fo, cI 512 no, cN 16 mb, cN 16 mw, cI 16 ml, cN 16 ma, cI 16 sk, cN 17 bo, cK 401 (alO (alE ho hv e) (to e) (tnO (g1 (fr e)) (te e)) g1), cK 401 gb] 0 0
          have e5 : ((kI (m : Int)) + (kI 1)) = kI (((m + 1) : Nat) : Int) := by first | (simp only [kI_add, kI_sub, kI_mul]; done) | (simp only [kI_add, kI_sub, kI_mul]; rfl)
          rw [e5]
          exact WM.pick [0, 1, 2, 3] rfl (ih2 (m + 1) (alO (alE ho hv e) (to e) (tnO (g1 (fr e)) (te e)) g1) (by omega) (by first | (rw [show skF (alE ho hv) fr to te sk (m + 1) ga = skF (alE ho hv) fr to te sk m ga from if_neg (by omega)]; exact hg) | (refine Eq.trans ?_ (if_pos (show 0 ≤ sk m by omega)).symm; rw [hek, ← hg]; rfl)) (by omega))
  exact WM.pick [0, 1, 2, 3] rfl (lp2 _ 0 ga (by omega) rfl (Nat.lt_succ_self _))

set_option maxRecDepth 100000 in
set_option maxHeartbeats 500000 in
theorem c_X8_skipB (ga gb : Nat → Nat) (ho : Bool) (fr to : Nat → Nat) (wo : Nat → Int) (te : Nat → Nat) (hv : Nat → Bool) (fo no : Nat → Int) (mb mw : Nat → Nat) (ml : Nat → Int) (ma : Nat → Nat) (sk : Nat → Int) (bo : Nat → Nat) (nn ne nm : Nat) (hnm : nm ≤ 16) (hne : ne ≤ 512) (hnn : nn ≤ 401) (hG : chn fr fo no nn ne) (hto : ∀ e, e < ne → to e < nn) (hte : ∀ e, e < ne → te e ≤ 10) (hskn : ∀ m, m < nm → -2 ≤ sk m ∧ sk m < ne) (hb : ∀ v, v < nn → gb v ≤ 10000000000000000) : CT mX8_skip 0 0 [.ref 0, .ref 1, .ref 16] [ob 8 [.ref 15, .ref 16, vZ ho], ob 1 [.ref 2, .ref 3, .ref 4, .ref 5, .ref 6, .ref 7, .ref 8, .ref 9, .ref 10, .ref 11, .ref 12, .ref 13, .ref 14, vI (nn : Int), vI (ne : Int), vI (nm : Int)], cN 512 fr, cN 512 to, cI 512 wo, cN 512 te, cZ 512 hv, cI 401 fo, cI 512 no, cN 16 mb, cN 16 mw, cI 16 ml, cN 16 ma, cI 16 sk, cN 17 bo, cK 401 ga, cK 401 gb] (fun r w => r = none ∧ w = [ob 8 [.ref 15, .ref 16, vZ ho], ob 1 [.ref 2, .ref 3, .ref 4, .ref 5, .ref 6, .ref 7, .ref 8, .ref 9, .ref 10, .ref 11, .ref 12, .ref 13, .ref 14, vI (nn : Int), vI (ne : Int), vI (nm : Int)], cN 512 fr, cN 512 to, cI 512 wo, cN 512 te, cZ 512 hv, cI 401 fo, cI 512 no, cN 16 mb, cN 16 mw, cI 16 ml, cN 16 ma, cI 16 sk, cN 17 bo, cK 401 ga, cK 401 (skF (alE ho hv) fr to te sk nm gb)]) := by
  refine CT.intro rfl (Nat.le_of_ble_eq_true rfl) ?_
  generalize hPost : (fun r w => r = none ∧ w = [ob 8 [.ref 15, .ref 16, vZ ho], ob 1 [.ref 2, .ref 3, .ref 4, .ref 5, .ref 6, .ref 7, .ref 8, .ref 9, .ref 10, .ref 11, .ref 12, .ref 13, .ref 14, vI (nn : Int), vI (ne : Int), vI (nm : Int)], cN 512 fr, cN 512 to, cI 512 wo, cN 512 te, cZ 512 hv, cI 401 fo, cI 512 no, cN 16 mb, cN 16 mw, cI 16 ml, cN 16 ma, cI 16 sk, cN 17 bo, cK 401 ga, cK 401 (skF (alE ho hv) fr to te sk nm gb)] : MP) = Post
  have hPo : ∀ rr ww, (fun r w => r = none ∧ w = [ob 8 [.ref 15, .ref 16, vZ ho], ob 1 [.ref 2, .ref 3, .ref 4, .ref 5, .ref 6, .ref 7, .ref 8, .ref 9, .ref 10, .ref 11, .ref 12, .ref 13, .ref 14, vI (nn : Int), vI (ne : Int), vI (nm : Int)], cN 512 fr, cN 512 to, cI 512 wo, cN 512 te, cZ 512 hv, cI 401 fo, cI 512 no, cN 16 mb, cN 16 mw, cI 16 ml, cN 16 ma, cI 16 sk, cN 17 bo, cK 401 ga, cK 401 (skF (alE ho hv) fr to te sk nm gb)] : MP) rr ww → Post rr ww := by rw [← hPost]; exact fun _ _ h => h
  clear hPost
  have hsd : ∀ j, j < nm → 0 ≤ sk j → fr (sk j).toNat < nn ∧ to (sk j).toNat < nn ∧ te (sk j).toNat ≤ 10 := fun j hj h0 => by have h1 := hskn j hj; exact ⟨hG.2.2 _ (by omega), hto _ (by omega), hte _ (by omega)⟩
  show WM mX8_skip 0 0 Post 17 0 [(0, .ref 0), (1, .ref 1), (2, .ref 16)] [] [ob 8 [.ref 15, .ref 16, vZ ho], ob 1 [.ref 2, .ref 3, .ref 4, .ref 5, .ref 6, .ref 7, .ref 8, .ref 9, .ref 10, .ref 11, .ref 12, .ref 13, .ref 14, vI (nn : Int), vI (ne : Int), vI (nm : Int)], cN 512 fr, cN 512 to, cI 512 wo, cN 512 te, cZ 512 hv, cI 401 fo, cI 512 no, cN 16 mb, cN 16 mw, cI 16 ml, cN 16 ma, cI 16 sk, cN 17 bo, cK 401 ga, cK 401 gb] 0 0
  refine sq_ok rfl [(.iconst 0, 0, 0, 0), (.istore_n 3, 0, 0, 0)] 0 _ _ _ _ _ (by decide +kernel) ?_
  show WM mX8_skip 0 0 Post 17 2 [(0, .ref 0), (1, .ref 1), (2, .ref 16), (3, vI 0)] [] [ob 8 [.ref 15, .ref 16, vZ ho], ob 1 [.ref 2, .ref 3, .ref 4, .ref 5, .ref 6, .ref 7, .ref 8, .ref 9, .ref 10, .ref 11, .ref 12, .ref 13, .ref 14, vI (nn : Int), vI (ne : Int), vI (nm : Int)], cN 512 fr, cN 512 to, cI 512 wo, cN 512 te, cZ 512 hv, cI 401 fo, cI 512 no, cN 16 mb, cN 16 mw, cI 16 ml, cN 16 ma, cI 16 sk, cN 17 bo, cK 401 ga, cK 401 gb] 0 0
  have lp2 : ∀ (n2 : Nat) (m : Nat) (g1 : Nat → Nat), (m ≤ nm) → (g1 = skF (alE ho hv) fr to te sk m gb) → (nm - m) < n2 → WM mX8_skip 0 0 Post 17 2 [(0, .ref 0), (1, .ref 1), (2, .ref 16), (3, vI (m : Int))] [] [ob 8 [.ref 15, .ref 16, vZ ho], ob 1 [.ref 2, .ref 3, .ref 4, .ref 5, .ref 6, .ref 7, .ref 8, .ref 9, .ref 10, .ref 11, .ref 12, .ref 13, .ref 14, vI (nn : Int), vI (ne : Int), vI (nm : Int)], cN 512 fr, cN 512 to, cI 512 wo, cN 512 te, cZ 512 hv, cI 401 fo, cI 512 no, cN 16 mb, cN 16 mw, cI 16 ml, cN 16 ma, cI 16 sk, cN 17 bo, cK 401 ga, cK 401 g1] 0 0 := by
    intro n2
    induction n2 with
    | zero => intro m g1 hm hg hm; exact absurd hm (Nat.not_lt_zero _)
    | succ n2 ih2 =>
      intro m g1 hm hg hm2
      refine sq_ok rfl [(.iload_n 3, 0, 0, 0), (.aload_n 1, 0, 0, 0), (.getfield 58, 1, 15, 0), (.if_icmp .ge 31, 0, 0, 0)] 2 _ _ _ _ _ (by decide +kernel) ?_
      show (kI (nm : Int) ≤ kI (m : Int) → WM mX8_skip 0 0 Post 17 38 [(0, .ref 0), (1, .ref 1), (2, .ref 16), (3, vI (m : Int))] [] [ob 8 [.ref 15, .ref 16, vZ ho], ob 1 [.ref 2, .ref 3, .ref 4, .ref 5, .ref 6, .ref 7, .ref 8, .ref 9, .ref 10, .ref 11, .ref 12, .ref 13, .ref 14, vI (nn : Int), vI (ne : Int), vI (nm : Int)], cN 512 fr, cN 512 to, cI 512 wo, cN 512 te, cZ 512 hv, cI 401 fo, cI 512 no, cN 16 mb, cN 16 mw, cI 16 ml, cN 16 ma, cI 16 sk, cN 17 bo, cK 401 ga, cK 401 g1] 0 0) ∧ (¬ kI (nm : Int) ≤ kI (m : Int) → WM mX8_skip 0 0 Post 17 10 [(0, .ref 0), (1, .ref 1), (2, .ref 16), (3, vI (m : Int))] [] [ob 8 [.ref 15, .ref 16, vZ ho], ob 1 [.ref 2, .ref 3, .ref 4, .ref 5, .ref 6, .ref 7, .ref 8, .ref 9, .ref 10, .ref 11, .ref 12, .ref 13, .ref 14, vI (nn : Int), vI (ne : Int), vI (nm : Int)], cN 512 fr, cN 512 to, cI 512 wo, cN 512 te, cZ 512 hv, cI 401 fo, cI 512 no, cN 16 mb, cN 16 mw, cI 16 ml, cN 16 ma, cI 16 sk, cN 17 bo, cK 401 ga, cK 401 g1] 0 0)
      refine ⟨fun c7 => ?_, fun c7 => ?_⟩
      · 
        rw [kI_le (by omega)] at c7
        refine sq_ok rfl [(.return_, 0, 0, 0)] 38 _ _ _ _ _ (by decide +kernel) ?_
        show ((0 ≤ 0 ∧ 0 ≤ 0) ∧ Post none [ob 8 [.ref 15, .ref 16, vZ ho], ob 1 [.ref 2, .ref 3, .ref 4, .ref 5, .ref 6, .ref 7, .ref 8, .ref 9, .ref 10, .ref 11, .ref 12, .ref 13, .ref 14, vI (nn : Int), vI (ne : Int), vI (nm : Int)], cN 512 fr, cN 512 to, cI 512 wo, cN 512 te, cZ 512 hv, cI 401 fo, cI 512 no, cN 16 mb, cN 16 mw, cI 16 ml, cN 16 ma, cI 16 sk, cN 17 bo, cK 401 ga, cK 401 g1])
        refine ⟨⟨Nat.le_refl _, Nat.le_refl _⟩, hPo _ _ ?_⟩
        rw [show m = nm by omega] at hg
        exact ⟨rfl, by rw [hg]⟩
      · 
        rw [kI_le (by omega)] at c7
        have hkm := hskn m (by omega)
        have hgb : ∀ v, v < nn → g1 v ≤ 10000000000000000 := by rw [hg]; exact skF_le hb (fun j hj => hsd j (by omega))
        refine sq_ok rfl [(.aload_n 1, 0, 0, 0), (.getfield 61, 1, 11, 0), (.iload_n 3, 0, 0, 0), (.iaload, 0, 0, 0), (.ifCond .lt 16, 0, 0, 0)] 10 _ _ _ _ _ (by decide +kernel) ?_
        show ∃ j15 : Nat, mj 16 (kI (m : Int)) j15 ∧ (kI (sk j15) < kI 0 → WM mX8_skip 0 0 Post 17 32 [(0, .ref 0), (1, .ref 1), (2, .ref 16), (3, vI (m : Int))] [] [ob 8 [.ref 15, .ref 16, vZ ho], ob 1 [.ref 2, .ref 3, .ref 4, .ref 5, .ref 6, .ref 7, .ref 8, .ref 9, .ref 10, .ref 11, .ref 12, .ref 13, .ref 14, vI (nn : Int), vI (ne : Int), vI (nm : Int)], cN 512 fr, cN 512 to, cI 512 wo, cN 512 te, cZ 512 hv, cI 401 fo, cI 512 no, cN 16 mb, cN 16 mw, cI 16 ml, cN 16 ma, cI 16 sk, cN 17 bo, cK 401 ga, cK 401 g1] 0 0) ∧ (¬ kI (sk j15) < kI 0 → WM mX8_skip 0 0 Post 17 19 [(0, .ref 0), (1, .ref 1), (2, .ref 16), (3, vI (m : Int))] [] [ob 8 [.ref 15, .ref 16, vZ ho], ob 1 [.ref 2, .ref 3, .ref 4, .ref 5, .ref 6, .ref 7, .ref 8, .ref 9, .ref 10, .ref 11, .ref 12, .ref 13, .ref 14, vI (nn : Int), vI (ne : Int), vI (nm : Int)], cN 512 fr, cN 512 to, cI 512 wo, cN 512 te, cZ 512 hv, cI 401 fo, cI 512 no, cN 16 mb, cN 16 mw, cI 16 ml, cN 16 ma, cI 16 sk, cN 17 bo, cK 401 ga, cK 401 g1] 0 0)
        refine ⟨m, ⟨by omega, by omega, rfl⟩, ?_⟩
        refine ⟨fun c16 => ?_, fun c16 => ?_⟩
        · 
          rw [kI_lt (by omega)] at c16
          refine sq_ok rfl [(.iinc 3 1, 0, 0, 0), (.goto (-33), 0, 0, 0)] 32 _ _ _ _ _ (by decide +kernel) ?_
          show WM mX8_skip 0 0 Post 17 2 [(0, .ref 0), (1, .ref 1), (2, .ref 16), (3, .int ((kI (m : Int)) + (kI 1)))] [] [ob 8 [.ref 15, .ref 16, vZ ho], ob 1 [.ref 2, .ref 3, .ref 4, .ref 5, .ref 6, .ref 7, .ref 8, .ref 9, .ref 10, .ref 11, .ref 12, .ref 13, .ref 14, vI (nn : Int), vI (ne : Int), vI (nm : Int)], cN 512 fr, cN 512 to, cI 512 wo, cN 512 te, cZ 512 hv, cI 401 fo, cI 512 no, cN 16 mb, cN 16 mw, cI 16 ml, cN 16 ma, cI 16 sk, cN 17 bo, cK 401 ga, cK 401 g1] 0 0
          have e3 : ((kI (m : Int)) + (kI 1)) = kI (((m + 1) : Nat) : Int) := by first | (simp only [kI_add, kI_sub, kI_mul]; done) | (simp only [kI_add, kI_sub, kI_mul]; rfl)
          rw [e3]
          exact WM.pick [0, 1, 2, 3] rfl (ih2 (m + 1) g1 (by omega) (by first | (rw [show skF (alE ho hv) fr to te sk (m + 1) gb = skF (alE ho hv) fr to te sk m gb from if_neg (by omega)]; exact hg) | (refine Eq.trans ?_ (if_pos (show 0 ≤ sk m by omega)).symm; rw [hek, ← hg]; rfl)) (by omega))
        · 
          rw [kI_lt (by omega)] at c16
          obtain ⟨e, hek⟩ := Int.eq_ofNat_of_zero_le (show 0 ≤ sk m by omega)
          have hsm := hsd m (by omega) (by omega)
          rw [hek] at hkm hsm
          replace hsm : fr e < nn ∧ to e < nn ∧ te e ≤ 10 := hsm
          refine sq_ok rfl [(.aload_n 0, 0, 0, 0), (.aload_n 1, 0, 0, 0), (.aload_n 1, 0, 0, 0), (.getfield 61, 1, 11, 0), (.iload_n 3, 0, 0, 0), (.iaload, 0, 0, 0)] 19 _ _ _ _ _ (by decide +kernel) ?_
          show ∃ j26 : Nat, mj 16 (kI (m : Int)) j26 ∧ WM mX8_skip 0 0 Post 17 27 [(0, .ref 0), (1, .ref 1), (2, .ref 16), (3, vI (m : Int))] [.int (kI (sk j26)), .ref 1, .ref 0] [ob 8 [.ref 15, .ref 16, vZ ho], ob 1 [.ref 2, .ref 3, .ref 4, .ref 5, .ref 6, .ref 7, .ref 8, .ref 9, .ref 10, .ref 11, .ref 12, .ref 13, .ref 14, vI (nn : Int), vI (ne : Int), vI (nm : Int)], cN 512 fr, cN 512 to, cI 512 wo, cN 512 te, cZ 512 hv, cI 401 fo, cI 512 no, cN 16 mb, cN 16 mw, cI 16 ml, cN 16 ma, cI 16 sk, cN 17 bo, cK 401 ga, cK 401 g1] 0 0
          refine ⟨m, ⟨by omega, by omega, rfl⟩, ?_⟩
          have e4 : kI (sk m) = kI (e : Int) := by rw [hek]
          rw [e4]
          refine sq_ok rfl [(.aload_n 2, 0, 0, 0), (.aload_n 2, 0, 0, 0)] 27 _ _ _ _ _ (by decide +kernel) ?_
          show WM mX8_skip 0 0 Post 17 29 [(0, .ref 0), (1, .ref 1), (2, .ref 16), (3, vI (m : Int))] [.ref 16, .ref 16, vI (e : Int), .ref 1, .ref 0] [ob 8 [.ref 15, .ref 16, vZ ho], ob 1 [.ref 2, .ref 3, .ref 4, .ref 5, .ref 6, .ref 7, .ref 8, .ref 9, .ref 10, .ref 11, .ref 12, .ref 13, .ref 14, vI (nn : Int), vI (ne : Int), vI (nm : Int)], cN 512 fr, cN 512 to, cI 512 wo, cN 512 te, cZ 512 hv, cI 401 fo, cI 512 no, cN 16 mb, cN 16 mw, cI 16 ml, cN 16 ma, cI 16 sk, cN 17 bo, cK 401 ga, cK 401 g1] 0 0
          refine wm_callV (y := mX8_skip) mX8_along [0, 1, 2, 3, 4, 5, 6, 7, 8, 9, 10, 11, 12, 13, 14, 15, 16] (pc := 29) (rest := []) (mc' := 0) (ms' := 0) (by decide +kernel) kX8_51 (c_X8_alongB ga g1 ho fr to wo te hv fo no mb mw ml ma sk bo nn ne nm e (by omega) (by omega) (by omega) hsm.2.2 (hgb _ hsm.1) (hgb _ hsm.2.1)) rfl rfl ⟨_, rfl, rfl⟩ ⟨Nat.le_of_ble_eq_true rfl, Nat.le_of_ble_eq_true rfl⟩ ⟨Nat.le_of_ble_eq_true rfl, Nat.le_of_ble_eq_true rfl⟩ (Nat.le_of_ble_eq_true rfl) rfl rfl (Nat.le_of_ble_eq_true rfl) rfl ?_
          rintro _ _ ⟨rfl, rfl⟩
          show WM mX8_skip 0 0 Post 17 32 [(0, .ref 0), (1, .ref 1), (2, .ref 16), (3, vI (m : Int))] [] [ob 8 [.ref 15, .ref 16, vZ ho], ob 1 [.ref 2, .ref 3, .ref 4, .ref 5, .ref 6, .ref 7, .ref 8, .ref 9, .ref 10, .ref 11, .ref 12, .ref 13, .ref 14, vI (nn : Int), vI (ne : Int), vI (nm : Int)], cN 512 fr, cN 512 to, cI 512 wo, cN 512 te, cZ 512 hv, cI 401 fo, cI 512 no, cN 16 mb, cN 16 mw, cI 16 ml, cN 16 ma, cI 16 sk, cN 17 bo, cK 401 ga, cK 401 (alO (alE ho hv e) (to e) (tnO (g1 (fr e)) (te e)) g1)] 0 0
          refine sq_ok rfl [(.iinc 3 1, 0, 0, 0), (.goto (-33), 0, 0, 0)] 32 _ _ _ _ _ (by decide +kernel) ?_
          show WM mX8_skip 0 0 Post 17 2 [(0, .ref 0), (1, .ref 1), (2, .ref 16), (3, .int ((kI (m : Int)) + (kI 1)))] [] [ob 8 [.ref 15, .ref 16, vZ ho], ob 1 [.ref 2, .ref 3, .ref 4, .ref 5, .ref 6, .ref 7, .ref 8, .ref 9, .ref 10, .ref 11, .ref 12, .ref 13, .ref 14, vI (nn : Int), vI (ne : Int), vI (nm : Int)], cN 512 fr, cN 512 to, cI 512 wo, cN 512 te, cZ 512 hv, cI 401 fo, cI 512 no, cN 16 mb, cN 16 mw, cI 16 ml, cN 16 ma, cI 16 sk, cN 17 bo, cK 401 ga, cK 401 (alO (alE ho hv e) (to e) (tnO (g1 (fr e)) (te e)) g1)] 0 0
          have e5 : ((kI (m : Int)) + (kI 1)) = kI (((m + 1) : Nat) : Int) := by first | (simp only [kI_add, kI_sub, kI_mul]; done) | (simp only [kI_add, kI_sub, kI_mul]; rfl)
          rw [e5]
          exact WM.pick [0, 1, 2, 3] rfl (ih2 (m + 1) (alO (alE ho hv e) (to e) (tnO (g1 (fr e)) (te e)) g1) (by omega) (by first | (rw [show skF (alE ho hv) fr to te sk (m + 1) gb = skF (alE ho hv) fr to te sk m gb from if_neg (by omega)]; exact hg) | (refine Eq.trans ?_ (if_pos (show 0 ≤ sk m by omega)).symm; rw [hek, ← hg]; rfl)) (by omega))
  exact WM.pick [0, 1, 2, 3] rfl (lp2 _ 0 gb (by omega) rfl (Nat.lt_succ_self _))

set_option maxRecDepth 100000 in
set_option maxHeartbeats 500000 in
theorem c_X8_begin (ga gb : Nat → Nat) (ho : Bool) (fr to : Nat → Nat) (wo : Nat → Int) (te : Nat → Nat) (hv : Nat → Bool) (fo no : Nat → Int) (mb mw : Nat → Nat) (ml : Nat → Int) (ma : Nat → Nat) (sk : Nat → Int) (bo : Nat → Nat) (nn ne nm : Nat) (hnm : nm ≤ 16) (hne : ne ≤ 512) (hnn : nn ≤ 401) (hG : chn fr fo no nn ne) (hto : ∀ e, e < ne → to e < nn) (hte : ∀ e, e < ne → te e ≤ 10) (hskn : ∀ m, m < nm → -2 ≤ sk m ∧ sk m < ne) (hn1 : 1 ≤ nn) (bb : Bool) : CT mX8_begin 0 0 [.ref 0, .ref 1, vZ bb] [ob 8 [.ref 15, .ref 16, vZ ho], ob 1 [.ref 2, .ref 3, .ref 4, .ref 5, .ref 6, .ref 7, .ref 8, .ref 9, .ref 10, .ref 11, .ref 12, .ref 13, .ref 14, vI (nn : Int), vI (ne : Int), vI (nm : Int)], cN 512 fr, cN 512 to, cI 512 wo, cN 512 te, cZ 512 hv, cI 401 fo, cI 512 no, cN 16 mb, cN 16 mw, cI 16 ml, cN 16 ma, cI 16 sk, cN 17 bo, cK 401 ga, cK 401 gb] (fun r w => ∃ ga2 : Nat → Nat, r = none ∧ w = [ob 8 [.ref 15, .ref 16, vZ bb], ob 1 [.ref 2, .ref 3, .ref 4, .ref 5, .ref 6, .ref 7, .ref 8, .ref 9, .ref 10, .ref 11, .ref 12, .ref 13, .ref 14, vI (nn : Int), vI (ne : Int), vI (nm : Int)], cN 512 fr, cN 512 to, cI 512 wo, cN 512 te, cZ 512 hv, cI 401 fo, cI 512 no, cN 16 mb, cN 16 mw, cI 16 ml, cN 16 ma, cI 16 sk, cN 17 bo, cK 401 ga2, cK 401 gb] ∧ ∀ v, v < nn → ga2 v = wg0 bb hv fr to te sk nm v) := by
  refine CT.intro rfl (Nat.le_of_ble_eq_true rfl) ?_
  generalize hPost : (fun r w => ∃ ga2 : Nat → Nat, r = none ∧ w = [ob 8 [.ref 15, .ref 16, vZ bb], ob 1 [.ref 2, .ref 3, .ref 4, .ref 5, .ref 6, .ref 7, .ref 8, .ref 9, .ref 10, .ref 11, .ref 12, .ref 13, .ref 14, vI (nn : Int), vI (ne : Int), vI (nm : Int)], cN 512 fr, cN 512 to, cI 512 wo, cN 512 te, cZ 512 hv, cI 401 fo, cI 512 no, cN 16 mb, cN 16 mw, cI 16 ml, cN 16 ma, cI 16 sk, cN 17 bo, cK 401 ga2, cK 401 gb] ∧ ∀ v, v < nn → ga2 v = wg0 bb hv fr to te sk nm v : MP) = Post
  have hPo : ∀ rr ww, (fun r w => ∃ ga2 : Nat → Nat, r = none ∧ w = [ob 8 [.ref 15, .ref 16, vZ bb], ob 1 [.ref 2, .ref 3, .ref 4, .ref 5, .ref 6, .ref 7, .ref 8, .ref 9, .ref 10, .ref 11, .ref 12, .ref 13, .ref 14, vI (nn : Int), vI (ne : Int), vI (nm : Int)], cN 512 fr, cN 512 to, cI 512 wo, cN 512 te, cZ 512 hv, cI 401 fo, cI 512 no, cN 16 mb, cN 16 mw, cI 16 ml, cN 16 ma, cI 16 sk, cN 17 bo, cK 401 ga2, cK 401 gb] ∧ ∀ v, v < nn → ga2 v = wg0 bb hv fr to te sk nm v : MP) rr ww → Post rr ww := by rw [← hPost]; exact fun _ _ h => h
  clear hPost
  have hsd : ∀ j, j < nm → 0 ≤ sk j → fr (sk j).toNat < nn ∧ to (sk j).toNat < nn ∧ te (sk j).toNat ≤ 10 := fun j hj h0 => by have h1 := hskn j hj; exact ⟨hG.2.2 _ (by omega), hto _ (by omega), hte _ (by omega)⟩
  show WM mX8_begin 0 0 Post 17 0 [(0, .ref 0), (1, .ref 1), (2, vZ bb)] [] [ob 8 [.ref 15, .ref 16, vZ ho], ob 1 [.ref 2, .ref 3, .ref 4, .ref 5, .ref 6, .ref 7, .ref 8, .ref 9, .ref 10, .ref 11, .ref 12, .ref 13, .ref 14, vI (nn : Int), vI (ne : Int), vI (nm : Int)], cN 512 fr, cN 512 to, cI 512 wo, cN 512 te, cZ 512 hv, cI 401 fo, cI 512 no, cN 16 mb, cN 16 mw, cI 16 ml, cN 16 ma, cI 16 sk, cN 17 bo, cK 401 ga, cK 401 gb] 0 0
  refine sq_ok rfl [(.aload_n 0, 0, 0, 0), (.iload_n 2, 0, 0, 0), (.putfield 18, 8, 2, 0), (.aload_n 0, 0, 0, 0), (.getfield 9, 8, 0, 0), (.iconst 0, 0, 0, 0), (.aload_n 1, 0, 0, 0), (.getfield 22, 1, 13, 0), (.lconst 0, 0, 0, 0)] 0 _ _ _ _ _ (by decide +kernel) ?_
  show (narrow .boolean (.int (bI bb)) = .int (bI bb) ∧ fits .boolean (.int (bI bb)) = true) ∧ WM mX8_begin 0 0 Post 17 15 [(0, .ref 0), (1, .ref 1), (2, vZ bb)] [vJ 0, vI (nn : Int), vI 0, .ref 15] [ob 8 [.ref 15, .ref 16, vZ bb], ob 1 [.ref 2, .ref 3, .ref 4, .ref 5, .ref 6, .ref 7, .ref 8, .ref 9, .ref 10, .ref 11, .ref 12, .ref 13, .ref 14, vI (nn : Int), vI (ne : Int), vI (nm : Int)], cN 512 fr, cN 512 to, cI 512 wo, cN 512 te, cZ 512 hv, cI 401 fo, cI 512 no, cN 16 mb, cN 16 mw, cI 16 ml, cN 16 ma, cI 16 sk, cN 17 bo, cK 401 ga, cK 401 gb] 0 0
  refine ⟨bI_fits bb, ?_⟩
  refine wm_callS (y := mX8_begin) mJ7_fill_bad5a [15] (pc := 15) (rest := []) (mc' := 0) (ms' := 0) (by decide +kernel) kX8_28 (c_fillJr 401 0 nn (by omega) (by omega) (by omega) (fun q => ((ga q : Nat) : Int)) 0) rfl ⟨Nat.le_of_ble_eq_true rfl, Nat.le_of_ble_eq_true rfl⟩ ⟨Nat.le_of_ble_eq_true rfl, Nat.le_of_ble_eq_true rfl⟩ (Nat.le_of_ble_eq_true rfl) rfl rfl (Nat.le_of_ble_eq_true rfl) rfl ?_
  rintro _ _ ⟨rfl, rfl⟩
  obtain ⟨g0, hg0⟩ : ∃ g0 : Nat → Nat, g0 = fun q => if 0 ≤ q ∧ q < nn then 0 else ga q := ⟨_, rfl⟩
  have ef : (fun q => if 0 ≤ q ∧ q < nn then (0 : Int) else (fun q => ((ga q : Nat) : Int)) q) = fun q => ((g0 q : Nat) : Int) := by subst hg0; funext q; dsimp only; split <;> rfl
  rw [ef]
  show WM mX8_begin 0 0 Post 17 18 [(0, .ref 0), (1, .ref 1), (2, vZ bb)] [] [ob 8 [.ref 15, .ref 16, vZ bb], ob 1 [.ref 2, .ref 3, .ref 4, .ref 5, .ref 6, .ref 7, .ref 8, .ref 9, .ref 10, .ref 11, .ref 12, .ref 13, .ref 14, vI (nn : Int), vI (ne : Int), vI (nm : Int)], cN 512 fr, cN 512 to, cI 512 wo, cN 512 te, cZ 512 hv, cI 401 fo, cI 512 no, cN 16 mb, cN 16 mw, cI 16 ml, cN 16 ma, cI 16 sk, cN 17 bo, cK 401 g0, cK 401 gb] 0 0
  refine sq_ok rfl [(.aload_n 0, 0, 0, 0), (.getfield 9, 8, 0, 0), (.iconst 0, 0, 0, 0), (.ldc2_w 34, 0, 0, 10000000000000000), (.lastore, 0, 0, 0)] 18 _ _ _ _ _ (by decide +kernel) ?_
  show ∃ (j26 : Nat) (g26 : Nat → Int64), (mj 401 (kI 0) j26 ∧ g26 = vp_updL (fun q => kL ((g0 q : Nat) : Int)) j26 (kL 10000000000000000)) ∧ WM mX8_begin 0 0 Post 17 27 [(0, .ref 0), (1, .ref 1), (2, vZ bb)] [] [ob 8 [.ref 15, .ref 16, vZ bb], ob 1 [.ref 2, .ref 3, .ref 4, .ref 5, .ref 6, .ref 7, .ref 8, .ref 9, .ref 10, .ref 11, .ref 12, .ref 13, .ref 14, vI (nn : Int), vI (ne : Int), vI (nm : Int)], cN 512 fr, cN 512 to, cI 512 wo, cN 512 te, cZ 512 hv, cI 401 fo, cI 512 no, cN 16 mb, cN 16 mw, cI 16 ml, cN 16 ma, cI 16 sk, cN 17 bo, .inl (1, 401, .inr (.inl g26)), cK 401 gb] 0 0
  refine ⟨0, fun q => kL (((va_up g0 0 10000000000000000) q : Nat) : Int), ⟨⟨by omega, by omega, rfl⟩, st_K (rfl)⟩, ?_⟩
  refine sq_ok rfl [(.aload_n 0, 0, 0, 0), (.aload_n 1, 0, 0, 0), (.aload_n 0, 0, 0, 0), (.getfield 9, 8, 0, 0)] 27 _ _ _ _ _ (by decide +kernel) ?_
  show WM mX8_begin 0 0 Post 17 33 [(0, .ref 0), (1, .ref 1), (2, vZ bb)] [.ref 15, .ref 1, .ref 0] [ob 8 [.ref 15, .ref 16, vZ bb], ob 1 [.ref 2, .ref 3, .ref 4, .ref 5, .ref 6, .ref 7, .ref 8, .ref 9, .ref 10, .ref 11, .ref 12, .ref 13, .ref 14, vI (nn : Int), vI (ne : Int), vI (nm : Int)], cN 512 fr, cN 512 to, cI 512 wo, cN 512 te, cZ 512 hv, cI 401 fo, cI 512 no, cN 16 mb, cN 16 mw, cI 16 ml, cN 16 ma, cI 16 sk, cN 17 bo, cK 401 (va_up g0 0 10000000000000000), cK 401 gb] 0 0
  refine wm_callV (y := mX8_begin) mX8_skip [0, 1, 2, 3, 4, 5, 6, 7, 8, 9, 10, 11, 12, 13, 14, 15, 16] (pc := 33) (rest := []) (mc' := 0) (ms' := 0) (by decide +kernel) kX8_36 (c_X8_skipA (va_up g0 0 10000000000000000) gb bb fr to wo te hv fo no mb mw ml ma sk bo nn ne nm hnm hne hnn hG hto hte hskn (fun v hv => by by_cases h5 : v = 0; (rw [h5, up_eq]; omega); (rw [up_ne _ _ h5, hg0]; dsimp only; rw [if_pos ⟨Nat.zero_le _, hv⟩]; omega))) rfl rfl ⟨_, rfl, rfl⟩ ⟨Nat.le_of_ble_eq_true rfl, Nat.le_of_ble_eq_true rfl⟩ ⟨Nat.le_of_ble_eq_true rfl, Nat.le_of_ble_eq_true rfl⟩ (Nat.le_of_ble_eq_true rfl) rfl rfl (Nat.le_of_ble_eq_true rfl) rfl ?_
  rintro _ _ ⟨rfl, rfl⟩
  show WM mX8_begin 0 0 Post 17 36 [(0, .ref 0), (1, .ref 1), (2, vZ bb)] [] [ob 8 [.ref 15, .ref 16, vZ bb], ob 1 [.ref 2, .ref 3, .ref 4, .ref 5, .ref 6, .ref 7, .ref 8, .ref 9, .ref 10, .ref 11, .ref 12, .ref 13, .ref 14, vI (nn : Int), vI (ne : Int), vI (nm : Int)], cN 512 fr, cN 512 to, cI 512 wo, cN 512 te, cZ 512 hv, cI 401 fo, cI 512 no, cN 16 mb, cN 16 mw, cI 16 ml, cN 16 ma, cI 16 sk, cN 17 bo, cK 401 (skF (alE bb hv) fr to te sk nm (va_up g0 0 10000000000000000)), cK 401 gb] 0 0
  refine sq_ok rfl [(.return_, 0, 0, 0)] 36 _ _ _ _ _ (by decide +kernel) ?_
  show ((0 ≤ 0 ∧ 0 ≤ 0) ∧ Post none [ob 8 [.ref 15, .ref 16, vZ bb], ob 1 [.ref 2, .ref 3, .ref 4, .ref 5, .ref 6, .ref 7, .ref 8, .ref 9, .ref 10, .ref 11, .ref 12, .ref 13, .ref 14, vI (nn : Int), vI (ne : Int), vI (nm : Int)], cN 512 fr, cN 512 to, cI 512 wo, cN 512 te, cZ 512 hv, cI 401 fo, cI 512 no, cN 16 mb, cN 16 mw, cI 16 ml, cN 16 ma, cI 16 sk, cN 17 bo, cK 401 (skF (alE bb hv) fr to te sk nm (va_up g0 0 10000000000000000)), cK 401 gb])
  refine ⟨⟨Nat.le_refl _, Nat.le_refl _⟩, hPo _ _ ?_⟩
  refine ⟨_, rfl, rfl, skF_ext (fun v hv => ?_) hsd⟩
  by_cases h5 : v = 0
  · rw [h5, up_eq]; rfl
  · rw [up_ne _ _ h5, hg0]; dsimp only; rw [if_pos ⟨Nat.zero_le _, hv⟩, if_neg h5]

set_option maxRecDepth 100000 in
set_option maxHeartbeats 500000 in
theorem c_X8_atEnd (ga gb : Nat → Nat) (ho : Bool) (fr to : Nat → Nat) (wo : Nat → Int) (te : Nat → Nat) (hv : Nat → Bool) (fo no : Nat → Int) (mb mw : Nat → Nat) (ml : Nat → Int) (ma : Nat → Nat) (sk : Nat → Int) (bo : Nat → Nat) (nn ne nm : Nat) (hn1 : 1 ≤ nn) (hnn : nn ≤ 401) : CT mX8_atEnd 0 0 [.ref 0, .ref 1] [ob 8 [.ref 15, .ref 16, vZ ho], ob 1 [.ref 2, .ref 3, .ref 4, .ref 5, .ref 6, .ref 7, .ref 8, .ref 9, .ref 10, .ref 11, .ref 12, .ref 13, .ref 14, vI (nn : Int), vI (ne : Int), vI (nm : Int)], cN 512 fr, cN 512 to, cI 512 wo, cN 512 te, cZ 512 hv, cI 401 fo, cI 512 no, cN 16 mb, cN 16 mw, cI 16 ml, cN 16 ma, cI 16 sk, cN 17 bo, cK 401 ga, cK 401 gb] (fun r w => r = some (vJ (ga (nn - 1) : Nat)) ∧ w = [ob 8 [.ref 15, .ref 16, vZ ho], ob 1 [.ref 2, .ref 3, .ref 4, .ref 5, .ref 6, .ref 7, .ref 8, .ref 9, .ref 10, .ref 11, .ref 12, .ref 13, .ref 14, vI (nn : Int), vI (ne : Int), vI (nm : Int)], cN 512 fr, cN 512 to, cI 512 wo, cN 512 te, cZ 512 hv, cI 401 fo, cI 512 no, cN 16 mb, cN 16 mw, cI 16 ml, cN 16 ma, cI 16 sk, cN 17 bo, cK 401 ga, cK 401 gb]) := by
  refine CT.intro rfl (Nat.le_of_ble_eq_true rfl) ?_
  generalize hPost : (fun r w => r = some (vJ (ga (nn - 1) : Nat)) ∧ w = [ob 8 [.ref 15, .ref 16, vZ ho], ob 1 [.ref 2, .ref 3, .ref 4, .ref 5, .ref 6, .ref 7, .ref 8, .ref 9, .ref 10, .ref 11, .ref 12, .ref 13, .ref 14, vI (nn : Int), vI (ne : Int), vI (nm : Int)], cN 512 fr, cN 512 to, cI 512 wo, cN 512 te, cZ 512 hv, cI 401 fo, cI 512 no, cN 16 mb, cN 16 mw, cI 16 ml, cN 16 ma, cI 16 sk, cN 17 bo, cK 401 ga, cK 401 gb] : MP) = Post
  have hPo : ∀ rr ww, (fun r w => r = some (vJ (ga (nn - 1) : Nat)) ∧ w = [ob 8 [.ref 15, .ref 16, vZ ho], ob 1 [.ref 2, .ref 3, .ref 4, .ref 5, .ref 6, .ref 7, .ref 8, .ref 9, .ref 10, .ref 11, .ref 12, .ref 13, .ref 14, vI (nn : Int), vI (ne : Int), vI (nm : Int)], cN 512 fr, cN 512 to, cI 512 wo, cN 512 te, cZ 512 hv, cI 401 fo, cI 512 no, cN 16 mb, cN 16 mw, cI 16 ml, cN 16 ma, cI 16 sk, cN 17 bo, cK 401 ga, cK 401 gb] : MP) rr ww → Post rr ww := by rw [← hPost]; exact fun _ _ h => h
  clear hPost
  show WM mX8_atEnd 0 0 Post 17 0 [(0, .ref 0), (1, .ref 1)] [] [ob 8 [.ref 15, .ref 16, vZ ho], ob 1 [.ref 2, .ref 3, .ref 4, .ref 5, .ref 6, .ref 7, .ref 8, .ref 9, .ref 10, .ref 11, .ref 12, .ref 13, .ref 14, vI (nn : Int), vI (ne : Int), vI (nm : Int)], cN 512 fr, cN 512 to, cI 512 wo, cN 512 te, cZ 512 hv, cI 401 fo, cI 512 no, cN 16 mb, cN 16 mw, cI 16 ml, cN 16 ma, cI 16 sk, cN 17 bo, cK 401 ga, cK 401 gb] 0 0
  refine sq_ok rfl [(.aload_n 0, 0, 0, 0), (.getfield 9, 8, 0, 0), (.aload_n 1, 0, 0, 0)] 0 _ _ _ _ _ (by decide +kernel) ?_
  show WM mX8_atEnd 0 0 Post 17 5 [(0, .ref 0), (1, .ref 1)] [.ref 1, .ref 15] [ob 8 [.ref 15, .ref 16, vZ ho], ob 1 [.ref 2, .ref 3, .ref 4, .ref 5, .ref 6, .ref 7, .ref 8, .ref 9, .ref 10, .ref 11, .ref 12, .ref 13, .ref 14, vI (nn : Int), vI (ne : Int), vI (nm : Int)], cN 512 fr, cN 512 to, cI 512 wo, cN 512 te, cZ 512 hv, cI 401 fo, cI 512 no, cN 16 mb, cN 16 mw, cI 16 ml, cN 16 ma, cI 16 sk, cN 17 bo, cK 401 ga, cK 401 gb] 0 0
  refine wm_callV (y := mX8_atEnd) mX1_lastNode [1, 2, 3, 4, 5, 6, 7, 8, 9, 10, 11, 12, 13, 14] (pc := 5) (rest := [.ref 15]) (mc' := 0) (ms' := 0) (by decide +kernel) kX8_89 (c_X1_lastNode fr to wo te hv fo no mb mw ml ma sk bo nn ne nm hn1) rfl rfl ⟨_, rfl, rfl⟩ ⟨Nat.le_of_ble_eq_true rfl, Nat.le_of_ble_eq_true rfl⟩ ⟨Nat.le_of_ble_eq_true rfl, Nat.le_of_ble_eq_true rfl⟩ (Nat.le_of_ble_eq_true rfl) rfl rfl (Nat.le_of_ble_eq_true rfl) rfl ?_
  rintro _ _ ⟨rfl, rfl⟩
  show WM mX8_atEnd 0 0 Post 17 8 [(0, .ref 0), (1, .ref 1)] [vI (((nn - 1) : Nat) : Int), .ref 15] [ob 8 [.ref 15, .ref 16, vZ ho], ob 1 [.ref 2, .ref 3, .ref 4, .ref 5, .ref 6, .ref 7, .ref 8, .ref 9, .ref 10, .ref 11, .ref 12, .ref 13, .ref 14, vI (nn : Int), vI (ne : Int), vI (nm : Int)], cN 512 fr, cN 512 to, cI 512 wo, cN 512 te, cZ 512 hv, cI 401 fo, cI 512 no, cN 16 mb, cN 16 mw, cI 16 ml, cN 16 ma, cI 16 sk, cN 17 bo, cK 401 ga, cK 401 gb] 0 0
  refine sq_ok rfl [(.laload, 0, 0, 0), (.lreturn, 0, 0, 0)] 8 _ _ _ _ _ (by decide +kernel) ?_
  show ∃ j8 : Nat, mj 401 (kI (((nn - 1) : Nat) : Int)) j8 ∧ ((0 ≤ 0 ∧ 0 ≤ 0) ∧ Post (some (vJ ((ga j8 : Nat) : Int))) [ob 8 [.ref 15, .ref 16, vZ ho], ob 1 [.ref 2, .ref 3, .ref 4, .ref 5, .ref 6, .ref 7, .ref 8, .ref 9, .ref 10, .ref 11, .ref 12, .ref 13, .ref 14, vI (nn : Int), vI (ne : Int), vI (nm : Int)], cN 512 fr, cN 512 to, cI 512 wo, cN 512 te, cZ 512 hv, cI 401 fo, cI 512 no, cN 16 mb, cN 16 mw, cI 16 ml, cN 16 ma, cI 16 sk, cN 17 bo, cK 401 ga, cK 401 gb])
  refine ⟨(nn - 1), ⟨by omega, by omega, rfl⟩, ?_⟩
  refine ⟨⟨Nat.le_refl _, Nat.le_refl _⟩, hPo _ _ ?_⟩
  exact ⟨rfl, rfl⟩
