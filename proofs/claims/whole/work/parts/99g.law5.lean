/-! THE LAW, 5: one call on the class, the same on the reference -/
abbrev w2 (c : CS) (m : MS) : MW := cW c ++ shW 112 (mW m)
abbrev LL (i : Int32) : ML := [(1, .ref 0), (2, .ref 112), (3, .int i)]
abbrev WQ (X : SX) : Nat → ML → List Value → MW → Nat → Nat → Prop := WL X mL_law 600000 7302250 (fun r _ => r = some (vI 1)) 0
theorem cW_wf (c : CS) : mwfW 112 (cW c) = true := rfl
theorem mW_wf (m : MS) : mwfW 51 (mW m) = true := rfl
set_option maxRecDepth 100000 in
theorem w2_len (c : CS) (m : MS) : (w2 c m).length = 163 := rfl
theorem w2_av (c : CS) (m : MS) : avU ((List.range 112).drop 30) 163 (List.range 112) 0 (w2 c m) = true := rfl
theorem w2_wf (c : CS) (m : MS) : mwfW 163 (w2 c m) = true := rfl
/-- values that hold no reference -/
def noR (v : Value) : Prop := (∀ f, mvV f v = v) ∧ ∀ n, mwf n v = true
theorem noR_I (x : Int32) : noR (.int x) := ⟨fun _ => rfl, fun _ => rfl⟩
theorem noR_J (x : Int64) : noR (.long x) := ⟨fun _ => rfl, fun _ => rfl⟩
theorem noR_map {As : List Value} (h : ∀ v ∈ As, noR v) (f : Nat → Nat) : As.map (mvV f) = As := by
  induction As with
  | nil => rfl
  | cons a l ih => rw [List.map_cons, (h a List.mem_cons_self).1, ih (fun v hv => h v (List.mem_cons_of_mem _ hv))]
set_option maxRecDepth 100000 in
theorem wl_C {X : SX} (yC : MY) {K : Int → Value} {pc idx n mc nc ns : Nat} {i : Int32} {c : CS} {m : MS} {As : List Value} {PC : MP} (hd : decode mL_law.2.1 pc = .ok (.invokevirtual idx, 3)) (hk : mLV mL_law.1.cls idx yC n) (hct : CTm yC mc (4 * mc) 30 (.ref 0 :: As) (cW c) PC) (hn : As.length = n) (hci : ∃ r : vw_C, mcl[11]? = some r ∧ r.1 = yC.1.cls)
    (hR : yC.2.2.2.2.1 + 1 ≤ mL_law.2.2.2.2.1 ∧ 8 + (yC.2.2.1 + 11) + yC.2.2.2.2.2.1 ≤ mL_law.2.2.2.2.2.1) (hc : nc + mc ≤ 600000 ∧ ns + 4 * mc ≤ 7302250) (hA : ∀ v ∈ As, noR v) (hC : ∀ r w, PC r w → (∃ c', w = cW c') ∧ ∃ z, r = some (K z)) (hK : ∀ z, noR (K z))
    (k : ∀ c1 z, PC (some (K z)) (cW c1) → WQ X (pc + 3) (LL i) [K z] (w2 c1 m) (nc + mc) (ns + 4 * mc)) : WQ X pc (LL i) (As.reverse ++ [.ref 0]) (w2 c m) nc ns := by
  have h := wm_callAX (X := X) (y := mL_law) (mc := 600000) (ms := 7302250) (n0 := 0) (n1 := 30) (Post := fun r _ => r = some (vI 1)) (L := LL i) (w := w2 c m) (rest := []) (nc := nc) (ns := ns) yC (List.range 112) (i0 := 0) (ci := 11) (As := As) (pc := pc) hd hk hct hn rfl hci hR hc (Nat.zero_le _) (mIn_A rfl (cW_wf c)) (by decide +kernel) (Nat.zero_le _) (by decide +kernel) (by rw [w2_len]; exact w2_av c m) (by rw [w2_len]; rfl) rfl (fun r wl hp => by
    obtain ⟨⟨c', rfl⟩, _⟩ := hC r wl hp
    rw [cW_len, cW_len]
    exact Nat.le_refl _) (fun r wl hp => by
    obtain ⟨⟨c', rfl⟩, z, rfl⟩ := hC r wl hp
    rw [mrg_A (cW_len c) (cW_len c') (cW_wf c')]
    have := k c' z hp
    rw [← (hK z).1 (sg (List.range 112) (w2 c m).length)] at this
    exact this)
  have e : ((Value.ref 0 :: As).map (mvV (sg (List.range 112) (w2 c m).length))).reverse ++ [] = As.reverse ++ [.ref 0] := by
    rw [List.map_cons, noR_map hA, List.reverse_cons, List.append_nil]
    show As.reverse ++ [.ref (sg (List.range 112) _ 0)] = _
    rw [sg_A (by omega)]
  rw [e] at h
  exact h
set_option maxRecDepth 100000 in
theorem wl_M {X : SX} (yM : MY) {v : Value} {pc idx n nc ns : Nat} {i : Int32} {c1 : CS} {m : MS} {As : List Value} {PM : MP} (hd : decode mL_law.2.1 pc = .ok (.invokevirtual idx, 3)) (hk : mLV mL_law.1.cls idx yM n) (hct : CT yM 0 0 (.ref 0 :: As) (mW m) PM) (hn : As.length = n) (hci : ∃ r : vw_C, mcl[12]? = some r ∧ r.1 = yM.1.cls)
    (hR : yM.2.2.2.2.1 + 1 ≤ mL_law.2.2.2.2.1 ∧ 8 + (yM.2.2.1 + 11) + yM.2.2.2.2.2.1 ≤ mL_law.2.2.2.2.2.1) (hc : nc ≤ 600000 ∧ ns ≤ 7302250) (hA : ∀ v ∈ As, noR v) (hv : noR v) (hvc : v.category ≤ 8)
    (k : ∀ r w, PM r w → ∃ m' u, w = mW m' ∧ r = some u ∧ noR u ∧ WQ X (pc + 3) (LL i) [u, v] (w2 c1 m') nc ns) : WQ X pc (LL i) (As.reverse ++ [.ref 112, v]) (w2 c1 m) nc ns := by
  have h := wm_callVX (X := X) (y := mL_law) (mc := 600000) (ms := 7302250) (n0 := 0) (Post := fun r _ => r = some (vI 1)) (L := LL i) (w := w2 c1 m) (rest := [v]) (nc := nc) (ns := ns) yM (sB_ 112 51) (i0 := 0) (ci := 12) (As := As) (pc := pc) (mc' := 0) (ms' := 0) hd hk hct hn rfl hci hR hc (by show v.category + 0 ≤ 8; exact hvc) (mIn_B (cW_len c1) (mW_len m) (mW_wf m)) (by decide +kernel) (Nat.zero_le _) (by
    unfold mwfA
    rw [w2_len, w2_wf]
    show (match mwf 163 v with | true => true | false => false) = true
    rw [hv.2]) (fun r wl hp => by
    obtain ⟨m', u, rfl, rfl, hu, hw⟩ := k r wl hp
    rw [mrg_B (cW_len c1) (mW_len m) (mW_len m') (mW_wf m')]
    rw [← hu.1 (sg (sB_ 112 51) (w2 c1 m).length)] at hw
    exact hw)
  have e : ((Value.ref 0 :: As).map (mvV (sg (sB_ 112 51) (w2 c1 m).length))).reverse ++ [v] = As.reverse ++ [.ref 112, v] := by
    rw [List.map_cons, noR_map hA, List.reverse_cons, List.append_assoc]
    show As.reverse ++ [.ref (sg (sB_ 112 51) _ 0), v] = _
    rw [sg_B (by omega)]
  rw [e] at h
  exact h
/-- the room so far: what the two objects took, and the rows of arcs that grew -/
def rmC (c : CS) (nc ns : Nat) : Prop := nc + 1024 = 163 + (p_nA c.P + p_nA c.Q) ∧ ns + 4096 = 208130 + 4 * (p_nA c.P + p_nA c.Q)
/-- one branch of the law: the class's call, the reference's, the same answer -/
theorem br {X : SX} {K : Int → Value} {c : CS} {m : MS} {yC yM : MY} {As : List Value} (S : STEP K c m yC yM As) {pcC pcM iC iM n nc ns : Nat} {i : Int32} (hdC : decode mL_law.2.1 pcC = .ok (.invokevirtual iC, 3)) (hkC : mLV mL_law.1.cls iC yC n) (hdM : decode mL_law.2.1 pcM = .ok (.invokevirtual iM, 3)) (hkM : mLV mL_law.1.cls iM yM n) (hn : As.length = n) (hciC : ∃ r : vw_C, mcl[11]? = some r ∧ r.1 = yC.1.cls) (hciM : ∃ r : vw_C, mcl[12]? = some r ∧ r.1 = yM.1.cls)
    (hRC : yC.2.2.2.2.1 + 1 ≤ mL_law.2.2.2.2.1 ∧ 8 + (yC.2.2.1 + 11) + yC.2.2.2.2.2.1 ≤ mL_law.2.2.2.2.2.1) (hRM : yM.2.2.2.2.1 + 1 ≤ mL_law.2.2.2.2.1 ∧ 8 + (yM.2.2.1 + 11) + yM.2.2.2.2.2.1 ≤ mL_law.2.2.2.2.2.1) (hr : rmC c nc ns) (hA : ∀ v ∈ As, noR v) (hK : ∀ z, noR (K z)) (hK2 : ∀ z, (K z).category ≤ 8)
    (hmid : ∀ v w nc ns, WQ X pcM (LL i) (As.reverse ++ [.ref 112, v]) w nc ns → WQ X (pcC + 3) (LL i) [v] w nc ns) (hcmp : ∀ z w nc ns, WQ X 939 (LL i) [] w nc ns → WQ X (pcM + 3) (LL i) [K z, K z] w nc ns)
    (k : ∀ c' m' nc' ns', IV c' m' → rmC c' nc' ns' → WQ X 939 (LL i) [] (w2 c' m') nc' ns') : WQ X pcC (LL i) (As.reverse ++ [.ref 0]) (w2 c m) nc ns := by
  obtain ⟨mc, PC, PM, hC, hM, hroom, hsh, hJ⟩ := S
  have hr1 := hr.1
  have hr2 := hr.2
  refine wl_C yC hdC hkC hC hn hciC hRC ⟨by omega, by omega⟩ hA hsh hK (fun c1 z hp => ?_)
  refine hmid _ _ _ _ (wl_M yM hdM hkM hM hn hciM hRM ⟨by omega, by omega⟩ hA (hK z) (hK2 z) (fun r w hq => ?_))
  obtain ⟨⟨z', e1, e2⟩, c', m', e3, e4, hI, hnA⟩ := hJ _ _ r w hp hq
  injection e1 with e1
  refine ⟨m', K z', e4, e2, hK z', ?_⟩
  rw [e1]
  refine hcmp _ _ _ _ ?_
  show WQ X 939 (LL i) [] (cW c1 ++ shW 112 (mW m')) _ _
  rw [e3]
  exact k c' m' _ _ hI ⟨by omega, by omega⟩
