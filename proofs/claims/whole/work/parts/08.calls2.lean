/-! THE ENGINE, 5: the kinds of calls -/
theorem mPc_blind {D : va_G} {cA : Nat → ClassId} {ws : va_W} {av : List Value} {sz : Nat} : FrameBlind (va_Pc av (fun U => U.heap.size = sz ∧ va_P D mcl ws U.heap ∧ va_K D mcl (mvT cA) U ∧ mNs U ∧ va_D (fun _ => True) ws)) := by
  intro a U g mk q
  obtain ⟨q0, q1, qP, qK, qN, qD⟩ := q
  exact ⟨q0, q1, qP, va_K.moved (u := U) (U := U.calling g mk a) (Vm.Alike.refl U.vm) qK, mNs.same rfl qN, qD⟩
theorem mPc_at {D : va_G} {cA : Nat → ClassId} {ws : va_W} {av : List Value} {H : Heap} {s : State} {A : Nat → Prop} (hP : va_P D mcl ws H) (hD : va_D A ws) (hK : va_K D mcl (mvT cA) s) (hN : mNs s) {a : Array Value} (ha : a = av.toArray) : ∀ U : State, U.heap = H → s.WarmedH U.vm → va_Pc av (fun U => U.heap.size = H.size ∧ va_P D mcl ws U.heap ∧ va_K D mcl (mvT cA) U ∧ mNs U ∧ va_D (fun _ => True) ws) a U := by
  intro U hU hW
  exact ⟨ha, by rw [hU], by rw [hU]; exact hP, va_K.moved hW.alike hK, mNs.warm hW hN, hD.weaken (fun _ _ _ _ => trivial)⟩
theorem mCallB {y y' : MY} {mc ms mc' ms' idx n : Nat} {s : State} {args : Array Value} (hk : mLk y' n) (hl : Cond.methodLink y.1.cls idx y'.1 ∈ lw_tbl) (hts : ∀ w ∈ lwg, w.before args s = true) (hR : y'.2.2.2.2.1 + 1 ≤ y.2.2.2.2.1 ∧ 8 + (y'.2.2.1 + 11) + y'.2.2.2.2.2.1 ≤ y.2.2.2.2.2.1) :
    CallB (rmY y mc ms) s args y.1.cls idx y'.1 y'.2.1 y'.2.2.1 y'.2.2.2.1 (wsY y') (rmY y' mc' ms') mc' ms' n :=
  callB_of (ws' := lwg) n hts (wsY_good hk.2.1) rfl rfl rfl (hts _ (lwg_in hk.1 rfl)) (hts _ (lwg_in hl rfl)) ⟨hk.2.2.1.1, hk.2.2.1.2, hk.2.2.2⟩ hR
theorem map_rev_app (ρ : Nat → Nat) (f : Nat → Nat) (av rest : List Value) : ((av.map (mvV f)).reverse ++ rest).map (mvV ρ) = (av.map (mvV (fun i => ρ (f i)))).reverse ++ rest.map (mvV ρ) := by
  rw [List.map_append, List.map_reverse, List.map_map]
  congr 2
  apply List.map_congr_left
  intro v _
  exact mvV_comp ρ f v
section
variable {y : MY} (y' : MY) {mc ms n0 : Nat} {Post : MP} {pc nc ns idx mc' ms' : Nat} {L : ML} {rest : List Value} {w : MW} {Post' : MP} {av : List Value} {wl : MW} (σ : List Nat)
/-- invokevirtual -/
theorem wm_callV {i0 ci n : Nat} {As : List Value} {fs : List Value} (hd : decode y.2.1 pc = .ok (.invokevirtual idx, 3)) (hk : mLV y.1.cls idx y' n) (hct : CT y' mc' ms' (.ref i0 :: As) wl Post') (hn : As.length = n) (hrecv : wl[i0]? = some (.inr (ci, fs))) (hci : ∃ r : vw_C, mcl[ci]? = some r ∧ r.1 = y'.1.cls)
    (hR : y'.2.2.2.2.1 + 1 ≤ y.2.2.2.2.1 ∧ 8 + (y'.2.2.1 + 11) + y'.2.2.2.2.2.1 ≤ y.2.2.2.2.2.1) (hc : nc + mc' ≤ mc ∧ ns + ms' ≤ ms) (hs : (rest.map fun v => v.category).sum ≤ 8) (hin : mIn σ w wl) (hnd : va_nd σ = true) (h0 : n0 ≤ w.length) (hwf : mwfA w L rest = true)
    (k : ∀ r wl', Post' r wl' → WM y mc ms Post n0 (pc + 3) L ((r.map (mvV (sg σ w.length))).toList ++ rest) (mrg σ w wl') (nc + mc') (ns + ms')) : WM y mc ms Post n0 pc L (((Value.ref i0 :: As).map (mvV (sg σ w.length))).reverse ++ rest) w nc ns := by
  refine so_call (y' := y') (av := .ref i0 :: As) (rest := rest) ?_ hin hnd h0 hwf k
  intro p l e s m args below meth c D cA A ρ H locs ls G hls hP hD
  obtain ⟨hx, hb, hr, hml, hown, hts, hlk, hnm, hKK, hN, hA⟩ := id G
  rw [map_rev_app]
  obtain ⟨r, hr1, hr2⟩ := hci
  have hrc := va_recv hKK hP hr1 (mvW_at (cA := cA) (ρ := fun i => ρ (sg σ w.length i)) hrecv)
  rw [hr2] at hrc
  exact va_runV (C := y'.1.cls) (b := ρ (sg σ w.length i0)) (As := As.map (mvV (fun i => ρ (sg σ w.length i)))) (rest := rest.map (mvV ρ)) ⟨hx, hb, hml, hown, hts⟩ (hct l D cA (fun i => ρ (sg σ w.length i)) H.size)
    ⟨mCallB hk.1 hk.2.1 hts hR, hts _ (lwg_in hk.2.2.1 rfl), hts _ (lwg_in hk.2.2.2 rfl)⟩ ⟨mPc_blind, hrc, mPc_at hP hD hKK hN rfl⟩ rfl (by simpa using hn) hls (by simp [mvV]) (by rw [cat_sum]; exact lv_room hs) hd hc
/-- invokestatic -/
theorem wm_callS {n : Nat} (hd : decode y.2.1 pc = .ok (.invokestatic idx, 3)) (hk : mLS y.1.cls idx y' n) (hct : CT y' mc' ms' av wl Post') (hn : av.length = n)
    (hR : y'.2.2.2.2.1 + 1 ≤ y.2.2.2.2.1 ∧ 8 + (y'.2.2.1 + 11) + y'.2.2.2.2.2.1 ≤ y.2.2.2.2.2.1) (hc : nc + mc' ≤ mc ∧ ns + ms' ≤ ms) (hs : (rest.map fun v => v.category).sum ≤ 8) (hin : mIn σ w wl) (hnd : va_nd σ = true) (h0 : n0 ≤ w.length) (hwf : mwfA w L rest = true)
    (k : ∀ r wl', Post' r wl' → WM y mc ms Post n0 (pc + 3) L ((r.map (mvV (sg σ w.length))).toList ++ rest) (mrg σ w wl') (nc + mc') (ns + ms')) : WM y mc ms Post n0 pc L ((av.map (mvV (sg σ w.length))).reverse ++ rest) w nc ns := by
  refine so_call (y' := y') (av := av) (rest := rest) ?_ hin hnd h0 hwf k
  intro p l e s m args below meth c D cA A ρ H locs ls G hls hP hD
  obtain ⟨hx, hb, hr, hml, hown, hts, hlk, hnm, hKK, hN, hA⟩ := id G
  rw [map_rev_app]
  exact va_runS (As := av.map (mvV (fun i => ρ (sg σ w.length i)))) (rest := rest.map (mvV ρ)) ⟨hx, hb, hml, hown, hts⟩ (hct l D cA (fun i => ρ (sg σ w.length i)) H.size)
    ⟨mCallB hk.1 hk.2.1 hts hR, hts _ (lwg_in hk.2.2 rfl)⟩ ⟨mPc_blind, mPc_at hP hD hKK hN rfl⟩ rfl (by simpa using hn) hls rfl (by rw [cat_sum]; exact lv_room hs) hd hc
/-- invokespecial of a constructor -/
theorem wm_callI {i0 n : Nat} {As : List Value} (hd : decode y.2.1 pc = .ok (.invokespecial idx, 3)) (hk : mLI y.1.cls idx y' n) (hct : CT y' mc' ms' (.ref i0 :: As) wl Post') (hn : As.length = n)
    (hR : y'.2.2.2.2.1 + 1 ≤ y.2.2.2.2.1 ∧ 8 + (y'.2.2.1 + 11) + y'.2.2.2.2.2.1 ≤ y.2.2.2.2.2.1) (hc : nc + mc' ≤ mc ∧ ns + ms' ≤ ms) (hs : (rest.map fun v => v.category).sum ≤ 8) (hin : mIn σ w wl) (hnd : va_nd σ = true) (h0 : n0 ≤ w.length) (hwf : mwfA w L rest = true)
    (k : ∀ r wl', Post' r wl' → WM y mc ms Post n0 (pc + 3) L ((r.map (mvV (sg σ w.length))).toList ++ rest) (mrg σ w wl') (nc + mc') (ns + ms')) : WM y mc ms Post n0 pc L (((Value.ref i0 :: As).map (mvV (sg σ w.length))).reverse ++ rest) w nc ns := by
  refine so_call (y' := y') (av := .ref i0 :: As) (rest := rest) ?_ hin hnd h0 hwf k
  intro p l e s m args below meth c D cA A ρ H locs ls G hls hP hD
  obtain ⟨hx, hb, hr, hml, hown, hts, hlk, hnm, hKK, hN, hA⟩ := id G
  rw [map_rev_app]
  have hB := mCallB (mc := mc) (ms := ms) (mc' := mc') (ms' := ms') hk.1 hk.2.1 hts hR
  rw [hk.2.2.2.2] at hB
  exact va_runI (b := ρ (sg σ w.length i0)) (As := As.map (mvV (fun i => ρ (sg σ w.length i)))) (rest := rest.map (mvV ρ)) ⟨hx, hb, hml, hown, hts⟩ (hct l D cA (fun i => ρ (sg σ w.length i)) H.size)
    ⟨hB, hk.2.2.2.1, hts _ (lwg_in hk.2.2.1 rfl)⟩ ⟨mPc_blind, mPc_at hP hD hKK hN rfl⟩ rfl (by simpa using hn) hls (by simp [mvV]) (by rw [cat_sum]; exact lv_room hs) hd hc
/-- invokespecial of a nest mate's constructor -/
theorem wm_callN {i0 n : Nat} {As : List Value} (hd : decode y.2.1 pc = .ok (.invokespecial idx, 3)) (hk : mLN y.1.cls idx y' n) (hct : CT y' mc' ms' (.ref i0 :: As) wl Post') (hn : As.length = n)
    (hR : y'.2.2.2.2.1 + 1 ≤ y.2.2.2.2.1 ∧ 8 + (y'.2.2.1 + 11) + y'.2.2.2.2.2.1 ≤ y.2.2.2.2.2.1) (hc : nc + mc' ≤ mc ∧ ns + ms' ≤ ms) (hs : (rest.map fun v => v.category).sum ≤ 8) (hin : mIn σ w wl) (hnd : va_nd σ = true) (h0 : n0 ≤ w.length) (hwf : mwfA w L rest = true)
    (k : ∀ r wl', Post' r wl' → WM y mc ms Post n0 (pc + 3) L ((r.map (mvV (sg σ w.length))).toList ++ rest) (mrg σ w wl') (nc + mc') (ns + ms')) : WM y mc ms Post n0 pc L (((Value.ref i0 :: As).map (mvV (sg σ w.length))).reverse ++ rest) w nc ns := by
  refine so_call (y' := y') (av := .ref i0 :: As) (rest := rest) ?_ hin hnd h0 hwf k
  intro p l e s m args below meth c D cA A ρ H locs ls G hls hP hD
  obtain ⟨hx, hb, hr, hml, hown, hts, hlk, hnm, hKK, hN, hA⟩ := id G
  rw [map_rev_app]
  obtain ⟨k1, ⟨host, k2⟩, k3, k4, k5⟩ := hk
  have hB := va_cnB (args := args) (mc := mc') (ms := ms') (R := rmY y mc ms) (rm := rmY y' mc' ms') (ws := wsY y') (ws' := lwg) (bytes := y'.2.1) (maxL := y'.2.2.1) (ret := y'.2.2.2.1) n hts (wsY_good k1.2.1) rfl rfl rfl (hN _ _ _ host k2) (hts _ (lwg_in k1.1 rfl)) ⟨k1.2.2.1.1, k1.2.2.1.2, k1.2.2.2⟩ hR
  rw [k5] at hB
  exact va_runIN (b := ρ (sg σ w.length i0)) (As := As.map (mvV (fun i => ρ (sg σ w.length i)))) (rest := rest.map (mvV ρ)) ⟨hx, hb, hml, hown, hts⟩ (hct l D cA (fun i => ρ (sg σ w.length i)) H.size)
    ⟨hB, k4, hts _ (lwg_in k3 rfl)⟩ ⟨mPc_blind, mPc_at hP hD hKK hN rfl⟩ rfl (by simpa using hn) hls (by simp [mvV]) (by rw [cat_sum]; exact lv_room hs) hd hc
end
/-- Object.<init> -/
theorem wm_obj {y : MY} {mc ms n0 : Nat} {Post : MP} {pc nc ns idx a : Nat} {L : ML} {rest : List Value} {w : MW} (hd : decode y.2.1 pc = .ok (.invokespecial idx, 3)) (hl : Cond.methodLink y.1.cls idx objectInit ∈ lw_tbl ∧ Cond.instanceMethod objectInit ∈ lw_tbl ∧ Cond.code objectInit ⟨#[0xb1]⟩ 1 none ∈ lw_tbl)
    (hR : 1 ≤ y.2.2.2.2.1 ∧ (rest.map fun v => v.category).sum + 12 ≤ y.2.2.2.2.2.1) (k : WM y mc ms Post n0 (pc + 3) L rest w nc ns) : WM y mc ms Post n0 pc L (.ref a :: rest) w nc ns := by
  intro p l e s m args below meth c D cA A ρ0 ρ H locs ls G hn hP hD hS hls
  obtain ⟨hx, hb, hr, hml, hown, hts, hlk, hnm, hKK, hN, hA⟩ := id G
  refine W.objInit hx hb hown (hts _ (lwg_in hl.1 rfl)) (hts _ (lwg_in hl.2.1 rfl)) (hts _ (lwg_in hl.2.2 rfl)) rfl (by rw [hml]; exact hls.1) rfl hd hR.1 ?_ (k p l e s m args below meth c D cA A ρ0 ρ H locs ls G hn hP hD hS hls)
  show 2 * 0 + _ + 12 ≤ y.2.2.2.2.2.1
  rw [cat_sum]
  omega
/-- System.arraycopy of ints -/
theorem wm_copy {y : MY} {mc ms n0 : Nat} {Post : MP} {pc nc ns idx a0 a1 : Nat} {L : ML} {rest : List Value} {w : MW} {m0 m1 : Nat} {f g : Nat → Int32} {sp dp n : Int32} (hd : decode y.2.1 pc = .ok (.invokestatic idx, 3)) (hl : Cond.methodLink y.1.cls idx arraycopyName ∈ lw_tbl ∧ Cond.native arraycopyName ∈ lw_tbl ∧ Cond.static arraycopyName ∈ lw_tbl ∧ Cond.initialized "java/lang/System" ∈ lw_tbl)
    (ha0 : w[a0]? = some (.inl (0, m0, .inl f))) (ha1 : w[a1]? = some (.inl (0, m1, .inl g))) (h1 : ¬ sp < 0) (h2 : ¬ dp < 0) (h3 : ¬ n < 0) (h4 : sp.toNatClampNeg + n.toNatClampNeg ≤ m0) (h5 : dp.toNatClampNeg + n.toNatClampNeg ≤ m1)
    (hR : 1 ≤ y.2.2.2.2.1 ∧ (rest.map fun v => v.category).sum + (nativeFrameWords "java/lang/System" "arraycopy" 5 + 11) ≤ y.2.2.2.2.2.1) (k : WM y mc ms Post n0 (pc + 3) L rest (w.set a1 (.inl (0, m1, .inl (va_cpy f g sp.toNatClampNeg dp.toNatClampNeg n.toNatClampNeg)))) nc ns) : WM y mc ms Post n0 pc L (.int n :: .int dp :: .ref a1 :: .int sp :: .ref a0 :: rest) w nc ns := by
  intro p l e s m args below meth c D cA A ρ0 ρ H locs ls G hn hP hD hS hls
  obtain ⟨hx, hb, hr, hml, hown, hts, hlk, hnm, hKK, hN, hA⟩ := id G
  refine va_copyi hx hb (by rw [hml]; exact hls.1.symm) hown (hts _ (lwg_in hl.1 rfl)) (hts _ (lwg_in hl.2.1 rfl)) (hts _ (lwg_in hl.2.2.1 rfl)) (hts _ (lwg_in hl.2.2.2 rfl)) hKK hP hD hS a0 a1 0 0 (mvW_at ha0) (mvW_at ha1) rfl rfl rfl h1 h2 h3 h4 h5 (fun _ _ => rfl) hR.1 (by rw [cat_sum]; exact hR.2) hd (fun H1 locs1 hP1 hD1 hS1 => ?_)
  exact k p l e s m args below meth c D cA A ρ0 ρ H1 locs1 ls G hn (by rw [mvW_set]; exact hP1) (by rw [mvW_set]; exact hD1) hS1 hls
