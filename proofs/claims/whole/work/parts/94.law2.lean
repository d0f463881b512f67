/-! THE LAW, 2: calls, the script -/
theorem WL.locals {X : SX} {y : MY} {mc ms : Nat} {Post : MP} {n0 pc : Nat} {L L' : ML} {st : List Value} {w : MW} {nc ns : Nat} (k : WL X y mc ms Post n0 pc L' st w nc ns) (h : ∀ q ∈ L', q ∈ L) : WL X y mc ms Post n0 pc L st w nc ns := by
  intro p l e s m args below meth c D cA A ρ0 ρ H locs ls G hn hP hD hS hl
  refine k p l e s m args below meth c D cA A ρ0 ρ H locs ls G hn hP hD hS ⟨hl.1, hl.2.1, fun q hq => ?_⟩
  rcases List.mem_append.mp hq with hq | hq
  · obtain ⟨q', h1, rfl⟩ := List.mem_map.mp hq
    exact hl.2.2 _ (List.mem_append_left _ (List.mem_map.mpr ⟨q', h q' h1, rfl⟩))
  · exact hl.2.2 _ (List.mem_append_right _ hq)

theorem WL.pick {X : SX} {y : MY} {mc ms : Nat} {Post : MP} {n0 pc : Nat} {L L' : ML} {st : List Value} {w : MW} {nc ns : Nat} (ks : List Nat) (h : ks.filterMap (fun k => L[k]?) = L') (k : WL X y mc ms Post n0 pc L' st w nc ns) : WL X y mc ms Post n0 pc L st w nc ns := by
  refine k.locals (fun q hq => ?_)
  rw [← h] at hq
  obtain ⟨i, -, hi⟩ := List.mem_filterMap.mp hq
  exact List.mem_of_getElem? hi
/-! Math.max, Math.min: the machine has rows of its own for them -/

theorem WL.move {X : SX} {y : MY} {mc ms : Nat} {Post : MP} {n0 pc : Nat} {L' : ML} {st' : List Value} {w w' : MW} {nc ns : Nat} (τ : List Nat) (k : WL X y mc ms Post n0 pc L' st' w' nc ns) (hin : mIn τ w w') (hnd : va_nd τ = true) (hn : (List.range n0).all (fun i => Nat.beq (sg τ w.length i) i) = true) :
    WL X y mc ms Post n0 pc (mvL (sg τ w.length) L') (st'.map (mvV (sg τ w.length))) w nc ns := by
  obtain ⟨hlen, hw⟩ := mIn_spec hin
  intro p l e s m args below meth c D cA A ρ0 ρ H locs ls G hρ hP hD hS hl
  have hn2 : ∀ i, i < n0 → sg τ w.length i = i := fun i hi => Nat.eq_of_beq_eq_true (List.all_eq_true.mp hn i (List.mem_range.mpr hi))
  have k1 := k p l e s m args below meth c D cA A ρ0 (fun i => ρ (sg τ w.length i)) H locs ls G (fun i hi => by simp only [hn2 i hi]; exact hρ i hi) (mv_sub hP hw) (mv_subD hD hw (fun i j hi hj => sg_inj hnd i j (by omega) (by omega))) hS (by rw [mvL_comp] at hl; exact hl)
  have e1 : (st'.map (mvV (sg τ w.length))).map (mvV ρ) = st'.map (mvV (fun i => ρ (sg τ w.length i))) := by
    rw [List.map_map]
    apply List.map_congr_left
    intro v _
    exact mvV_comp _ _ v
  rw [e1]
  exact k1

theorem so_callAX {X : SX} {y y' : MY} {mc ms n0 n1 : Nat} {Post Post' : MP} {pc mc' ms' nc ns : Nat} {L : ML} {rest av st : List Value} {w wl : MW} {σ : List Nat}
    (hrun : ∀ (p : Program) (l : Launch) (e : Env) (s : State) (m : MethodId) (args : Array Value) (below : List Frame) (meth : Method) (c : Code) (D : va_G) (cA : Nat → ClassId) (A : Nat → Prop) (ρ : Nat → Nat) (H : Heap) (locs : List Loc) (ls : Array Slot), mG y p s m args meth c D cA A → ls.size = y.2.2.1 → va_P D mcl (mvW cA (fun i => ρ (sg σ w.length i)) wl) H → va_D A (mvW cA (fun i => ρ (sg σ w.length i)) wl) →
      va_Run p l e (rmY y mc ms) s m args below meth c H locs nc ns mc' ms' (F0 m pc ls (st.map (mvV ρ))) (rest.map (mvV ρ)) (mvQ D cA (va_A (mvW cA (fun i => ρ (sg σ w.length i)) wl) H.size) n1 (fun i => ρ (sg σ w.length i)) Post' (av.map (mvV (fun i => ρ (sg σ w.length i)))).toArray) (va_A (mvW cA (fun i => ρ (sg σ w.length i)) wl) H.size))
    (hin : mIn σ w wl) (hnd : va_nd σ = true) (hb : n0 ≤ w.length) (hmv : mvB n0 (σ.drop n1) = true) (hwU : avU (σ.drop n1) w.length σ 0 w = true) (hwL : avL (σ.drop n1) w.length L = true) (hwR : avF (σ.drop n1) w.length rest = true) (hpl : ∀ r wl', Post' r wl' → wl.length ≤ wl'.length)
    (k : ∀ r wl', Post' r wl' → WL X y mc ms Post n0 (pc + 3) L ((r.map (mvV (sg σ w.length))).toList ++ rest) (mrg σ w wl') (nc + mc') (ns + ms')) : WL X y mc ms Post n0 pc L st w nc ns := by
  obtain ⟨hlen, hw⟩ := mIn_spec hin
  have hinj : ∀ i j, i < wl.length → j < wl.length → sg σ w.length i = sg σ w.length j → i = j := fun i j hi hj => sg_inj hnd i j (by omega) (by omega)
  intro p l e s m args below meth c D cA A ρ0 ρ H locs ls G hn hP hD hS hl
  have hA := G.1.2.2.2.2.2.2.2.2.2.2
  have hPc := mv_sub hP hw
  have hDc := mv_subD hD hw hinj
  have hF : ∀ q, va_A (mvW cA (fun i => ρ (sg σ w.length i)) wl) H.size q → A q := by
    intro q hq
    rcases hq with ⟨j, e', hj⟩ | hq
    · exact hDc.2 j _ hj
    · exact hA q (Nat.le_trans hS.1 hq)
  refine mv_after (hrun p l e s m args below meth c D cA A ρ H locs ls G.1 hl.1 hPc hDc) hS hF (fun r w' ρ' H1 locs1 hp h1 h2 h3 h4 h5 h6 => ?_)
  obtain ⟨ρn, hρn⟩ : ∃ ρn : Nat → Nat, ∀ j, ρn j = (match mix j σ 0 with | some i => ρ' i | none => if j < w.length then ρ j else ρ' (wl.length + (j - w.length))) := ⟨_, fun _ => rfl⟩
  have hσ : ∀ (i k : Nat), σ[i]? = some k → k < w.length := by
    intro i k hi
    have hil : i < wl.length := by rw [hlen]; exact (List.getElem?_eq_some_iff.mp hi).1
    have h1 := hw i _ (List.getElem?_eq_getElem hil)
    simp only [sg, hi] at h1
    exact (List.getElem?_eq_some_iff.mp h1).1
  have ha : ∀ i, ρn (sg σ w.length i) = ρ' i := by
    intro i
    by_cases hi : i < σ.length
    · have h1 : σ[i]? = some σ[i] := List.getElem?_eq_getElem hi
      have h2 : sg σ w.length i = σ[i] := by simp [sg, h1]
      rw [h2, hρn, mix_at hnd h1]
    · have h2 : sg σ w.length i = w.length + (i - σ.length) := by
        unfold sg
        rw [List.getElem?_eq_none (by omega)]
      rw [h2, hρn]
      have hm : mix (w.length + (i - σ.length)) σ 0 = none := by
        cases hm : mix (w.length + (i - σ.length)) σ 0 with
        | none => rfl
        | some q =>
          have := (mix_some hm).2
          rw [Nat.sub_zero] at this
          have := hσ q _ this
          omega
      rw [hm]
      simp only
      rw [if_neg (by omega)]
      congr 1
      omega
  have hc2 : ∀ j, j < w.length → (∀ i : Nat, σ[i]? ≠ some j) → ρn j = ρ j := by
    intro j hj hn
    rw [hρn]
    cases hm : mix j σ 0 with
    | none => simp only; rw [if_pos hj]
    | some q =>
      have := (mix_some hm).2
      rw [Nat.sub_zero] at this
      exact absurd this (hn q)
  have hc : ∀ j, j < w.length → nin j (σ.drop n1) = true → ρn j = ρ j := by
    intro j hj hnj
    rw [hρn]
    cases hm : mix j σ 0 with
    | none => simp only; rw [if_pos hj]
    | some q =>
      have h7 := (mix_some hm).2
      rw [Nat.sub_zero] at h7
      have h8 : q < n1 := by
        rcases Nat.lt_or_ge q n1 with h | h
        · exact h
        · have h9 : j ∈ σ.drop n1 := by
            apply List.mem_of_getElem? (i := q - n1)
            rw [List.getElem?_drop, show n1 + (q - n1) = q by omega]
            exact h7
          exact absurd h9 (nin_spec hnj)
      simp only
      rw [h2 q h8]
      simp [sg, h7]
  obtain ⟨j1, j2⟩ := mv_joinA (ρn := ρn) hP hD hw hlen h3 h4 (hpl r w' hp) ha (fun k o q1 q2 => avF_congr hc (avU_spec hwU k o q1 (fun j => by rw [Nat.zero_add]; exact q2 j))) hc2 h5 hF
  have k1 := k r w' hp p l e s m args below meth c D cA A ρ0 ρn H1 locs1 ls G (fun i hi => (hc i (by omega) (nin_lt hmv hi)).trans (hn i hi)) j1 j2 h6 (by rw [avL_congr hc hwL]; exact hl)
  have e5 : (((r.map (mvV (sg σ w.length))).toList ++ rest).map (mvV ρn)) = (r.map (mvV ρ')).toList ++ rest.map (mvV ρ) := by
    rw [List.map_append, avF_congr hc hwR]
    congr 1
    cases r with
    | none => rfl
    | some v =>
      simp only [Option.map_some, Option.toList_some, List.map_cons, List.map_nil]
      rw [mvV_comp]
      congr 2
      funext i
      exact ha i
  rw [e5] at k1
  exact k1

theorem wm_callVX {X : SX} {y : MY} (y' : MY) {mc ms n0 : Nat} {Post : MP} {pc nc ns idx mc' ms' : Nat} {L : ML} {rest : List Value} {w : MW} {Post' : MP} {wl : MW} (σ : List Nat) {i0 ci n : Nat} {As : List Value} {fs : List Value} (hd : decode y.2.1 pc = .ok (.invokevirtual idx, 3)) (hk : mLV y.1.cls idx y' n) (hct : CT y' mc' ms' (.ref i0 :: As) wl Post') (hn : As.length = n) (hrecv : wl[i0]? = some (.inr (ci, fs))) (hci : ∃ r : vw_C, mcl[ci]? = some r ∧ r.1 = y'.1.cls)
    (hR : y'.2.2.2.2.1 + 1 ≤ y.2.2.2.2.1 ∧ 8 + (y'.2.2.1 + 11) + y'.2.2.2.2.2.1 ≤ y.2.2.2.2.2.1) (hc : nc + mc' ≤ mc ∧ ns + ms' ≤ ms) (hs : (rest.map fun v => v.category).sum ≤ 8) (hin : mIn σ w wl) (hnd : va_nd σ = true) (h0 : n0 ≤ w.length) (hwf : mwfA w L rest = true)
    (k : ∀ r wl', Post' r wl' → WL X y mc ms Post n0 (pc + 3) L ((r.map (mvV (sg σ w.length))).toList ++ rest) (mrg σ w wl') (nc + mc') (ns + ms')) : WL X y mc ms Post n0 pc L (((Value.ref i0 :: As).map (mvV (sg σ w.length))).reverse ++ rest) w nc ns := by
  refine so_callX (y' := y') (av := .ref i0 :: As) (rest := rest) ?_ hin hnd h0 hwf k
  intro p l e s m args below meth c D cA A ρ H locs ls G hls hP hD
  obtain ⟨hx, hb, hr, hml, hown, hts, hlk, hnm, hKK, hN, hA⟩ := id G
  rw [map_rev_app]
  obtain ⟨r, hr1, hr2⟩ := hci
  have hrc := va_recv hKK hP hr1 (mvW_at (cA := cA) (ρ := fun i => ρ (sg σ w.length i)) hrecv)
  rw [hr2] at hrc
  exact va_runV (C := y'.1.cls) (b := ρ (sg σ w.length i0)) (As := As.map (mvV (fun i => ρ (sg σ w.length i)))) (rest := rest.map (mvV ρ)) ⟨hx, hb, hml, hown, hts⟩ (hct l D cA (fun i => ρ (sg σ w.length i)) H.size)
    ⟨mCallB hk.1 hk.2.1 hts hR, hts _ (lwg_in hk.2.2.1 rfl), hts _ (lwg_in hk.2.2.2 rfl)⟩ ⟨mPc_blind, hrc, mPc_at hP hD hKK hN rfl⟩ rfl (by simpa using hn) hls (by simp [mvV]) (by rw [cat_sum]; exact lv_room hs) hd hc

theorem wm_callIX {X : SX} {y : MY} (y' : MY) {mc ms n0 : Nat} {Post : MP} {pc nc ns idx mc' ms' : Nat} {L : ML} {rest : List Value} {w : MW} {Post' : MP} {wl : MW} (σ : List Nat) {i0 n : Nat} {As : List Value} (hd : decode y.2.1 pc = .ok (.invokespecial idx, 3)) (hk : mLI y.1.cls idx y' n) (hct : CT y' mc' ms' (.ref i0 :: As) wl Post') (hn : As.length = n)
    (hR : y'.2.2.2.2.1 + 1 ≤ y.2.2.2.2.1 ∧ 8 + (y'.2.2.1 + 11) + y'.2.2.2.2.2.1 ≤ y.2.2.2.2.2.1) (hc : nc + mc' ≤ mc ∧ ns + ms' ≤ ms) (hs : (rest.map fun v => v.category).sum ≤ 8) (hin : mIn σ w wl) (hnd : va_nd σ = true) (h0 : n0 ≤ w.length) (hwf : mwfA w L rest = true)
    (k : ∀ r wl', Post' r wl' → WL X y mc ms Post n0 (pc + 3) L ((r.map (mvV (sg σ w.length))).toList ++ rest) (mrg σ w wl') (nc + mc') (ns + ms')) : WL X y mc ms Post n0 pc L (((Value.ref i0 :: As).map (mvV (sg σ w.length))).reverse ++ rest) w nc ns := by
  refine so_callX (y' := y') (av := .ref i0 :: As) (rest := rest) ?_ hin hnd h0 hwf k
  intro p l e s m args below meth c D cA A ρ H locs ls G hls hP hD
  obtain ⟨hx, hb, hr, hml, hown, hts, hlk, hnm, hKK, hN, hA⟩ := id G
  rw [map_rev_app]
  have hB := mCallB (mc := mc) (ms := ms) (mc' := mc') (ms' := ms') hk.1 hk.2.1 hts hR
  rw [hk.2.2.2.2] at hB
  exact va_runI (b := ρ (sg σ w.length i0)) (As := As.map (mvV (fun i => ρ (sg σ w.length i)))) (rest := rest.map (mvV ρ)) ⟨hx, hb, hml, hown, hts⟩ (hct l D cA (fun i => ρ (sg σ w.length i)) H.size)
    ⟨hB, hk.2.2.2.1, hts _ (lwg_in hk.2.2.1 rfl)⟩ ⟨mPc_blind, mPc_at hP hD hKK hN rfl⟩ rfl (by simpa using hn) hls (by simp [mvV]) (by rw [cat_sum]; exact lv_room hs) hd hc

theorem wm_callAX {X : SX} {y : MY} (y' : MY) {mc ms n0 n1 : Nat} {Post : MP} {pc nc ns idx mc' ms' : Nat} {L : ML} {rest : List Value} {w : MW} {Post' : MP} {wl : MW} (σ : List Nat) {i0 ci n : Nat} {As : List Value} {fs : List Value} (hd : decode y.2.1 pc = .ok (.invokevirtual idx, 3)) (hk : mLV y.1.cls idx y' n) (hct : CTm y' mc' ms' n1 (.ref i0 :: As) wl Post') (hn : As.length = n) (hrecv : wl[i0]? = some (.inr (ci, fs))) (hci : ∃ r : vw_C, mcl[ci]? = some r ∧ r.1 = y'.1.cls)
    (hR : y'.2.2.2.2.1 + 1 ≤ y.2.2.2.2.1 ∧ 8 + (y'.2.2.1 + 11) + y'.2.2.2.2.2.1 ≤ y.2.2.2.2.2.1) (hc : nc + mc' ≤ mc ∧ ns + ms' ≤ ms) (hs : (rest.map fun v => v.category).sum ≤ 8) (hin : mIn σ w wl) (hnd : va_nd σ = true) (hb : n0 ≤ w.length) (hmv : mvB n0 (σ.drop n1) = true) (hwU : avU (σ.drop n1) w.length σ 0 w = true) (hwL : avL (σ.drop n1) w.length L = true) (hwR : avF (σ.drop n1) w.length rest = true) (hpl : ∀ r wl', Post' r wl' → wl.length ≤ wl'.length)
    (k : ∀ r wl', Post' r wl' → WL X y mc ms Post n0 (pc + 3) L ((r.map (mvV (sg σ w.length))).toList ++ rest) (mrg σ w wl') (nc + mc') (ns + ms')) : WL X y mc ms Post n0 pc L (((Value.ref i0 :: As).map (mvV (sg σ w.length))).reverse ++ rest) w nc ns := by
  refine so_callAX (y' := y') (av := .ref i0 :: As) (rest := rest) ?_ hin hnd hb hmv hwU hwL hwR hpl k
  intro p l e s m args below meth c D cA A ρ H locs ls G hls hP hD
  obtain ⟨hx, hb, hr, hml, hown, hts, hlk, hnm, hKK, hN, hA⟩ := id G
  rw [map_rev_app]
  obtain ⟨r, hr1, hr2⟩ := hci
  have hrc := va_recv hKK hP hr1 (mvW_at (cA := cA) (ρ := fun i => ρ (sg σ w.length i)) hrecv)
  rw [hr2] at hrc
  exact va_runV (C := y'.1.cls) (b := ρ (sg σ w.length i0)) (As := As.map (mvV (fun i => ρ (sg σ w.length i)))) (rest := rest.map (mvV ρ)) ⟨hx, hb, hml, hown, hts⟩ (hct l D cA (fun i => ρ (sg σ w.length i)) H.size)
    ⟨mCallB hk.1 hk.2.1 hts hR, hts _ (lwg_in hk.2.2.1 rfl), hts _ (lwg_in hk.2.2.2 rfl)⟩ ⟨mPc_blind, hrc, mPc_at hP hD hKK hN rfl⟩ rfl (by simpa using hn) hls (by simp [mvV]) (by rw [cat_sum]; exact lv_room hs) hd hc

/-- a read of the script: aload_0, iload_3, iconst k, iadd, iaload -/
theorem wl_rd {X : SX} {y : MY} {mc ms n0 : Nat} {Post : MP} {pc : Nat} {L : ML} {st : List Value} {w : MW} {nc ns : Nat} {i : Int32} (hd : decode y.2.1 pc = .ok (.iaload, 1)) (hin : vp_in i X.2.1) (k : WL X y mc ms Post n0 (pc + 1) L (.int (X.2.2 i.toNatClampNeg) :: st) w nc ns) :
    ∀ (p : Program) (l : Launch) (e : Env) (s : State) (m : MethodId) (args : Array Value) (below : List Frame) (meth : Method) (c : Code) (D : va_G) (cA : Nat → ClassId) (A : Nat → Prop) (ρ0 ρ : Nat → Nat) (H : Heap) (locs : List Loc) (ls : Array Slot),
    mGX X y p s m args meth c D cA A → (∀ i, i < n0 → ρ i = ρ0 i) → va_P D mcl (mvW cA ρ w) H → va_D A (mvW cA ρ w) → va_S A s.heap H locs → lv_has ls y.2.2.1 (mvL ρ L ++ [(0, .ref X.1)]) →
    W p l e (rmY y mc ms) s m args below meth c H locs nc ns (MQ below (mvQ D cA A n0 ρ0 Post) args s mc ms A) (F0 m pc ls (.int i :: .ref X.1 :: st.map (mvV ρ))) := by
  intro p l e s m args below meth c D cA A ρ0 ρ H locs ls G hn hP hD hS hl
  exact va_sld G.1.1 G.1.2.1 G.2.1 G.2.2.1 G.2.2.2 hS hin hd (k p l e s m args below meth c D cA A ρ0 ρ H locs ls G hn hP hD hS hl)
theorem wl_read {X : SX} {y : MY} {mc ms n0 : Nat} {Post : MP} {pc : Nat} {L : ML} {st : List Value} {w : MW} {nc ns : Nat} {i : Int32} (q : Int) (hd1 : decode y.2.1 pc = .ok (.aload_n 0, 1)) (hd2 : decode y.2.1 (pc + 1) = .ok (.iload_n 3, 1)) (hd3 : decode y.2.1 (pc + 2) = .ok (.iconst q, 1)) (hd4 : decode y.2.1 (pc + 3) = .ok (.iadd, 1)) (hd5 : decode y.2.1 (pc + 4) = .ok (.iaload, 1)) (hL : gL 3 L = some (.int i)) (hin : vp_in (i + kI q) X.2.1) (k : WL X y mc ms Post n0 (pc + 5) L (.int (X.2.2 (i + kI q).toNatClampNeg) :: st) w nc ns) : WL X y mc ms Post n0 pc L st w nc ns := by
  intro p l e s m args below meth c D cA A ρ0 ρ H locs ls G hn hP hD hS hl
  refine lv_aload_n G.1.1 G.1.2.1 hd1 rfl (hl.2.2 (0, .ref X.1) (List.mem_append_right _ (List.mem_singleton.mpr rfl))) ?_
  refine lv_iload_n G.1.1 G.1.2.1 hd2 rfl (gL_at (lvX_l hl) hL) ?_
  refine lv_iconst G.1.1 G.1.2.1 hd3 (show Int32.ofInt q = kI q from rfl) ?_
  refine lv_iadd G.1.1 G.1.2.1 hd4 ?_
  exact wl_rd hd5 hin k p l e s m args below meth c D cA A ρ0 ρ H locs ls G hn hP hD hS hl
theorem wl_read0 {X : SX} {y : MY} {mc ms n0 : Nat} {Post : MP} {pc : Nat} {L : ML} {st : List Value} {w : MW} {nc ns : Nat} {i : Int32} (hd1 : decode y.2.1 pc = .ok (.aload_n 0, 1)) (hd2 : decode y.2.1 (pc + 1) = .ok (.iload_n 3, 1)) (hd5 : decode y.2.1 (pc + 2) = .ok (.iaload, 1)) (hL : gL 3 L = some (.int i)) (hin : vp_in i X.2.1) (k : WL X y mc ms Post n0 (pc + 3) L (.int (X.2.2 i.toNatClampNeg) :: st) w nc ns) : WL X y mc ms Post n0 pc L st w nc ns := by
  intro p l e s m args below meth c D cA A ρ0 ρ H locs ls G hn hP hD hS hl
  refine lv_aload_n G.1.1 G.1.2.1 hd1 rfl (hl.2.2 (0, .ref X.1) (List.mem_append_right _ (List.mem_singleton.mpr rfl))) ?_
  refine lv_iload_n G.1.1 G.1.2.1 hd2 rfl (gL_at (lvX_l hl) hL) ?_
  exact wl_rd hd5 hin k p l e s m args below meth c D cA A ρ0 ρ H locs ls G hn hP hD hS hl
theorem wl_len {X : SX} {y : MY} {mc ms n0 : Nat} {Post : MP} {pc : Nat} {L : ML} {st : List Value} {w : MW} {nc ns : Nat} (hd1 : decode y.2.1 pc = .ok (.aload_n 0, 1)) (hd2 : decode y.2.1 (pc + 1) = .ok (.arraylength, 1)) (k : WL X y mc ms Post n0 (pc + 2) L (.int (Int32.ofNat X.2.1) :: st) w nc ns) : WL X y mc ms Post n0 pc L st w nc ns := by
  intro p l e s m args below meth c D cA A ρ0 ρ H locs ls G hn hP hD hS hl
  refine lv_aload_n G.1.1 G.1.2.1 hd1 rfl (hl.2.2 (0, .ref X.1) (List.mem_append_right _ (List.mem_singleton.mpr rfl))) ?_
  exact va_slen G.1.1 G.1.2.1 G.2.1 G.2.2.1 G.2.2.2 hS hd2 (k p l e s m args below meth c D cA A ρ0 ρ H locs ls G hn hP hD hS hl)
