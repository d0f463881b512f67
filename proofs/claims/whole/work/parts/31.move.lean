/-! THE ENGINE, 6: places that move (an array that is laid anew, and the old one left) -/
def CTm (y : MY) (mc ms n0 : Nat) (av : List Value) (w : MW) (Post : MP) : Prop :=
  ∀ (l : Launch) (D : va_G) (cA : Nat → ClassId) (ρ : Nat → Nat) (sz : Nat), Met l y.1 (wsY y) (rmY y mc ms)
    (va_Pc (av.map (mvV ρ)) (fun U => U.heap.size = sz ∧ va_P D mcl (mvW cA ρ w) U.heap ∧ va_K D mcl (mvT cA) U ∧ mNs U ∧ va_D (fun _ => True) (mvW cA ρ w)))
    (mvQ D cA (va_A (mvW cA ρ w) sz) n0 ρ Post) mc ms (va_A (mvW cA ρ w) sz)
theorem CTm.intro {y : MY} {mc ms n0 : Nat} {av : List Value} {w : MW} {Post : MP} (hy : plainName y.1.cls = true) (ha : (lg_sl av).length ≤ y.2.2.1) (h : WM y mc ms Post n0 0 (lv_args 0 av) [] w 0 0) : CTm y mc ms n0 av w Post := by
  intro l D cA ρ sz
  refine Met.ofW (cc := y.2.1) (maxL := y.2.2.1) (ret := y.2.2.2.1) (ws' := lwg) hy rfl ?_
  intro p e s m args below meth c s₁ B hml hv
  obtain ⟨rfl, hsz, hP, hK, hN, hD0⟩ := hv
  subst hsz
  have hts := atoms_spec (ws := wsY y) B.pre
  have hown : s.vm.findClass y.1.cls = some m.cls := findClass_of_methodNamed B.named
  have hnm : meth.name = y.1.name := (name_of_methodNamed B.named B.method).1
  have hD := hD0.self (sz := s.heap.size)
  have hl := lv_entry (av.map (mvV ρ)) (n := y.2.2.1) (by rw [mv_sl]; exact ha)
  rw [lg_entry_eq]
  rw [← mvL_args] at hl
  exact h p l e s m _ below meth c D cA _ ρ ρ s.heap [] _ ⟨B.exec, B.bytes, B.returns, hml, hown, fun w hw => hts w (List.mem_cons_of_mem _ hw), B.notSynchronized, hnm, hK, hN, fun q hq => Or.inr hq⟩ (fun _ _ => rfl) hP hD va_S.rf hl
theorem CTm.weaken {y : MY} {mc ms n0 : Nat} {av : List Value} {w : MW} {Post Post' : MP} (h : CTm y mc ms n0 av w Post) (hp : ∀ r w', Post r w' → Post' r w') : CTm y mc ms n0 av w Post' := by
  intro l D cA ρ sz p e ha hc hk s m args below hf happ hP hK
  obtain ⟨t, o, h1, h2, h3, ⟨⟨r, w', ρ', q1, q2, q3⟩, q4⟩, h5⟩ := h l D cA ρ sz p e ha hc hk s m args below hf happ hP hK
  exact ⟨t, o, h1, h2, h3, ⟨⟨r, w', ρ', q1, hp r w' q2, q3⟩, q4⟩, h5⟩
theorem mvL_comp (ρ f : Nat → Nat) (L : ML) : mvL ρ (mvL f L) = mvL (fun i => ρ (f i)) L := by
  unfold mvL
  rw [List.map_map]
  apply List.map_congr_left
  intro q _
  simp only [Function.comp, mvV_comp]
theorem sg_inj {σ : List Nat} {n : Nat} (hnd : va_nd σ = true) : ∀ i j, i < σ.length → j < σ.length → sg σ n i = sg σ n j → i = j := by
  intro i j hi hj hij
  have h1 : σ[i]? = some σ[i] := List.getElem?_eq_getElem hi
  have h2 : σ[j]? = some σ[j] := List.getElem?_eq_getElem hj
  simp only [sg, h1, h2] at hij
  exact va_nd_inj σ hnd i j σ[i] h1 (by rw [h2, hij])
/-- cells get other places, or are left -/
theorem WM.move {y : MY} {mc ms : Nat} {Post : MP} {n0 pc : Nat} {L' : ML} {st' : List Value} {w w' : MW} {nc ns : Nat} (τ : List Nat) (k : WM y mc ms Post n0 pc L' st' w' nc ns) (hin : mIn τ w w') (hnd : va_nd τ = true) (hn : (List.range n0).all (fun i => Nat.beq (sg τ w.length i) i) = true) :
    WM y mc ms Post n0 pc (mvL (sg τ w.length) L') (st'.map (mvV (sg τ w.length))) w nc ns := by
  obtain ⟨hlen, hw⟩ := mIn_spec hin
  intro p l e s m args below meth c D cA A ρ0 ρ H locs ls G hρ hP hD hS hl
  have hn2 : ∀ i, i < n0 → sg τ w.length i = i := fun i hi => Nat.eq_of_beq_eq_true (List.all_eq_true.mp hn i (List.mem_range.mpr hi))
  have k1 := k p l e s m args below meth c D cA A ρ0 (fun i => ρ (sg τ w.length i)) H locs ls G (fun i hi => by simp only [hn2 i hi]; exact hρ i hi) (mv_sub hP hw) (mv_subD hD hw (fun i j hi hj => sg_inj hnd i j (by omega) (by omega))) hS (by rw [mvL_comp] at hl; exact hl)
  have e1 : (st'.map (mvV (sg τ w.length))).map (mvV ρ) = st'.map (mvV (fun i => ρ (sg τ w.length i))) := by
    rw [List.map_map]
    apply List.map_congr_left
    intro v _
    exact mvV_comp _ _ v
  rw [e1]
  exact k1
/-- what a call does not hand over speaks of places below b alone -/
def mwfU (b : Nat) (σ : List Nat) : Nat → MW → Bool
  | _, [] => true
  | k, .inl _ :: r => mwfU b σ (k + 1) r
  | k, .inr o :: r => match mix k σ 0 with
    | some _ => mwfU b σ (k + 1) r
    | none => match mwfF b o.2 with
      | true => mwfU b σ (k + 1) r
      | false => false
theorem mwfU_spec {b : Nat} {σ : List Nat} : ∀ {w : MW} {k : Nat}, mwfU b σ k w = true → ∀ (i : Nat) (o : Nat × List Value), w[i]? = some (.inr o) → (∀ j : Nat, σ[j]? ≠ some (k + i)) → mwfF b o.2 = true
  | [], k, _, i, o, hi, _ => by simp at hi
  | .inl a :: r, k, h, i, o, hi, hn => by
    cases i with
    | zero => simp at hi
    | succ i =>
      unfold mwfU at h
      rw [List.getElem?_cons_succ] at hi
      exact mwfU_spec h i o hi (fun j => by rw [show k + 1 + i = k + (i + 1) by omega]; exact hn j)
  | .inr x :: r, k, h, i, o, hi, hn => by
    unfold mwfU at h
    cases i with
    | zero =>
      simp only [List.getElem?_cons_zero, Option.some.injEq, Sum.inr.injEq] at hi
      subst hi
      cases hm : mix k σ 0 with
      | some q =>
        have := (mix_some hm).2
        rw [Nat.sub_zero] at this
        exact absurd this (hn q)
      | none =>
        simp only [hm] at h
        cases hf : mwfF b x.2 with
        | true => rfl
        | false => simp only [hf] at h; cases h
    | succ i =>
      rw [List.getElem?_cons_succ] at hi
      have h2 : mwfU b σ (k + 1) r = true := by
        cases hm : mix k σ 0 with
        | some q => simp only [hm] at h; exact h
        | none =>
          simp only [hm] at h
          cases hf : mwfF b x.2 with
          | true => simp only [hf] at h; exact h
          | false => simp only [hf] at h; cases h
      exact mwfU_spec h2 i o hi (fun j => by rw [show k + 1 + i = k + (i + 1) by omega]; exact hn j)
theorem mix_at {σ : List Nat} (hnd : va_nd σ = true) {i k : Nat} (h : σ[i]? = some k) : mix k σ 0 = some i := by
  cases hm : mix k σ 0 with
  | none => exact absurd h (mix_none hm i)
  | some j =>
    have := (mix_some hm).2
    rw [Nat.sub_zero] at this
    rw [va_nd_inj σ hnd j i k this h]
theorem mv_joinM {D : va_G} {cA : Nat → ClassId} {A0 : Nat → Prop} {ρ ρ' ρn : Nat → Nat} {w wl wl' : MW} {H H1 : Heap} {σ : List Nat} {b : Nat} (hP : va_P D mcl (mvW cA ρ w) H) (hD : va_D A0 (mvW cA ρ w))
    (hw : ∀ i e, wl[i]? = some e → w[sg σ w.length i]? = some (mrE (sg σ w.length) e)) (hlen : wl.length = σ.length)
    (hP1 : va_P D mcl (mvW cA ρ' wl') H1) (hD1 : va_D (va_A (mvW cA (fun i => ρ (sg σ w.length i)) wl) H.size) (mvW cA ρ' wl')) (hl' : wl.length ≤ wl'.length)
    (ha : ∀ i, ρn (sg σ w.length i) = ρ' i) (hc : ∀ j, j < b → ρn j = ρ j) (hc2 : ∀ j, j < w.length → (∀ i : Nat, σ[i]? ≠ some j) → ρn j = ρ j)
    (hk : ∀ q : Nat, q < H.size → ¬ va_A (mvW cA (fun i => ρ (sg σ w.length i)) wl) H.size q → H1[q]? = H[q]?) (hF : ∀ q, va_A (mvW cA (fun i => ρ (sg σ w.length i)) wl) H.size q → A0 q) (hwf : mwfU b σ 0 w = true) :
    va_P D mcl (mvW cA ρn (mrg σ w wl')) H1 ∧ va_D A0 (mvW cA ρn (mrg σ w wl')) := by
  have hσ : ∀ (i k : Nat), σ[i]? = some k → k < w.length := by
    intro i k hi
    have hil : i < wl.length := by rw [hlen]; exact (List.getElem?_eq_some_iff.mp hi).1
    have h1 := hw i _ (List.getElem?_eq_getElem hil)
    simp only [sg, hi] at h1
    exact (List.getElem?_eq_some_iff.mp h1).1
  have hkeep : ∀ k : Nat, k < w.length → (∀ i : Nat, σ[i]? ≠ some k) → ∀ e, w[k]? = some e → ρ k < H.size ∧ ¬ va_A (mvW cA (fun i => ρ (sg σ w.length i)) wl) H.size (ρ k) := by
    intro k hkl hn e he
    have hl := (hP k _ (mvW_at he)).lt
    refine ⟨hl, fun q => ?_⟩
    rcases q with ⟨j, e', hj⟩ | q
    · rw [mvW_get] at hj
      obtain ⟨e3, h3, h4⟩ := Option.map_eq_some_iff.mp hj
      have hjl : j < σ.length := by rw [← hlen]; exact (List.getElem?_eq_some_iff.mp h3).1
      have h5 : σ[j]? = some σ[j] := List.getElem?_eq_getElem hjl
      have h6 : sg σ w.length j = σ[j] := by simp [sg, h5]
      have h7 := hw j e3 h3
      rw [h6] at h7
      have h8 : ρ (σ[j]) = ρ k := by
        have := congrArg Prod.fst h4
        simp only [h6] at this
        exact this
      have h9 := hD.1 _ _ _ _ (mvW_at h7) (mvW_at he) h8
      exact hn j (by rw [h5, h9])
    · omega
  have key : ∀ (k : Nat) (q : Nat × va_E), (mvW cA ρn (mrg σ w wl'))[k]? = some q →
      (∃ e, k < w.length ∧ (∀ i : Nat, σ[i]? ≠ some k) ∧ w[k]? = some e ∧ q = (ρ k, mvE cA ρ e)) ∨ ∃ (i : Nat) (e : va_E), wl'[i]? = some e ∧ sg σ w.length i = k ∧ q = (ρ' i, mvE cA ρ' e) := by
    intro k q hq
    rw [mvW_get] at hq
    obtain ⟨e2, h1, h2⟩ := Option.map_eq_some_iff.mp hq
    rcases mrg_at (by omega) hσ h1 with ⟨g1, g2, g3⟩ | ⟨i, e, g1, g2, g3⟩
    · refine Or.inl ⟨e2, g1, g2, g3, ?_⟩
      rw [← h2, hc2 k g1 g2]
      congr 1
      cases e2 with
      | inl a => rfl
      | inr o =>
        have h5 := mwfU_spec hwf k o g3 (fun j => by rw [Nat.zero_add]; exact g2 j)
        exact congrArg (fun x => Sum.inr (o.1, x)) (mapV_congr hc (mwfF_all h5))
    · refine Or.inr ⟨i, e, g1, g2, ?_⟩
      rw [← h2, g3, mvE_comp ha, ← g2]
      exact congrArg (fun x => (x, mvE cA ρ' e)) (ha i)
  refine ⟨fun k q hq => ?_, fun k1 k2 q1 q2 h1 h2 he => ?_, fun k q hq => ?_⟩
  · rcases key k q hq with ⟨e, g1, g2, g3, rfl⟩ | ⟨i, e, g1, g2, rfl⟩
    · obtain ⟨a1, a2⟩ := hkeep k g1 g2 e g3
      exact (hP k _ (mvW_at g3)).kept (hk _ a1 a2)
    · exact hP1 i _ (mvW_at g1)
  · rcases key k1 q1 h1 with ⟨e1, g1, g2, g3, rfl⟩ | ⟨i1, e1, g1, g2, rfl⟩ <;> rcases key k2 q2 h2 with ⟨e2, f1, f2, f3, rfl⟩ | ⟨i2, e2, f1, f2, rfl⟩
    · exact hD.1 _ _ _ _ (mvW_at g3) (mvW_at f3) he
    · have hA := hD1.2 i2 _ (mvW_at f1)
      simp only at he hA
      rw [← he] at hA
      exact absurd hA (hkeep k1 g1 g2 e1 g3).2
    · have hA := hD1.2 i1 _ (mvW_at g1)
      simp only at he hA
      rw [he] at hA
      exact absurd hA (hkeep k2 f1 f2 e2 f3).2
    · have := hD1.1 _ _ _ _ (mvW_at g1) (mvW_at f1) he
      subst this
      rw [← g2, ← f2]
  · rcases key k q hq with ⟨e, g1, g2, g3, rfl⟩ | ⟨i, e, g1, g2, rfl⟩
    · exact hD.2 k _ (mvW_at g3)
    · exact hF _ (hD1.2 i _ (mvW_at g1))
/-- the places of a call's world that may move all lie at b or behind it -/
def mvB (b : Nat) : List Nat → Bool
  | [] => true
  | k :: r => match Nat.ble b k with
    | true => mvB b r
    | false => false
theorem mvB_spec {b : Nat} : ∀ {l : List Nat}, mvB b l = true → ∀ k ∈ l, b ≤ k
  | [], _, k, hk => by cases hk
  | x :: r, h, k, hk => by
    unfold mvB at h
    cases hx : Nat.ble b x with
    | false => simp only [hx] at h; cases h
    | true =>
      simp only [hx] at h
      rcases List.mem_cons.mp hk with rfl | hk
      · exact Nat.le_of_ble_eq_true hx
      · exact mvB_spec h k hk
theorem so_callM {y y' : MY} {mc ms n0 n1 b : Nat} {Post Post' : MP} {pc mc' ms' nc ns : Nat} {L : ML} {rest av st : List Value} {w wl : MW} {σ : List Nat}
    (hrun : ∀ (p : Program) (l : Launch) (e : Env) (s : State) (m : MethodId) (args : Array Value) (below : List Frame) (meth : Method) (c : Code) (D : va_G) (cA : Nat → ClassId) (A : Nat → Prop) (ρ : Nat → Nat) (H : Heap) (locs : List Loc) (ls : Array Slot), mG y p s m args meth c D cA A → ls.size = y.2.2.1 → va_P D mcl (mvW cA (fun i => ρ (sg σ w.length i)) wl) H → va_D A (mvW cA (fun i => ρ (sg σ w.length i)) wl) →
      va_Run p l e (rmY y mc ms) s m args below meth c H locs nc ns mc' ms' (F0 m pc ls (st.map (mvV ρ))) (rest.map (mvV ρ)) (mvQ D cA (va_A (mvW cA (fun i => ρ (sg σ w.length i)) wl) H.size) n1 (fun i => ρ (sg σ w.length i)) Post' (av.map (mvV (fun i => ρ (sg σ w.length i)))).toArray) (va_A (mvW cA (fun i => ρ (sg σ w.length i)) wl) H.size))
    (hin : mIn σ w wl) (hnd : va_nd σ = true) (h0 : n0 ≤ b) (hb : b ≤ w.length) (hmv : mvB b (σ.drop n1) = true) (hwU : mwfU b σ 0 w = true) (hwL : mwfL b L = true) (hwR : mwfF b rest = true) (hpl : ∀ r wl', Post' r wl' → wl.length ≤ wl'.length)
    (k : ∀ r wl', Post' r wl' → WM y mc ms Post n0 (pc + 3) L ((r.map (mvV (sg σ w.length))).toList ++ rest) (mrg σ w wl') (nc + mc') (ns + ms')) : WM y mc ms Post n0 pc L st w nc ns := by
  obtain ⟨hlen, hw⟩ := mIn_spec hin
  have hinj : ∀ i j, i < wl.length → j < wl.length → sg σ w.length i = sg σ w.length j → i = j := fun i j hi hj => sg_inj hnd i j (by omega) (by omega)
  intro p l e s m args below meth c D cA A ρ0 ρ H locs ls G hn hP hD hS hl
  have hA := G.2.2.2.2.2.2.2.2.2.2
  have hPc := mv_sub hP hw
  have hDc := mv_subD hD hw hinj
  have hF : ∀ q, va_A (mvW cA (fun i => ρ (sg σ w.length i)) wl) H.size q → A q := by
    intro q hq
    rcases hq with ⟨j, e', hj⟩ | hq
    · exact hDc.2 j _ hj
    · exact hA q (Nat.le_trans hS.1 hq)
  refine mv_after (hrun p l e s m args below meth c D cA A ρ H locs ls G hl.1 hPc hDc) hS hF (fun r w' ρ' H1 locs1 hp h1 h2 h3 h4 h5 h6 => ?_)
  obtain ⟨ρn, hρn⟩ : ∃ ρn : Nat → Nat, ∀ j, ρn j = (match mix j σ 0 with | some i => ρ' i | none => if j < w.length then ρ j else ρ' (wl.length + (j - w.length))) := ⟨_, fun _ => rfl⟩
  have hσ : ∀ (i k : Nat), σ[i]? = some k → k < w.length := by
    intro i k hi
    have hil : i < wl.length := by rw [hlen]; exact (List.getElem?_eq_some_iff.mp hi).1
    have h1 := hw i _ (List.getElem?_eq_getElem hil)
    simp only [sg, hi] at h1
    exact (List.getElem?_eq_some_iff.mp h1).1
  have ha : ∀ i, ρn (sg σ w.length i) = ρ' i := by
    intro i
    by_cases hi : i < σ.length
    · have h1 : σ[i]? = some σ[i] := List.getElem?_eq_getElem hi
      have h2 : sg σ w.length i = σ[i] := by simp [sg, h1]
      rw [h2, hρn, mix_at hnd h1]
    · have h2 : sg σ w.length i = w.length + (i - σ.length) := by
        unfold sg
        rw [List.getElem?_eq_none (by omega)]
      rw [h2, hρn]
      have hm : mix (w.length + (i - σ.length)) σ 0 = none := by
        cases hm : mix (w.length + (i - σ.length)) σ 0 with
        | none => rfl
        | some q =>
          have := (mix_some hm).2
          rw [Nat.sub_zero] at this
          have := hσ q _ this
          omega
      rw [hm]
      simp only
      rw [if_neg (by omega)]
      congr 1
      omega
  have hc2 : ∀ j, j < w.length → (∀ i : Nat, σ[i]? ≠ some j) → ρn j = ρ j := by
    intro j hj hn
    rw [hρn]
    cases hm : mix j σ 0 with
    | none => simp only; rw [if_pos hj]
    | some q =>
      have := (mix_some hm).2
      rw [Nat.sub_zero] at this
      exact absurd this (hn q)
  have hc : ∀ j, j < b → ρn j = ρ j := by
    intro j hj
    rw [hρn]
    cases hm : mix j σ 0 with
    | none => simp only; rw [if_pos (by omega)]
    | some q =>
      have h7 := (mix_some hm).2
      rw [Nat.sub_zero] at h7
      have h8 : q < n1 := by
        rcases Nat.lt_or_ge q n1 with h | h
        · exact h
        · have h9 : j ∈ σ.drop n1 := by
            apply List.mem_of_getElem? (i := q - n1)
            rw [List.getElem?_drop, show n1 + (q - n1) = q by omega]
            exact h7
          have := mvB_spec hmv j h9
          omega
      simp only
      rw [h2 q h8]
      simp [sg, h7]
  obtain ⟨j1, j2⟩ := mv_joinM (ρn := ρn) (b := b) hP hD hw hlen h3 h4 (hpl r w' hp) ha hc hc2 h5 hF hwU
  have k1 := k r w' hp p l e s m args below meth c D cA A ρ0 ρn H1 locs1 ls G (fun i hi => (hc i (by omega)).trans (hn i hi)) j1 j2 h6 (by rw [mvL_congr hc (mwfL_all hwL)]; exact hl)
  have e5 : (((r.map (mvV (sg σ w.length))).toList ++ rest).map (mvV ρn)) = (r.map (mvV ρ')).toList ++ rest.map (mvV ρ) := by
    rw [List.map_append, mapV_congr hc (mwfF_all hwR)]
    congr 1
    cases r with
    | none => rfl
    | some v =>
      simp only [Option.map_some, Option.toList_some, List.map_cons, List.map_nil]
      rw [mvV_comp]
      congr 2
      funext i
      exact ha i
  rw [e5] at k1
  exact k1
/-- invokevirtual of a method that moves places -/
theorem wm_callM {y : MY} (y' : MY) {mc ms n0 n1 b : Nat} {Post : MP} {pc nc ns idx mc' ms' : Nat} {L : ML} {rest : List Value} {w : MW} {Post' : MP} {wl : MW} (σ : List Nat) {i0 ci n : Nat} {As : List Value} {fs : List Value} (hd : decode y.2.1 pc = .ok (.invokevirtual idx, 3)) (hk : mLV y.1.cls idx y' n) (hct : CTm y' mc' ms' n1 (.ref i0 :: As) wl Post') (hn : As.length = n) (hrecv : wl[i0]? = some (.inr (ci, fs))) (hci : ∃ r : vw_C, mcl[ci]? = some r ∧ r.1 = y'.1.cls)
    (hR : y'.2.2.2.2.1 + 1 ≤ y.2.2.2.2.1 ∧ 8 + (y'.2.2.1 + 11) + y'.2.2.2.2.2.1 ≤ y.2.2.2.2.2.1) (hc : nc + mc' ≤ mc ∧ ns + ms' ≤ ms) (hs : (rest.map fun v => v.category).sum ≤ 8) (hin : mIn σ w wl) (hnd : va_nd σ = true) (h0 : n0 ≤ b) (hb : b ≤ w.length) (hmv : mvB b (σ.drop n1) = true) (hwU : mwfU b σ 0 w = true) (hwL : mwfL b L = true) (hwR : mwfF b rest = true) (hpl : ∀ r wl', Post' r wl' → wl.length ≤ wl'.length)
    (k : ∀ r wl', Post' r wl' → WM y mc ms Post n0 (pc + 3) L ((r.map (mvV (sg σ w.length))).toList ++ rest) (mrg σ w wl') (nc + mc') (ns + ms')) : WM y mc ms Post n0 pc L (((Value.ref i0 :: As).map (mvV (sg σ w.length))).reverse ++ rest) w nc ns := by
  refine so_callM (y' := y') (av := .ref i0 :: As) (rest := rest) ?_ hin hnd h0 hb hmv hwU hwL hwR hpl k
  intro p l e s m args below meth c D cA A ρ H locs ls G hls hP hD
  obtain ⟨hx, hb, hr, hml, hown, hts, hlk, hnm, hKK, hN, hA⟩ := id G
  rw [map_rev_app]
  obtain ⟨r, hr1, hr2⟩ := hci
  have hrc := va_recv hKK hP hr1 (mvW_at (cA := cA) (ρ := fun i => ρ (sg σ w.length i)) hrecv)
  rw [hr2] at hrc
  exact va_runV (C := y'.1.cls) (b := ρ (sg σ w.length i0)) (As := As.map (mvV (fun i => ρ (sg σ w.length i)))) (rest := rest.map (mvV ρ)) ⟨hx, hb, hml, hown, hts⟩ (hct l D cA (fun i => ρ (sg σ w.length i)) H.size)
    ⟨mCallB hk.1 hk.2.1 hts hR, hts _ (lwg_in hk.2.2.1 rfl), hts _ (lwg_in hk.2.2.2 rfl)⟩ ⟨mPc_blind, hrc, mPc_at hP hD hKK hN rfl⟩ rfl (by simpa using hn) hls (by simp [mvV]) (by rw [cat_sum]; exact lv_room hs) hd hc
