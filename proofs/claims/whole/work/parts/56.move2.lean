/-! THE ENGINE, 7: a call that moves places anywhere behind n0 -/
def nin (i : Nat) : List Nat → Bool
  | [] => true
  | k :: r => match Nat.beq i k with
    | true => false
    | false => nin i r
theorem nin_spec {i : Nat} : ∀ {l : List Nat}, nin i l = true → i ∉ l
  | [], _, h => by cases h
  | k :: r, h, hm => by
    unfold nin at h
    cases hb : Nat.beq i k with
    | true => simp only [hb] at h; cases h
    | false =>
      simp only [hb] at h
      rcases List.mem_cons.mp hm with h1 | h1
      · exact beq_ne.mp hb h1
      · exact nin_spec h h1
theorem nin_lt {i n : Nat} : ∀ {l : List Nat}, mvB n l = true → i < n → nin i l = true
  | [], _, _ => rfl
  | k :: r, h, hi => by
    unfold mvB at h
    cases hx : Nat.ble n k with
    | false => simp only [hx] at h; cases h
    | true =>
      simp only [hx] at h
      have h1 := Nat.le_of_ble_eq_true hx
      unfold nin
      have h2 : Nat.beq i k = false := beq_ne.mpr (by omega)
      simp only [h2]
      exact nin_lt h hi
def avV (M : List Nat) (n : Nat) : Value → Bool
  | .ref i => match Nat.ble (i + 1) n with
    | true => nin i M
    | false => false
  | _ => true
def avF (M : List Nat) (n : Nat) : List Value → Bool
  | [] => true
  | v :: r => match avV M n v with
    | true => avF M n r
    | false => false
def avL (M : List Nat) (n : Nat) : ML → Bool
  | [] => true
  | q :: r => match avV M n q.2 with
    | true => avL M n r
    | false => false
def avU (M : List Nat) (n : Nat) (σ : List Nat) : Nat → MW → Bool
  | _, [] => true
  | k, .inl _ :: r => avU M n σ (k + 1) r
  | k, .inr o :: r => match mix k σ 0 with
    | some _ => avU M n σ (k + 1) r
    | none => match avF M n o.2 with
      | true => avU M n σ (k + 1) r
      | false => false
theorem avV_congr {M : List Nat} {n : Nat} {ρ ρ' : Nat → Nat} (h : ∀ j, j < n → nin j M = true → ρ' j = ρ j) {v : Value} (hv : avV M n v = true) : mvV ρ' v = mvV ρ v := by
  cases v with
  | ref i =>
    unfold avV at hv
    cases hb : Nat.ble (i + 1) n with
    | false => simp only [hb] at hv; cases hv
    | true =>
      simp only [hb] at hv
      have := Nat.le_of_ble_eq_true hb
      show Value.ref (ρ' i) = Value.ref (ρ i)
      rw [h i (by omega) hv]
  | _ => rfl
theorem avF_congr {M : List Nat} {n : Nat} {ρ ρ' : Nat → Nat} (h : ∀ j, j < n → nin j M = true → ρ' j = ρ j) : ∀ {l : List Value}, avF M n l = true → l.map (mvV ρ') = l.map (mvV ρ)
  | [], _ => rfl
  | v :: r, hv => by
    unfold avF at hv
    cases hb : avV M n v with
    | false => simp only [hb] at hv; cases hv
    | true =>
      simp only [hb] at hv
      rw [List.map_cons, List.map_cons, avV_congr h hb, avF_congr h hv]
theorem avL_congr {M : List Nat} {n : Nat} {ρ ρ' : Nat → Nat} (h : ∀ j, j < n → nin j M = true → ρ' j = ρ j) : ∀ {l : ML}, avL M n l = true → mvL ρ' l = mvL ρ l
  | [], _ => rfl
  | q :: r, hv => by
    unfold avL at hv
    cases hb : avV M n q.2 with
    | false => simp only [hb] at hv; cases hv
    | true =>
      simp only [hb] at hv
      have ih := avL_congr h hv
      unfold mvL at ih ⊢
      rw [List.map_cons, List.map_cons, avV_congr h hb, ih]
theorem avU_spec {M : List Nat} {n : Nat} {σ : List Nat} : ∀ {w : MW} {k : Nat}, avU M n σ k w = true → ∀ (i : Nat) (o : Nat × List Value), w[i]? = some (.inr o) → (∀ j : Nat, σ[j]? ≠ some (k + i)) → avF M n o.2 = true
  | [], k, _, i, o, hi, _ => by simp at hi
  | .inl a :: r, k, h, i, o, hi, hn => by
    cases i with
    | zero => simp at hi
    | succ i =>
      unfold avU at h
      rw [List.getElem?_cons_succ] at hi
      exact avU_spec h i o hi (fun j => by rw [show k + 1 + i = k + (i + 1) by omega]; exact hn j)
  | .inr x :: r, k, h, i, o, hi, hn => by
    unfold avU at h
    cases i with
    | zero =>
      simp only [List.getElem?_cons_zero, Option.some.injEq, Sum.inr.injEq] at hi
      subst hi
      cases hm : mix k σ 0 with
      | some q =>
        have := (mix_some hm).2
        rw [Nat.sub_zero] at this
        exact absurd this (hn q)
      | none =>
        simp only [hm] at h
        cases hf : avF M n x.2 with
        | true => rfl
        | false => simp only [hf] at h; cases h
    | succ i =>
      rw [List.getElem?_cons_succ] at hi
      have h2 : avU M n σ (k + 1) r = true := by
        cases hm : mix k σ 0 with
        | some q => simp only [hm] at h; exact h
        | none =>
          simp only [hm] at h
          cases hf : avF M n x.2 with
          | true => simp only [hf] at h; exact h
          | false => simp only [hf] at h; cases h
      exact avU_spec h2 i o hi (fun j => by rw [show k + 1 + i = k + (i + 1) by omega]; exact hn j)
theorem mv_joinA {D : va_G} {cA : Nat → ClassId} {A0 : Nat → Prop} {ρ ρ' ρn : Nat → Nat} {w wl wl' : MW} {H H1 : Heap} {σ : List Nat} (hP : va_P D mcl (mvW cA ρ w) H) (hD : va_D A0 (mvW cA ρ w))
    (hw : ∀ i e, wl[i]? = some e → w[sg σ w.length i]? = some (mrE (sg σ w.length) e)) (hlen : wl.length = σ.length)
    (hP1 : va_P D mcl (mvW cA ρ' wl') H1) (hD1 : va_D (va_A (mvW cA (fun i => ρ (sg σ w.length i)) wl) H.size) (mvW cA ρ' wl')) (hl' : wl.length ≤ wl'.length)
    (ha : ∀ i, ρn (sg σ w.length i) = ρ' i) (hcell : ∀ (k : Nat) (o : Nat × List Value), w[k]? = some (.inr o) → (∀ i : Nat, σ[i]? ≠ some k) → o.2.map (mvV ρn) = o.2.map (mvV ρ)) (hc2 : ∀ j, j < w.length → (∀ i : Nat, σ[i]? ≠ some j) → ρn j = ρ j)
    (hk : ∀ q : Nat, q < H.size → ¬ va_A (mvW cA (fun i => ρ (sg σ w.length i)) wl) H.size q → H1[q]? = H[q]?) (hF : ∀ q, va_A (mvW cA (fun i => ρ (sg σ w.length i)) wl) H.size q → A0 q) :
    va_P D mcl (mvW cA ρn (mrg σ w wl')) H1 ∧ va_D A0 (mvW cA ρn (mrg σ w wl')) := by
  have hσ : ∀ (i k : Nat), σ[i]? = some k → k < w.length := by
    intro i k hi
    have hil : i < wl.length := by rw [hlen]; exact (List.getElem?_eq_some_iff.mp hi).1
    have h1 := hw i _ (List.getElem?_eq_getElem hil)
    simp only [sg, hi] at h1
    exact (List.getElem?_eq_some_iff.mp h1).1
  have hkeep : ∀ k : Nat, k < w.length → (∀ i : Nat, σ[i]? ≠ some k) → ∀ e, w[k]? = some e → ρ k < H.size ∧ ¬ va_A (mvW cA (fun i => ρ (sg σ w.length i)) wl) H.size (ρ k) := by
    intro k hkl hn e he
    have hl := (hP k _ (mvW_at he)).lt
    refine ⟨hl, fun q => ?_⟩
    rcases q with ⟨j, e', hj⟩ | q
    · rw [mvW_get] at hj
      obtain ⟨e3, h3, h4⟩ := Option.map_eq_some_iff.mp hj
      have hjl : j < σ.length := by rw [← hlen]; exact (List.getElem?_eq_some_iff.mp h3).1
      have h5 : σ[j]? = some σ[j] := List.getElem?_eq_getElem hjl
      have h6 : sg σ w.length j = σ[j] := by simp [sg, h5]
      have h7 := hw j e3 h3
      rw [h6] at h7
      have h8 : ρ (σ[j]) = ρ k := by
        have := congrArg Prod.fst h4
        simp only [h6] at this
        exact this
      have h9 := hD.1 _ _ _ _ (mvW_at h7) (mvW_at he) h8
      exact hn j (by rw [h5, h9])
    · omega
  have key : ∀ (k : Nat) (q : Nat × va_E), (mvW cA ρn (mrg σ w wl'))[k]? = some q →
      (∃ e, k < w.length ∧ (∀ i : Nat, σ[i]? ≠ some k) ∧ w[k]? = some e ∧ q = (ρ k, mvE cA ρ e)) ∨ ∃ (i : Nat) (e : va_E), wl'[i]? = some e ∧ sg σ w.length i = k ∧ q = (ρ' i, mvE cA ρ' e) := by
    intro k q hq
    rw [mvW_get] at hq
    obtain ⟨e2, h1, h2⟩ := Option.map_eq_some_iff.mp hq
    rcases mrg_at (by omega) hσ h1 with ⟨g1, g2, g3⟩ | ⟨i, e, g1, g2, g3⟩
    · refine Or.inl ⟨e2, g1, g2, g3, ?_⟩
      rw [← h2, hc2 k g1 g2]
      congr 1
      cases e2 with
      | inl a => rfl
      | inr o =>
        exact congrArg (fun x => Sum.inr (o.1, x)) (hcell k o g3 g2)
    · refine Or.inr ⟨i, e, g1, g2, ?_⟩
      rw [← h2, g3, mvE_comp ha, ← g2]
      exact congrArg (fun x => (x, mvE cA ρ' e)) (ha i)
  refine ⟨fun k q hq => ?_, fun k1 k2 q1 q2 h1 h2 he => ?_, fun k q hq => ?_⟩
  · rcases key k q hq with ⟨e, g1, g2, g3, rfl⟩ | ⟨i, e, g1, g2, rfl⟩
    · obtain ⟨a1, a2⟩ := hkeep k g1 g2 e g3
      exact (hP k _ (mvW_at g3)).kept (hk _ a1 a2)
    · exact hP1 i _ (mvW_at g1)
  · rcases key k1 q1 h1 with ⟨e1, g1, g2, g3, rfl⟩ | ⟨i1, e1, g1, g2, rfl⟩ <;> rcases key k2 q2 h2 with ⟨e2, f1, f2, f3, rfl⟩ | ⟨i2, e2, f1, f2, rfl⟩
    · exact hD.1 _ _ _ _ (mvW_at g3) (mvW_at f3) he
    · have hA := hD1.2 i2 _ (mvW_at f1)
      simp only at he hA
      rw [← he] at hA
      exact absurd hA (hkeep k1 g1 g2 e1 g3).2
    · have hA := hD1.2 i1 _ (mvW_at g1)
      simp only at he hA
      rw [he] at hA
      exact absurd hA (hkeep k2 f1 f2 e2 f3).2
    · have := hD1.1 _ _ _ _ (mvW_at g1) (mvW_at f1) he
      subst this
      rw [← g2, ← f2]
  · rcases key k q hq with ⟨e, g1, g2, g3, rfl⟩ | ⟨i, e, g1, g2, rfl⟩
    · exact hD.2 k _ (mvW_at g3)
    · exact hF _ (hD1.2 i _ (mvW_at g1))
theorem so_callA {y y' : MY} {mc ms n0 n1 : Nat} {Post Post' : MP} {pc mc' ms' nc ns : Nat} {L : ML} {rest av st : List Value} {w wl : MW} {σ : List Nat}
    (hrun : ∀ (p : Program) (l : Launch) (e : Env) (s : State) (m : MethodId) (args : Array Value) (below : List Frame) (meth : Method) (c : Code) (D : va_G) (cA : Nat → ClassId) (A : Nat → Prop) (ρ : Nat → Nat) (H : Heap) (locs : List Loc) (ls : Array Slot), mG y p s m args meth c D cA A → ls.size = y.2.2.1 → va_P D mcl (mvW cA (fun i => ρ (sg σ w.length i)) wl) H → va_D A (mvW cA (fun i => ρ (sg σ w.length i)) wl) →
      va_Run p l e (rmY y mc ms) s m args below meth c H locs nc ns mc' ms' (F0 m pc ls (st.map (mvV ρ))) (rest.map (mvV ρ)) (mvQ D cA (va_A (mvW cA (fun i => ρ (sg σ w.length i)) wl) H.size) n1 (fun i => ρ (sg σ w.length i)) Post' (av.map (mvV (fun i => ρ (sg σ w.length i)))).toArray) (va_A (mvW cA (fun i => ρ (sg σ w.length i)) wl) H.size))
    (hin : mIn σ w wl) (hnd : va_nd σ = true) (hb : n0 ≤ w.length) (hmv : mvB n0 (σ.drop n1) = true) (hwU : avU (σ.drop n1) w.length σ 0 w = true) (hwL : avL (σ.drop n1) w.length L = true) (hwR : avF (σ.drop n1) w.length rest = true) (hpl : ∀ r wl', Post' r wl' → wl.length ≤ wl'.length)
    (k : ∀ r wl', Post' r wl' → WM y mc ms Post n0 (pc + 3) L ((r.map (mvV (sg σ w.length))).toList ++ rest) (mrg σ w wl') (nc + mc') (ns + ms')) : WM y mc ms Post n0 pc L st w nc ns := by
  obtain ⟨hlen, hw⟩ := mIn_spec hin
  have hinj : ∀ i j, i < wl.length → j < wl.length → sg σ w.length i = sg σ w.length j → i = j := fun i j hi hj => sg_inj hnd i j (by omega) (by omega)
  intro p l e s m args below meth c D cA A ρ0 ρ H locs ls G hn hP hD hS hl
  have hA := G.2.2.2.2.2.2.2.2.2.2
  have hPc := mv_sub hP hw
  have hDc := mv_subD hD hw hinj
  have hF : ∀ q, va_A (mvW cA (fun i => ρ (sg σ w.length i)) wl) H.size q → A q := by
    intro q hq
    rcases hq with ⟨j, e', hj⟩ | hq
    · exact hDc.2 j _ hj
    · exact hA q (Nat.le_trans hS.1 hq)
  refine mv_after (hrun p l e s m args below meth c D cA A ρ H locs ls G hl.1 hPc hDc) hS hF (fun r w' ρ' H1 locs1 hp h1 h2 h3 h4 h5 h6 => ?_)
  obtain ⟨ρn, hρn⟩ : ∃ ρn : Nat → Nat, ∀ j, ρn j = (match mix j σ 0 with | some i => ρ' i | none => if j < w.length then ρ j else ρ' (wl.length + (j - w.length))) := ⟨_, fun _ => rfl⟩
  have hσ : ∀ (i k : Nat), σ[i]? = some k → k < w.length := by
    intro i k hi
    have hil : i < wl.length := by rw [hlen]; exact (List.getElem?_eq_some_iff.mp hi).1
    have h1 := hw i _ (List.getElem?_eq_getElem hil)
    simp only [sg, hi] at h1
    exact (List.getElem?_eq_some_iff.mp h1).1
  have ha : ∀ i, ρn (sg σ w.length i) = ρ' i := by
    intro i
    by_cases hi : i < σ.length
    · have h1 : σ[i]? = some σ[i] := List.getElem?_eq_getElem hi
      have h2 : sg σ w.length i = σ[i] := by simp [sg, h1]
      rw [h2, hρn, mix_at hnd h1]
    · have h2 : sg σ w.length i = w.length + (i - σ.length) := by
        unfold sg
        rw [List.getElem?_eq_none (by omega)]
      rw [h2, hρn]
      have hm : mix (w.length + (i - σ.length)) σ 0 = none := by
        cases hm : mix (w.length + (i - σ.length)) σ 0 with
        | none => rfl
        | some q =>
          have := (mix_some hm).2
          rw [Nat.sub_zero] at this
          have := hσ q _ this
          omega
      rw [hm]
      simp only
      rw [if_neg (by omega)]
      congr 1
      omega
  have hc2 : ∀ j, j < w.length → (∀ i : Nat, σ[i]? ≠ some j) → ρn j = ρ j := by
    intro j hj hn
    rw [hρn]
    cases hm : mix j σ 0 with
    | none => simp only; rw [if_pos hj]
    | some q =>
      have := (mix_some hm).2
      rw [Nat.sub_zero] at this
      exact absurd this (hn q)
  have hc : ∀ j, j < w.length → nin j (σ.drop n1) = true → ρn j = ρ j := by
    intro j hj hnj
    rw [hρn]
    cases hm : mix j σ 0 with
    | none => simp only; rw [if_pos hj]
    | some q =>
      have h7 := (mix_some hm).2
      rw [Nat.sub_zero] at h7
      have h8 : q < n1 := by
        rcases Nat.lt_or_ge q n1 with h | h
        · exact h
        · have h9 : j ∈ σ.drop n1 := by
            apply List.mem_of_getElem? (i := q - n1)
            rw [List.getElem?_drop, show n1 + (q - n1) = q by omega]
            exact h7
          exact absurd h9 (nin_spec hnj)
      simp only
      rw [h2 q h8]
      simp [sg, h7]
  obtain ⟨j1, j2⟩ := mv_joinA (ρn := ρn) hP hD hw hlen h3 h4 (hpl r w' hp) ha (fun k o q1 q2 => avF_congr hc (avU_spec hwU k o q1 (fun j => by rw [Nat.zero_add]; exact q2 j))) hc2 h5 hF
  have k1 := k r w' hp p l e s m args below meth c D cA A ρ0 ρn H1 locs1 ls G (fun i hi => (hc i (by omega) (nin_lt hmv hi)).trans (hn i hi)) j1 j2 h6 (by rw [avL_congr hc hwL]; exact hl)
  have e5 : (((r.map (mvV (sg σ w.length))).toList ++ rest).map (mvV ρn)) = (r.map (mvV ρ')).toList ++ rest.map (mvV ρ) := by
    rw [List.map_append, avF_congr hc hwR]
    congr 1
    cases r with
    | none => rfl
    | some v =>
      simp only [Option.map_some, Option.toList_some, List.map_cons, List.map_nil]
      rw [mvV_comp]
      congr 2
      funext i
      exact ha i
  rw [e5] at k1
  exact k1
theorem wm_callA {y : MY} (y' : MY) {mc ms n0 n1 : Nat} {Post : MP} {pc nc ns idx mc' ms' : Nat} {L : ML} {rest : List Value} {w : MW} {Post' : MP} {wl : MW} (σ : List Nat) {i0 ci n : Nat} {As : List Value} {fs : List Value} (hd : decode y.2.1 pc = .ok (.invokevirtual idx, 3)) (hk : mLV y.1.cls idx y' n) (hct : CTm y' mc' ms' n1 (.ref i0 :: As) wl Post') (hn : As.length = n) (hrecv : wl[i0]? = some (.inr (ci, fs))) (hci : ∃ r : vw_C, mcl[ci]? = some r ∧ r.1 = y'.1.cls)
    (hR : y'.2.2.2.2.1 + 1 ≤ y.2.2.2.2.1 ∧ 8 + (y'.2.2.1 + 11) + y'.2.2.2.2.2.1 ≤ y.2.2.2.2.2.1) (hc : nc + mc' ≤ mc ∧ ns + ms' ≤ ms) (hs : (rest.map fun v => v.category).sum ≤ 8) (hin : mIn σ w wl) (hnd : va_nd σ = true) (hb : n0 ≤ w.length) (hmv : mvB n0 (σ.drop n1) = true) (hwU : avU (σ.drop n1) w.length σ 0 w = true) (hwL : avL (σ.drop n1) w.length L = true) (hwR : avF (σ.drop n1) w.length rest = true) (hpl : ∀ r wl', Post' r wl' → wl.length ≤ wl'.length)
    (k : ∀ r wl', Post' r wl' → WM y mc ms Post n0 (pc + 3) L ((r.map (mvV (sg σ w.length))).toList ++ rest) (mrg σ w wl') (nc + mc') (ns + ms')) : WM y mc ms Post n0 pc L (((Value.ref i0 :: As).map (mvV (sg σ w.length))).reverse ++ rest) w nc ns := by
  refine so_callA (y' := y') (av := .ref i0 :: As) (rest := rest) ?_ hin hnd hb hmv hwU hwL hwR hpl k
  intro p l e s m args below meth c D cA A ρ H locs ls G hls hP hD
  obtain ⟨hx, hb, hr, hml, hown, hts, hlk, hnm, hKK, hN, hA⟩ := id G
  rw [map_rev_app]
  obtain ⟨r, hr1, hr2⟩ := hci
  have hrc := va_recv hKK hP hr1 (mvW_at (cA := cA) (ρ := fun i => ρ (sg σ w.length i)) hrecv)
  rw [hr2] at hrc
  exact va_runV (C := y'.1.cls) (b := ρ (sg σ w.length i0)) (As := As.map (mvV (fun i => ρ (sg σ w.length i)))) (rest := rest.map (mvV ρ)) ⟨hx, hb, hml, hown, hts⟩ (hct l D cA (fun i => ρ (sg σ w.length i)) H.size)
    ⟨mCallB hk.1 hk.2.1 hts hR, hts _ (lwg_in hk.2.2.1 rfl), hts _ (lwg_in hk.2.2.2 rfl)⟩ ⟨mPc_blind, hrc, mPc_at hP hD hKK hN rfl⟩ rfl (by simpa using hn) hls (by simp [mvV]) (by rw [cat_sum]; exact lv_room hs) hd hc
