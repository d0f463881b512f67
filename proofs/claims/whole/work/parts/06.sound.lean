/-! THE ENGINE, 3: the steps are the machine's -/
theorem mvV_congr {ρ ρ' : Nat → Nat} {n : Nat} (h : ∀ j, j < n → ρ' j = ρ j) {v : Value} (hv : mwf n v = true) : mvV ρ' v = mvV ρ v := by
  cases v with
  | ref i => exact congrArg Value.ref (h i (Nat.le_of_ble_eq_true hv))
  | _ => rfl
theorem mwfF_all {n : Nat} : ∀ {l : List Value}, mwfF n l = true → ∀ v ∈ l, mwf n v = true
  | [], _, v, hv => by cases hv
  | x :: r, h, v, hv => by
    unfold mwfF at h
    cases hx : mwf n x with
    | false => simp [hx] at h
    | true =>
      simp only [hx] at h
      rcases List.mem_cons.mp hv with rfl | hv
      · exact hx
      · exact mwfF_all h v hv
theorem mwfL_all {n : Nat} : ∀ {l : ML}, mwfL n l = true → ∀ q ∈ l, mwf n q.2 = true
  | [], _, v, hv => by cases hv
  | x :: r, h, v, hv => by
    unfold mwfL at h
    cases hx : mwf n x.2 with
    | false => simp [hx] at h
    | true =>
      simp only [hx] at h
      rcases List.mem_cons.mp hv with rfl | hv
      · exact hx
      · exact mwfL_all h v hv
theorem mwfW_all {n : Nat} : ∀ {l : MW}, mwfW n l = true → ∀ o : Nat × List Value, .inr o ∈ l → ∀ v ∈ o.2, mwf n v = true
  | [], _, o, ho, v, hv => by cases ho
  | .inl x :: r, h, o, ho, v, hv => by
    unfold mwfW at h
    rcases List.mem_cons.mp ho with e | ho
    · cases e
    · exact mwfW_all h o ho v hv
  | .inr x :: r, h, o, ho, v, hv => by
    unfold mwfW at h
    cases hx : mwfF n x.2 with
    | false => simp [hx] at h
    | true =>
      simp only [hx] at h
      rcases List.mem_cons.mp ho with e | ho
      · cases e
        exact mwfF_all hx v hv
      · exact mwfW_all h o ho v hv
theorem mapV_congr {ρ ρ' : Nat → Nat} {n : Nat} (h : ∀ j, j < n → ρ' j = ρ j) {l : List Value} (hv : ∀ v ∈ l, mwf n v = true) : l.map (mvV ρ') = l.map (mvV ρ) :=
  List.map_congr_left fun v hm => mvV_congr h (hv v hm)
theorem mvL_congr {ρ ρ' : Nat → Nat} {n : Nat} (h : ∀ j, j < n → ρ' j = ρ j) {L : ML} (hv : ∀ q ∈ L, mwf n q.2 = true) : mvL ρ' L = mvL ρ L :=
  List.map_congr_left fun q hm => by rw [mvV_congr h (hv q hm)]
theorem mvW_congr {cA : Nat → ClassId} {ρ ρ' : Nat → Nat} {n : Nat} (h : ∀ j, j < n → ρ' j = ρ j) {w : MW} (hl : w.length ≤ n) (hv : mwfW n w = true) : mvW cA ρ' w = mvW cA ρ w := by
  apply List.ext_getElem?
  intro i
  rw [mvW_get, mvW_get]
  cases hw : w[i]? with
  | none => rfl
  | some e =>
    have hi : i < w.length := (List.getElem?_eq_some_iff.mp hw).1
    simp only [Option.map_some, h i (by omega)]
    congr 2
    cases e with
    | inl a => rfl
    | inr o => exact congrArg (fun x => Sum.inr (o.1, x)) (mapV_congr h (mwfW_all hv o (List.mem_of_getElem? hw)))
theorem mwfA_spec {w : MW} {L : ML} {st : List Value} (h : mwfA w L st = true) : mwfW w.length w = true ∧ mwfL w.length L = true ∧ mwfF w.length st = true := by
  unfold mwfA at h
  cases h1 : mwfW w.length w with
  | false => simp [h1] at h
  | true =>
    cases h2 : mwfL w.length L with
    | false => simp [h1, h2] at h
    | true =>
      simp only [h1, h2] at h
      exact ⟨rfl, rfl, h⟩
theorem fl_ok {y : MY} {i ci k : Nat} (h : flB y i ci k = true) (ho : mcn y.2.2.2.2.2.2 = y.1.cls) : ∃ r : vw_C, mcl[ci]? = some r ∧ k < r.2.2 ∧ Cond.fieldLink y.1.cls i (r.2.1 k).1 (r.2.1 k).2.1 (r.2.1 k).2.2.1 ∈ lwg := by
  unfold flB at h
  obtain ⟨q, hq, h1⟩ := List.any_eq_true.mp h
  simp only [Bool.and_eq_true, decide_eq_true_eq] at h1
  obtain ⟨⟨⟨e1, e2⟩, e3⟩, e4⟩ := h1
  obtain ⟨r, r1, r2, r3⟩ := mFL_ok q hq
  rw [e3] at r1
  rw [e4] at r2
  rw [e1, e2, e4, ho] at r3
  exact ⟨r, r1, r2, lwg_in (List.mem_of_getElem? r3) rfl⟩
theorem lay_in {C : String} {T : u_T} {N : Nat} (h : ∀ w ∈ u_ws C T N, w ∈ lw_tbl) : ∀ w ∈ u_ws C T N, w ∈ lwg := by
  intro w hw
  refine lwg_in (h w hw) ?_
  obtain ⟨k, -, rfl⟩ := List.mem_map.mp hw
  unfold u_lay
  split <;> rfl
theorem so_put {y : MY} {mc ms n0 : Nat} {Post : MP} {pc : Nat} {L : ML} {t : List Value} {w : MW} {nc ns ci k0 : Nat} {i a : Nat} {v : Value} {fs : List Value} {ty : FieldType}
    (hd : decode y.2.1 pc = .ok (.putfield i, 3)) (hc : (flB y i ci k0 && finB y ci k0) = true) (ho : mcn y.2.2.2.2.2.2 = y.1.cls) (hwa : w[a]? = some (.inr (ci, fs))) (hlt : k0 < fs.length) (hty : mty ci k0 = ty)
    (hn : ∀ ρ, narrow ty (mvV ρ v) = mvV ρ v) (hf : ∀ ρ, fits ty (mvV ρ v) = true) (k : WM y mc ms Post n0 (pc + 3) L t (w.set a (.inr (ci, fs.set k0 v))) nc ns) : WM y mc ms Post n0 pc L (v :: .ref a :: t) w nc ns := by
  rw [Bool.and_eq_true] at hc
  obtain ⟨r, h1, h2, h3⟩ := fl_ok hc.1 ho
  obtain ⟨o1, o2, o3, -⟩ := mcl_ok _ _ h1
  intro p l e s m args below meth c D cA A ρ0 ρ H locs ls G hnn hP hD hS hl
  obtain ⟨hx, hb, hr, hml, hown, hts, hlk, hnm, hKK, hN, hA⟩ := id G
  have hset : ∀ (H1 : Heap), va_P D mcl ((mvW cA ρ w).set a (ρ a, .inr (ci, (fs.map (mvV ρ)).set k0 (mvV ρ v)))) H1 → va_D A ((mvW cA ρ w).set a (ρ a, .inr (ci, (fs.map (mvV ρ)).set k0 (mvV ρ v)))) → va_P D mcl (mvW cA ρ (w.set a (.inr (ci, fs.set k0 v)))) H1 ∧ va_D A (mvW cA ρ (w.set a (.inr (ci, fs.set k0 v)))) := by
    intro H1 q1 q2
    rw [mvW_set]
    simp only [mvE, List.map_set]
    exact ⟨q1, q2⟩
  have hfd : parseFieldDescriptor (r.2.1 k0).2.2.1 = some ty := by rw [o2 k0 h2, hty]
  cases hfin : (r.2.1 k0).2.2.2 with
  | false =>
    refine va_put (D := D) (ci := ci) (v := mvV ρ v) (ty := ty) (C := r.1) (T := r.2.1) (N := r.2.2) hx hb hts (lay_in o1) (mty ci) o2 o3 hown hKK hP hD hS a (mvW_at hwa) h1 k0 h2 (hts _ h3) (fun _ q => q) hfin hfd (hn ρ) (hf ρ) (by simpa using hlt) hd (fun H1 locs1 hP1 hD1 hS1 => ?_)
    obtain ⟨q1, q2⟩ := hset H1 hP1 hD1
    exact k p l e s m args below meth c D cA A ρ0 ρ H1 locs1 ls G hnn q1 q2 hS1 hl
  | true =>
    have hf2 := hc.2
    unfold finB at hf2
    rw [h1] at hf2
    simp only [hfin, Bool.and_eq_true, decide_eq_true_eq] at hf2
    refine va_putF (D := D) (ci := ci) (v := mvV ρ v) (ty := ty) (C := r.1) (T := r.2.1) (N := r.2.2) hx hb hts (lay_in o1) (mty ci) o2 o3 hown hKK hP hD hS a (mvW_at hwa) h1 k0 h2 (hts _ h3) (fun _ q => q) hfin (by rw [hnm]; exact hf2.1) hf2.2 hfd (hn ρ) (hf ρ) (by simpa using hlt) hd (fun H1 locs1 hP1 hD1 hS1 => ?_)
    obtain ⟨q1, q2⟩ := hset H1 hP1 hD1
    exact k p l e s m args below meth c D cA A ρ0 ρ H1 locs1 ls G hnn q1 q2 hS1 hl
theorem so_nw {y : MY} {mc ms n0 : Nat} {Post : MP} {pc' : Nat} {L : ML} {t : List Value} {w : MW} {nc ns : Nat} {E : va_E} (h0 : n0 ≤ w.length) (hwf : mwfA w L t = true) (k : WM y mc ms Post n0 pc' L (.ref w.length :: t) (w ++ [E]) nc ns)
    {p : Program} {l : Launch} {e : Env} {s : State} {m : MethodId} {args : Array Value} {below : List Frame} {meth : Method} {c : Code} {D : va_G} {cA : Nat → ClassId} {A : Nat → Prop} {ρ0 ρ : Nat → Nat} {H1 : Heap} {locs : List Loc} {ls : Array Slot} (G : mG y p s m args meth c D cA A) (hn : ∀ i, i < n0 → ρ i = ρ0 i) {q : Nat} {E' : va_E} (hE : ∀ ρ, mvE cA ρ E = E') (hP1 : va_P D mcl (mvW cA ρ w ++ [(q, E')]) H1) (hD1 : va_D A (mvW cA ρ w ++ [(q, E')])) (hS : va_S A s.heap H1 locs) (hl : lv_has ls y.2.2.1 (mvL ρ L)) :
    W p l e (rmY y mc ms) s m args below meth c H1 locs nc ns (MQ below (mvQ D cA A n0 ρ0 Post) args s mc ms A) (F0 m pc' ls (.ref q :: t.map (mvV ρ))) := by
  obtain ⟨f1, f2, f3⟩ := mwfA_spec hwf
  have hc : ∀ j, j < w.length → (fun j => if j = w.length then q else ρ j) j = ρ j := fun j hj => if_neg (by omega)
  have e1 := mvW_congr (cA := cA) hc (Nat.le_refl _) f1
  have e2 := mvL_congr hc (mwfL_all f2)
  have e3 := mapV_congr hc (mwfF_all f3)
  have e4 : mvW cA (fun j => if j = w.length then q else ρ j) (w ++ [E]) = mvW cA ρ w ++ [(q, E')] := by
    rw [mvW_app, e1, hE]
    simp
  have k1 := k p l e s m args below meth c D cA A ρ0 (fun j => if j = w.length then q else ρ j) H1 locs ls G (fun i hi => (hc i (by omega)).trans (hn i hi)) (by rw [e4]; exact hP1) (by rw [e4]; exact hD1) hS (by rw [e2]; exact hl)
  have e5 : (Value.ref w.length :: t).map (mvV (fun j => if j = w.length then q else ρ j)) = .ref q :: t.map (mvV ρ) := by
    rw [List.map_cons, e3]
    simp [mvV]
  rw [e5] at k1
  exact k1
theorem so_newa {y : MY} {mc ms n0 : Nat} {Post : MP} {pc : Nat} {L : ML} {t : List Value} {w : MW} {nc ns : Nat} {at_ : ArrayType} {n : Int32} (hd : decode y.2.1 pc = .ok (.newarray at_, 2)) (hok : aOk at_ = true) (h0 : n0 ≤ w.length) (hwf : mwfA w L t = true)
    (hr : ¬ n < 0 ∧ n.toNatClampNeg ≤ 1000000 ∧ nc + 1 ≤ mc ∧ ns + n.toNatClampNeg ≤ ms) (k : WM y mc ms Post n0 (pc + 2) L (.ref w.length :: t) (w ++ [.inl (aT at_, aI at_ n.toNatClampNeg)]) (nc + 1) (ns + n.toNatClampNeg)) : WM y mc ms Post n0 pc L (.int n :: t) w nc ns := by
  intro p l e s m args below meth c D cA A ρ0 ρ H locs ls G hn hP hD hS hl
  obtain ⟨hx, hb, hrr, hml, hown, hts, hlk, hnm, hKK, hN, hA⟩ := id G
  obtain ⟨r1, r2, r3, r4⟩ := hr
  cases at_ with
  | int =>
    refine va_newa (atype := .int) (ty := .int) (N' := n.toNatClampNeg) (a0 := aI .int n.toNatClampNeg) hx hb (hts _ (lwg_in mac_int rfl)) rfl hKK hP hD hS hA (fun cA => rfl) r1 rfl (by simp only [componentBytes]; omega) r3 r4 hd (fun q cA' H1 hK1 hP1 hD1 hS1 => ?_)
    have a1 := (hK1.2 4 (cA', .int) rfl).2
    have a2 := (hKK.2 0 (cA 0, .int) rfl).2
    have a3 : cA' = cA 0 := Option.some.inj (a1.symm.trans a2)
    subst a3
    exact so_nw h0 hwf k G hn (fun _ => rfl) hP1 hD1 hS1 hl
  | long =>
    refine va_newa (atype := .long) (ty := .long) (N' := n.toNatClampNeg) (a0 := aI .long n.toNatClampNeg) hx hb (hts _ (lwg_in mac_long rfl)) rfl hKK hP hD hS hA (fun cA => rfl) r1 rfl (by simp only [componentBytes]; omega) r3 r4 hd (fun q cA' H1 hK1 hP1 hD1 hS1 => ?_)
    have a1 := (hK1.2 4 (cA', .long) rfl).2
    have a2 := (hKK.2 1 (cA 1, .long) rfl).2
    have a3 : cA' = cA 1 := Option.some.inj (a1.symm.trans a2)
    subst a3
    exact so_nw h0 hwf k G hn (fun _ => rfl) hP1 hD1 hS1 hl
  | byte =>
    refine va_newa (atype := .byte) (ty := .byte) (N' := n.toNatClampNeg) (a0 := aI .byte n.toNatClampNeg) hx hb (hts _ (lwg_in mac_byte rfl)) rfl hKK hP hD hS hA (fun cA => rfl) r1 rfl (by simp only [componentBytes]; omega) r3 r4 hd (fun q cA' H1 hK1 hP1 hD1 hS1 => ?_)
    have a1 := (hK1.2 4 (cA', .byte) rfl).2
    have a2 := (hKK.2 2 (cA 2, .byte) rfl).2
    have a3 : cA' = cA 2 := Option.some.inj (a1.symm.trans a2)
    subst a3
    exact so_nw h0 hwf k G hn (fun _ => rfl) hP1 hD1 hS1 hl
  | boolean =>
    refine va_newa (atype := .boolean) (ty := .boolean) (N' := n.toNatClampNeg) (a0 := aI .boolean n.toNatClampNeg) hx hb (hts _ (lwg_in mac_boolean rfl)) rfl hKK hP hD hS hA (fun cA => rfl) r1 rfl (by simp only [componentBytes]; omega) r3 r4 hd (fun q cA' H1 hK1 hP1 hD1 hS1 => ?_)
    have a1 := (hK1.2 4 (cA', .boolean) rfl).2
    have a2 := (hKK.2 3 (cA 3, .boolean) rfl).2
    have a3 : cA' = cA 3 := Option.some.inj (a1.symm.trans a2)
    subst a3
    exact so_nw h0 hwf k G hn (fun _ => rfl) hP1 hD1 hS1 hl
  | _ => cases hok
theorem mvV_df (ρ : Nat → Nat) (ty : FieldType) : mvV ρ (defaultValue ty) = defaultValue ty := by cases ty <;> rfl
theorem so_newc {y : MY} {mc ms n0 : Nat} {Post : MP} {pc : Nat} {L : ML} {st : List Value} {w : MW} {nc ns ci k0 : Nat} {z : Int} {i : Nat} {r : vw_C} (hd : decode y.2.1 pc = .ok (.new i, 3)) (hc : chkB y pc (.new i, ci, k0, z) = true) (ho : mcn y.2.2.2.2.2.2 = y.1.cls) (hrr : mcl[ci]? = some r) (h0 : n0 ≤ w.length) (hwf : mwfA w L st = true)
    (hr : nc + 1 ≤ mc ∧ ns + r.2.2 ≤ ms) (k : WM y mc ms Post n0 (pc + 3) L (.ref w.length :: st) (w ++ [.inr (ci, mini ci r.2.2)]) (nc + 1) (ns + r.2.2)) : WM y mc ms Post n0 pc L st w nc ns := by
  intro p l e s m args below meth c D cA A ρ0 ρ H locs ls G hn hP hD hS hl
  obtain ⟨hx, hb, hrt, hml, hown, hts, hlk, hnm, hKK, hN, hA⟩ := id G
  obtain ⟨q, hq, h1⟩ := List.any_eq_true.mp hc
  simp only [Bool.and_eq_true, decide_eq_true_eq] at h1
  obtain ⟨⟨e1, e2⟩, e3⟩ := h1
  obtain ⟨r', r1, r2⟩ := mCL_ok q hq
  rw [e3, hrr] at r1
  cases r1
  rw [e1, e2, ho] at r2
  obtain ⟨o1, o2, o3, o4, o5⟩ := mcl_ok _ _ hrr
  refine va_new (ci := ci) (fs := mini ci r.2.2) (C := r.1) (T := r.2.1) (N := r.2.2) hx hb hts (lay_in o1) (mty ci) o2 hown (hts _ (lwg_in (List.mem_of_getElem? r2) rfl)) (hts _ (lwg_in o4 rfl)) (hts _ (lwg_in o5 rfl)) hKK hP hD hS hA hrr (fun j hj => ?_) hr.1 hr.2 hd (fun q H1 hP1 hD1 hS1 => ?_)
  · simp [vp_V, mini, List.getD, hj]
  · refine so_nw h0 hwf k G hn (fun ρ => ?_) hP1 hD1 hS1 hl
    simp only [mvE, mini, List.map_map]
    congr 2
    apply List.map_congr_left
    intro k _
    exact mvV_df ρ _
theorem swB_spec {pc : Nat} {d : Int} {l : List (Int × Int)} (h : swB pc d l = true) : 0 ≤ (pc : Int) + d ∧ ∀ q ∈ l, (kI q.1).toInt = q.1 ∧ 0 ≤ (pc : Int) + q.2 := by
  unfold swB at h
  simp only [Bool.and_eq_true, decide_eq_true_eq, List.all_eq_true] at h
  exact h
theorem swT_spec {K : Nat → Prop} {pc : Nat} {x : Int32} {d : Int} : ∀ (l : List Int) (lo : Int), (∀ q ∈ swT lo l, (kI q.1).toInt = q.1 ∧ 0 ≤ (pc : Int) + q.2) → swN K pc x d (swT lo l) →
    (∀ (j : Nat) (o : Int), l[j]? = some o → x.toInt = lo + j → K (tg pc o) ∧ 0 ≤ (pc : Int) + o) ∧ ((x.toInt < lo ∨ lo + l.length ≤ x.toInt) → K (tg pc d))
  | [], lo, _, h => ⟨fun j o hj => by simp at hj, fun _ => h⟩
  | o :: r, lo, hq, h => by
    have hk := hq (lo, o) List.mem_cons_self
    obtain ⟨h1, h2⟩ := h
    have hxk : x = kI lo ↔ x.toInt = lo := by rw [← Int32.toInt_inj, hk.1]
    refine ⟨fun j o' hj hx => ?_, fun hx => ?_⟩
    · cases j with
      | zero =>
        simp only [List.getElem?_cons_zero, Option.some.injEq] at hj
        subst hj
        exact ⟨h1 (hxk.mpr (by simpa using hx)), hk.2⟩
      | succ j =>
        rw [List.getElem?_cons_succ] at hj
        have hne : ¬ x = kI lo := fun e => by have := hxk.mp e; simp at hx; omega
        exact (swT_spec r (lo + 1) (fun q h => hq q (List.mem_cons_of_mem _ h)) (h2 hne)).1 j o' hj (by simp at hx; omega)
    · have hne : ¬ x = kI lo := fun e => by have := hxk.mp e; simp at hx; omega
      exact (swT_spec r (lo + 1) (fun q h => hq q (List.mem_cons_of_mem _ h)) (h2 hne)).2 (by simp at hx; omega)
theorem so_tsw {y : MY} {mc ms n0 : Nat} {Post : MP} {pc : Nat} {L : ML} {t : List Value} {w : MW} {nc ns ci k0 : Nat} {z : Int} {d lo hi : Int} {offs : Array Int} {x : Int32} {K' : Nat → Prop} (hd : decode y.2.1 pc = .ok (.tableswitch d lo hi offs, lenB (.tableswitch d lo hi offs, ci, k0, z))) (hc : chkB y pc (.tableswitch d lo hi offs, ci, k0, z) = true)
    (hK : ∀ q, K' q → WM y mc ms Post n0 q L t w nc ns) (h : swN K' pc x d (swT lo offs.toList)) : WM y mc ms Post n0 pc L (.int x :: t) w nc ns := by
  have hc' : swB pc d (swT lo offs.toList) = true ∧ hi = lo + offs.toList.length - 1 := by
    have := hc
    simp only [chkB, Bool.and_eq_true, decide_eq_true_eq] at this
    exact this
  obtain ⟨hb1, hb2⟩ := swB_spec hc'.1
  obtain ⟨s1, s2⟩ := swT_spec offs.toList lo hb2 h
  intro p l e s m args below meth c D cA A ρ0 ρ H locs ls G hn hP hD hS hl
  by_cases hlo : x.toInt < lo
  · exact lv_tableOut (tgt := tg pc d) G.1 G.2.1 hd (Or.inl hlo) (Int.toNat_of_nonneg hb1).symm (hK _ (s2 (Or.inl hlo)) p l e s m args below meth c D cA A ρ0 ρ H locs ls G hn hP hD hS hl)
  · by_cases hhi : hi < x.toInt
    · exact lv_tableOut (tgt := tg pc d) G.1 G.2.1 hd (Or.inr hhi) (Int.toNat_of_nonneg hb1).symm (hK _ (s2 (Or.inr (by omega))) p l e s m args below meth c D cA A ρ0 ρ H locs ls G hn hP hD hS hl)
    · have hj : (x.toInt - lo).toNat < offs.toList.length := by omega
      have ho : offs.toList[(x.toInt - lo).toNat]? = some (offs.toList[(x.toInt - lo).toNat]) := List.getElem?_eq_getElem hj
      obtain ⟨k1, k2⟩ := s1 _ _ ho (by omega)
      exact lv_tableIn (tgt := tg pc (offs.toList[(x.toInt - lo).toNat])) (off := offs.toList[(x.toInt - lo).toNat]) G.1 G.2.1 hd hlo hhi (by rw [← ho, Array.getElem?_toList]) (Int.toNat_of_nonneg k2).symm (hK _ k1 p l e s m args below meth c D cA A ρ0 ρ H locs ls G hn hP hD hS hl)
theorem swL_spec {K : Nat → Prop} {pc : Nat} {x : Int32} {d : Int} (hd : 0 ≤ (pc : Int) + d) : ∀ (l : List (Int × Int)), (∀ q ∈ l, (kI q.1).toInt = q.1 ∧ 0 ≤ (pc : Int) + q.2) → swN K pc x d l → K (tg pc (Op.lookupswitch.offset l d x.toInt)) ∧ 0 ≤ (pc : Int) + Op.lookupswitch.offset l d x.toInt
  | [], _, h => ⟨h, hd⟩
  | (a, o) :: r, hq, h => by
    have hk := hq (a, o) List.mem_cons_self
    obtain ⟨h1, h2⟩ := h
    have hxk : x = kI a ↔ x.toInt = a := by rw [← Int32.toInt_inj, hk.1]
    rw [Op.lookupswitch.offset_cons]
    by_cases hx : a = x.toInt
    · rw [if_pos hx]
      exact ⟨h1 (hxk.mpr hx.symm), hk.2⟩
    · rw [if_neg hx]
      exact swL_spec hd r (fun q h => hq q (List.mem_cons_of_mem _ h)) (h2 (fun e => hx (hxk.mp e).symm))
theorem so_lsw {y : MY} {mc ms n0 : Nat} {Post : MP} {pc : Nat} {L : ML} {t : List Value} {w : MW} {nc ns ci k0 : Nat} {z : Int} {d : Int} {ps : Array (Int × Int)} {x : Int32} {K' : Nat → Prop} (hd : decode y.2.1 pc = .ok (.lookupswitch d ps, lenB (.lookupswitch d ps, ci, k0, z))) (hc : chkB y pc (.lookupswitch d ps, ci, k0, z) = true)
    (hK : ∀ q, K' q → WM y mc ms Post n0 q L t w nc ns) (h : swN K' pc x d ps.toList) : WM y mc ms Post n0 pc L (.int x :: t) w nc ns := by
  have hc' : swB pc d ps.toList = true ∧ (ps.toList.zip (ps.toList.drop 1)).all (fun (a, next) => a.1 < next.1) = true := by
    have := hc
    simp only [chkB, Bool.and_eq_true] at this
    exact this
  obtain ⟨hb1, hb2⟩ := swB_spec hc'.1
  obtain ⟨k1, k2⟩ := swL_spec hb1 ps.toList hb2 h
  intro p l e s m args below meth c D cA A ρ0 ρ H locs ls G hn hP hD hS hl
  exact lv_lookup (tgt := tg pc (Op.lookupswitch.offset ps.toList d x.toInt)) G.1 G.2.1 hd hc'.2 rfl (Int.toNat_of_nonneg k2).symm (hK _ k1 p l e s m args below meth c D cA A ρ0 ρ H locs ls G hn hP hD hS hl)
theorem so_iconst {y : MY} {mc ms n0 : Nat} {Post : MP} {K : MK} {pc : Nat} {L : ML} {st : List Value} {w : MW} {nc ns ci k0 : Nat} {z : Int} {n : Int} (hK : ∀ pc L st w nc ns, K pc L st w nc ns → WM y mc ms Post n0 pc L st w nc ns) (hd : decode y.2.1 pc = .ok (.iconst n, lenB (.iconst n, ci, k0, z))) (hc : chkB y pc (.iconst n, ci, k0, z) = true) (ho : mcn y.2.2.2.2.2.2 = y.1.cls) (h : sy1 mc ms n0 y.2.2.2.1 Post K (.iconst n, ci, k0, z) pc L st w nc ns) : WM y mc ms Post n0 pc L st w nc ns := by
  dsimp only [sy1] at h
  have k := hK _ _ _ _ _ _ h
  intro p l e s m args below meth c D cA A ρ0 ρ H locs ls G hn hP hD hS hl
  obtain ⟨hx, hb, hr, hml, hown, hts, hlk, hnm, hKK, hN, hA⟩ := id G
  exact lv_iconst hx hb hd (of_decide_eq_true hc) (k p l e s m args below meth c D cA A ρ0 ρ H locs ls G hn hP hD hS hl)
theorem so_bipush {y : MY} {mc ms n0 : Nat} {Post : MP} {K : MK} {pc : Nat} {L : ML} {st : List Value} {w : MW} {nc ns ci k0 : Nat} {z : Int} {n : Int} (hK : ∀ pc L st w nc ns, K pc L st w nc ns → WM y mc ms Post n0 pc L st w nc ns) (hd : decode y.2.1 pc = .ok (.bipush n, lenB (.bipush n, ci, k0, z))) (hc : chkB y pc (.bipush n, ci, k0, z) = true) (ho : mcn y.2.2.2.2.2.2 = y.1.cls) (h : sy1 mc ms n0 y.2.2.2.1 Post K (.bipush n, ci, k0, z) pc L st w nc ns) : WM y mc ms Post n0 pc L st w nc ns := by
  dsimp only [sy1] at h
  have k := hK _ _ _ _ _ _ h
  intro p l e s m args below meth c D cA A ρ0 ρ H locs ls G hn hP hD hS hl
  obtain ⟨hx, hb, hr, hml, hown, hts, hlk, hnm, hKK, hN, hA⟩ := id G
  exact lv_bipush hx hb hd (of_decide_eq_true hc) (k p l e s m args below meth c D cA A ρ0 ρ H locs ls G hn hP hD hS hl)
theorem so_sipush {y : MY} {mc ms n0 : Nat} {Post : MP} {K : MK} {pc : Nat} {L : ML} {st : List Value} {w : MW} {nc ns ci k0 : Nat} {z : Int} {n : Int} (hK : ∀ pc L st w nc ns, K pc L st w nc ns → WM y mc ms Post n0 pc L st w nc ns) (hd : decode y.2.1 pc = .ok (.sipush n, lenB (.sipush n, ci, k0, z))) (hc : chkB y pc (.sipush n, ci, k0, z) = true) (ho : mcn y.2.2.2.2.2.2 = y.1.cls) (h : sy1 mc ms n0 y.2.2.2.1 Post K (.sipush n, ci, k0, z) pc L st w nc ns) : WM y mc ms Post n0 pc L st w nc ns := by
  dsimp only [sy1] at h
  have k := hK _ _ _ _ _ _ h
  intro p l e s m args below meth c D cA A ρ0 ρ H locs ls G hn hP hD hS hl
  obtain ⟨hx, hb, hr, hml, hown, hts, hlk, hnm, hKK, hN, hA⟩ := id G
  exact lv_sipush hx hb hd (of_decide_eq_true hc) (k p l e s m args below meth c D cA A ρ0 ρ H locs ls G hn hP hD hS hl)
theorem so_lconst {y : MY} {mc ms n0 : Nat} {Post : MP} {K : MK} {pc : Nat} {L : ML} {st : List Value} {w : MW} {nc ns ci k0 : Nat} {z : Int} {n : Fin 2} (hK : ∀ pc L st w nc ns, K pc L st w nc ns → WM y mc ms Post n0 pc L st w nc ns) (hd : decode y.2.1 pc = .ok (.lconst n, lenB (.lconst n, ci, k0, z))) (hc : chkB y pc (.lconst n, ci, k0, z) = true) (ho : mcn y.2.2.2.2.2.2 = y.1.cls) (h : sy1 mc ms n0 y.2.2.2.1 Post K (.lconst n, ci, k0, z) pc L st w nc ns) : WM y mc ms Post n0 pc L st w nc ns := by
  dsimp only [sy1] at h
  have k := hK _ _ _ _ _ _ h
  intro p l e s m args below meth c D cA A ρ0 ρ H locs ls G hn hP hD hS hl
  obtain ⟨hx, hb, hr, hml, hown, hts, hlk, hnm, hKK, hN, hA⟩ := id G
  exact lv_lconst hx hb hd (kL_nat n.val).symm (k p l e s m args below meth c D cA A ρ0 ρ H locs ls G hn hP hD hS hl)
theorem so_iload {y : MY} {mc ms n0 : Nat} {Post : MP} {K : MK} {pc : Nat} {L : ML} {st : List Value} {w : MW} {nc ns ci k0 : Nat} {z : Int} {j : Nat} (hK : ∀ pc L st w nc ns, K pc L st w nc ns → WM y mc ms Post n0 pc L st w nc ns) (hd : decode y.2.1 pc = .ok (.iload j, lenB (.iload j, ci, k0, z))) (hc : chkB y pc (.iload j, ci, k0, z) = true) (ho : mcn y.2.2.2.2.2.2 = y.1.cls) (h : sy1 mc ms n0 y.2.2.2.1 Post K (.iload j, ci, k0, z) pc L st w nc ns) : WM y mc ms Post n0 pc L st w nc ns := by
  dsimp only [sy1] at h
  split at h
  · rename_i x hg
    have k := hK _ _ _ _ _ _ h
    intro p l e s m args below meth c D cA A ρ0 ρ H locs ls G hn hP hD hS hl
    obtain ⟨hx, hb, hr, hml, hown, hts, hlk, hnm, hKK, hN, hA⟩ := id G
    exact lv_iload hx hb hd (gL_at hl hg) (k p l e s m args below meth c D cA A ρ0 ρ H locs ls G hn hP hD hS hl)
  · exact h.elim
theorem so_iload_n {y : MY} {mc ms n0 : Nat} {Post : MP} {K : MK} {pc : Nat} {L : ML} {st : List Value} {w : MW} {nc ns ci k0 : Nat} {z : Int} {j : Fin 4} (hK : ∀ pc L st w nc ns, K pc L st w nc ns → WM y mc ms Post n0 pc L st w nc ns) (hd : decode y.2.1 pc = .ok (.iload_n j, lenB (.iload_n j, ci, k0, z))) (hc : chkB y pc (.iload_n j, ci, k0, z) = true) (ho : mcn y.2.2.2.2.2.2 = y.1.cls) (h : sy1 mc ms n0 y.2.2.2.1 Post K (.iload_n j, ci, k0, z) pc L st w nc ns) : WM y mc ms Post n0 pc L st w nc ns := by
  dsimp only [sy1] at h
  split at h
  · rename_i x hg
    have k := hK _ _ _ _ _ _ h
    intro p l e s m args below meth c D cA A ρ0 ρ H locs ls G hn hP hD hS hl
    obtain ⟨hx, hb, hr, hml, hown, hts, hlk, hnm, hKK, hN, hA⟩ := id G
    exact lv_iload_n hx hb hd rfl (gL_at hl hg) (k p l e s m args below meth c D cA A ρ0 ρ H locs ls G hn hP hD hS hl)
  · exact h.elim
theorem so_lload {y : MY} {mc ms n0 : Nat} {Post : MP} {K : MK} {pc : Nat} {L : ML} {st : List Value} {w : MW} {nc ns ci k0 : Nat} {z : Int} {j : Nat} (hK : ∀ pc L st w nc ns, K pc L st w nc ns → WM y mc ms Post n0 pc L st w nc ns) (hd : decode y.2.1 pc = .ok (.lload j, lenB (.lload j, ci, k0, z))) (hc : chkB y pc (.lload j, ci, k0, z) = true) (ho : mcn y.2.2.2.2.2.2 = y.1.cls) (h : sy1 mc ms n0 y.2.2.2.1 Post K (.lload j, ci, k0, z) pc L st w nc ns) : WM y mc ms Post n0 pc L st w nc ns := by
  dsimp only [sy1] at h
  split at h
  · rename_i x hg
    have k := hK _ _ _ _ _ _ h
    intro p l e s m args below meth c D cA A ρ0 ρ H locs ls G hn hP hD hS hl
    obtain ⟨hx, hb, hr, hml, hown, hts, hlk, hnm, hKK, hN, hA⟩ := id G
    exact lv_lload hx hb hd (gL_at hl hg) (k p l e s m args below meth c D cA A ρ0 ρ H locs ls G hn hP hD hS hl)
  · exact h.elim
theorem so_lload_n {y : MY} {mc ms n0 : Nat} {Post : MP} {K : MK} {pc : Nat} {L : ML} {st : List Value} {w : MW} {nc ns ci k0 : Nat} {z : Int} {j : Fin 4} (hK : ∀ pc L st w nc ns, K pc L st w nc ns → WM y mc ms Post n0 pc L st w nc ns) (hd : decode y.2.1 pc = .ok (.lload_n j, lenB (.lload_n j, ci, k0, z))) (hc : chkB y pc (.lload_n j, ci, k0, z) = true) (ho : mcn y.2.2.2.2.2.2 = y.1.cls) (h : sy1 mc ms n0 y.2.2.2.1 Post K (.lload_n j, ci, k0, z) pc L st w nc ns) : WM y mc ms Post n0 pc L st w nc ns := by
  dsimp only [sy1] at h
  split at h
  · rename_i x hg
    have k := hK _ _ _ _ _ _ h
    intro p l e s m args below meth c D cA A ρ0 ρ H locs ls G hn hP hD hS hl
    obtain ⟨hx, hb, hr, hml, hown, hts, hlk, hnm, hKK, hN, hA⟩ := id G
    exact lv_lload_n hx hb hd rfl (gL_at hl hg) (k p l e s m args below meth c D cA A ρ0 ρ H locs ls G hn hP hD hS hl)
  · exact h.elim
theorem so_aload {y : MY} {mc ms n0 : Nat} {Post : MP} {K : MK} {pc : Nat} {L : ML} {st : List Value} {w : MW} {nc ns ci k0 : Nat} {z : Int} {j : Nat} (hK : ∀ pc L st w nc ns, K pc L st w nc ns → WM y mc ms Post n0 pc L st w nc ns) (hd : decode y.2.1 pc = .ok (.aload j, lenB (.aload j, ci, k0, z))) (hc : chkB y pc (.aload j, ci, k0, z) = true) (ho : mcn y.2.2.2.2.2.2 = y.1.cls) (h : sy1 mc ms n0 y.2.2.2.1 Post K (.aload j, ci, k0, z) pc L st w nc ns) : WM y mc ms Post n0 pc L st w nc ns := by
  dsimp only [sy1] at h
  split at h
  · rename_i x hg
    have k := hK _ _ _ _ _ _ h
    intro p l e s m args below meth c D cA A ρ0 ρ H locs ls G hn hP hD hS hl
    obtain ⟨hx, hb, hr, hml, hown, hts, hlk, hnm, hKK, hN, hA⟩ := id G
    exact lv_aload hx hb hd (gL_at hl hg) (k p l e s m args below meth c D cA A ρ0 ρ H locs ls G hn hP hD hS hl)
  · exact h.elim
theorem so_aload_n {y : MY} {mc ms n0 : Nat} {Post : MP} {K : MK} {pc : Nat} {L : ML} {st : List Value} {w : MW} {nc ns ci k0 : Nat} {z : Int} {j : Fin 4} (hK : ∀ pc L st w nc ns, K pc L st w nc ns → WM y mc ms Post n0 pc L st w nc ns) (hd : decode y.2.1 pc = .ok (.aload_n j, lenB (.aload_n j, ci, k0, z))) (hc : chkB y pc (.aload_n j, ci, k0, z) = true) (ho : mcn y.2.2.2.2.2.2 = y.1.cls) (h : sy1 mc ms n0 y.2.2.2.1 Post K (.aload_n j, ci, k0, z) pc L st w nc ns) : WM y mc ms Post n0 pc L st w nc ns := by
  dsimp only [sy1] at h
  split at h
  · rename_i x hg
    have k := hK _ _ _ _ _ _ h
    intro p l e s m args below meth c D cA A ρ0 ρ H locs ls G hn hP hD hS hl
    obtain ⟨hx, hb, hr, hml, hown, hts, hlk, hnm, hKK, hN, hA⟩ := id G
    exact lv_aload_n hx hb hd rfl (gL_at hl hg) (k p l e s m args below meth c D cA A ρ0 ρ H locs ls G hn hP hD hS hl)
  · exact h.elim
theorem so_istore {y : MY} {mc ms n0 : Nat} {Post : MP} {K : MK} {pc : Nat} {L : ML} {st : List Value} {w : MW} {nc ns ci k0 : Nat} {z : Int} {j : Nat} (hK : ∀ pc L st w nc ns, K pc L st w nc ns → WM y mc ms Post n0 pc L st w nc ns) (hd : decode y.2.1 pc = .ok (.istore j, lenB (.istore j, ci, k0, z))) (hc : chkB y pc (.istore j, ci, k0, z) = true) (ho : mcn y.2.2.2.2.2.2 = y.1.cls) (h : sy1 mc ms n0 y.2.2.2.1 Post K (.istore j, ci, k0, z) pc L st w nc ns) : WM y mc ms Post n0 pc L st w nc ns := by
  dsimp only [sy1] at h
  split at h
  · rename_i x t
    have k := hK _ _ _ _ _ _ h
    intro p l e s m args below meth c D cA A ρ0 ρ H locs ls G hn hP hD hS hl
    obtain ⟨hx, hb, hr, hml, hown, hts, hlk, hnm, hKK, hN, hA⟩ := id G
    exact lv_istore hx hb hd hl (Nat.le_of_ble_eq_true hc) rfl (fun ls hl => k p l e s m args below meth c D cA A ρ0 ρ H locs ls G hn hP hD hS (sL1_has hl))
  · exact h.elim
theorem so_istore_n {y : MY} {mc ms n0 : Nat} {Post : MP} {K : MK} {pc : Nat} {L : ML} {st : List Value} {w : MW} {nc ns ci k0 : Nat} {z : Int} {j : Fin 4} (hK : ∀ pc L st w nc ns, K pc L st w nc ns → WM y mc ms Post n0 pc L st w nc ns) (hd : decode y.2.1 pc = .ok (.istore_n j, lenB (.istore_n j, ci, k0, z))) (hc : chkB y pc (.istore_n j, ci, k0, z) = true) (ho : mcn y.2.2.2.2.2.2 = y.1.cls) (h : sy1 mc ms n0 y.2.2.2.1 Post K (.istore_n j, ci, k0, z) pc L st w nc ns) : WM y mc ms Post n0 pc L st w nc ns := by
  dsimp only [sy1] at h
  split at h
  · rename_i x t
    have k := hK _ _ _ _ _ _ h
    intro p l e s m args below meth c D cA A ρ0 ρ H locs ls G hn hP hD hS hl
    obtain ⟨hx, hb, hr, hml, hown, hts, hlk, hnm, hKK, hN, hA⟩ := id G
    exact lv_istore_n hx hb hd rfl hl (Nat.le_of_ble_eq_true hc) rfl (fun ls hl => k p l e s m args below meth c D cA A ρ0 ρ H locs ls G hn hP hD hS (sL1_has hl))
  · exact h.elim
theorem so_lstore {y : MY} {mc ms n0 : Nat} {Post : MP} {K : MK} {pc : Nat} {L : ML} {st : List Value} {w : MW} {nc ns ci k0 : Nat} {z : Int} {j : Nat} (hK : ∀ pc L st w nc ns, K pc L st w nc ns → WM y mc ms Post n0 pc L st w nc ns) (hd : decode y.2.1 pc = .ok (.lstore j, lenB (.lstore j, ci, k0, z))) (hc : chkB y pc (.lstore j, ci, k0, z) = true) (ho : mcn y.2.2.2.2.2.2 = y.1.cls) (h : sy1 mc ms n0 y.2.2.2.1 Post K (.lstore j, ci, k0, z) pc L st w nc ns) : WM y mc ms Post n0 pc L st w nc ns := by
  dsimp only [sy1] at h
  split at h
  · rename_i x t
    have k := hK _ _ _ _ _ _ h
    intro p l e s m args below meth c D cA A ρ0 ρ H locs ls G hn hP hD hS hl
    obtain ⟨hx, hb, hr, hml, hown, hts, hlk, hnm, hKK, hN, hA⟩ := id G
    exact lv_lstore hx hb hd hl (Nat.le_of_ble_eq_true hc) rfl (fun ls hl => k p l e s m args below meth c D cA A ρ0 ρ H locs ls G hn hP hD hS (sL2_has hl))
  · exact h.elim
theorem so_lstore_n {y : MY} {mc ms n0 : Nat} {Post : MP} {K : MK} {pc : Nat} {L : ML} {st : List Value} {w : MW} {nc ns ci k0 : Nat} {z : Int} {j : Fin 4} (hK : ∀ pc L st w nc ns, K pc L st w nc ns → WM y mc ms Post n0 pc L st w nc ns) (hd : decode y.2.1 pc = .ok (.lstore_n j, lenB (.lstore_n j, ci, k0, z))) (hc : chkB y pc (.lstore_n j, ci, k0, z) = true) (ho : mcn y.2.2.2.2.2.2 = y.1.cls) (h : sy1 mc ms n0 y.2.2.2.1 Post K (.lstore_n j, ci, k0, z) pc L st w nc ns) : WM y mc ms Post n0 pc L st w nc ns := by
  dsimp only [sy1] at h
  split at h
  · rename_i x t
    have k := hK _ _ _ _ _ _ h
    intro p l e s m args below meth c D cA A ρ0 ρ H locs ls G hn hP hD hS hl
    obtain ⟨hx, hb, hr, hml, hown, hts, hlk, hnm, hKK, hN, hA⟩ := id G
    exact lv_lstore_n hx hb hd rfl hl (Nat.le_of_ble_eq_true hc) rfl (fun ls hl => k p l e s m args below meth c D cA A ρ0 ρ H locs ls G hn hP hD hS (sL2_has hl))
  · exact h.elim
theorem so_astore {y : MY} {mc ms n0 : Nat} {Post : MP} {K : MK} {pc : Nat} {L : ML} {st : List Value} {w : MW} {nc ns ci k0 : Nat} {z : Int} {j : Nat} (hK : ∀ pc L st w nc ns, K pc L st w nc ns → WM y mc ms Post n0 pc L st w nc ns) (hd : decode y.2.1 pc = .ok (.astore j, lenB (.astore j, ci, k0, z))) (hc : chkB y pc (.astore j, ci, k0, z) = true) (ho : mcn y.2.2.2.2.2.2 = y.1.cls) (h : sy1 mc ms n0 y.2.2.2.1 Post K (.astore j, ci, k0, z) pc L st w nc ns) : WM y mc ms Post n0 pc L st w nc ns := by
  dsimp only [sy1] at h
  split at h
  · rename_i x t
    have k := hK _ _ _ _ _ _ h
    intro p l e s m args below meth c D cA A ρ0 ρ H locs ls G hn hP hD hS hl
    obtain ⟨hx, hb, hr, hml, hown, hts, hlk, hnm, hKK, hN, hA⟩ := id G
    exact lv_astore hx hb hd hl (Nat.le_of_ble_eq_true hc) rfl (fun ls hl => k p l e s m args below meth c D cA A ρ0 ρ H locs ls G hn hP hD hS (sL1_has hl))
  · exact h.elim
theorem so_astore_n {y : MY} {mc ms n0 : Nat} {Post : MP} {K : MK} {pc : Nat} {L : ML} {st : List Value} {w : MW} {nc ns ci k0 : Nat} {z : Int} {j : Fin 4} (hK : ∀ pc L st w nc ns, K pc L st w nc ns → WM y mc ms Post n0 pc L st w nc ns) (hd : decode y.2.1 pc = .ok (.astore_n j, lenB (.astore_n j, ci, k0, z))) (hc : chkB y pc (.astore_n j, ci, k0, z) = true) (ho : mcn y.2.2.2.2.2.2 = y.1.cls) (h : sy1 mc ms n0 y.2.2.2.1 Post K (.astore_n j, ci, k0, z) pc L st w nc ns) : WM y mc ms Post n0 pc L st w nc ns := by
  dsimp only [sy1] at h
  split at h
  · rename_i x t
    have k := hK _ _ _ _ _ _ h
    intro p l e s m args below meth c D cA A ρ0 ρ H locs ls G hn hP hD hS hl
    obtain ⟨hx, hb, hr, hml, hown, hts, hlk, hnm, hKK, hN, hA⟩ := id G
    exact lv_astore_n hx hb hd rfl hl (Nat.le_of_ble_eq_true hc) rfl (fun ls hl => k p l e s m args below meth c D cA A ρ0 ρ H locs ls G hn hP hD hS (sL1_has hl))
  · exact h.elim
theorem so_iinc {y : MY} {mc ms n0 : Nat} {Post : MP} {K : MK} {pc : Nat} {L : ML} {st : List Value} {w : MW} {nc ns ci k0 : Nat} {z : Int} {j : Nat} {n : Int} (hK : ∀ pc L st w nc ns, K pc L st w nc ns → WM y mc ms Post n0 pc L st w nc ns) (hd : decode y.2.1 pc = .ok (.iinc j n, lenB (.iinc j n, ci, k0, z))) (hc : chkB y pc (.iinc j n, ci, k0, z) = true) (ho : mcn y.2.2.2.2.2.2 = y.1.cls) (h : sy1 mc ms n0 y.2.2.2.1 Post K (.iinc j n, ci, k0, z) pc L st w nc ns) : WM y mc ms Post n0 pc L st w nc ns := by
  dsimp only [sy1] at h
  split at h
  · rename_i x hg
    have k := hK _ _ _ _ _ _ h
    simp only [chkB, Bool.and_eq_true, decide_eq_true_eq] at hc
    intro p l e s m args below meth c D cA A ρ0 ρ H locs ls G hn hP hD hS hl
    obtain ⟨hx, hb, hr, hml, hown, hts, hlk, hnm, hKK, hN, hA⟩ := id G
    obtain ⟨k1, hk1⟩ := List.getElem?_of_mem (List.mem_map.mpr ⟨(j, Value.int x), gL_mem hg, rfl⟩ : (j, mvV ρ (.int x)) ∈ mvL ρ L)
    exact lv_iinc hx hb hd hl hk1 (by rw [hc.1]) (Nat.le_of_ble_eq_true hc.2) rfl (fun ls hl => k p l e s m args below meth c D cA A ρ0 ρ H locs ls G hn hP hD hS (sL1_has hl))
  · exact h.elim
theorem so_iadd {y : MY} {mc ms n0 : Nat} {Post : MP} {K : MK} {pc : Nat} {L : ML} {st : List Value} {w : MW} {nc ns ci k0 : Nat} {z : Int} (hK : ∀ pc L st w nc ns, K pc L st w nc ns → WM y mc ms Post n0 pc L st w nc ns) (hd : decode y.2.1 pc = .ok (.iadd, lenB (.iadd, ci, k0, z))) (hc : chkB y pc (.iadd, ci, k0, z) = true) (ho : mcn y.2.2.2.2.2.2 = y.1.cls) (h : sy1 mc ms n0 y.2.2.2.1 Post K (.iadd, ci, k0, z) pc L st w nc ns) : WM y mc ms Post n0 pc L st w nc ns := by
  dsimp only [sy1] at h
  split at h
  · rename_i b a t
    have k := hK _ _ _ _ _ _ h
    intro p l e s m args below meth c D cA A ρ0 ρ H locs ls G hn hP hD hS hl
    obtain ⟨hx, hb, hr, hml, hown, hts, hlk, hnm, hKK, hN, hA⟩ := id G
    exact lv_iadd hx hb hd (k p l e s m args below meth c D cA A ρ0 ρ H locs ls G hn hP hD hS hl)
  · exact h.elim
theorem so_isub {y : MY} {mc ms n0 : Nat} {Post : MP} {K : MK} {pc : Nat} {L : ML} {st : List Value} {w : MW} {nc ns ci k0 : Nat} {z : Int} (hK : ∀ pc L st w nc ns, K pc L st w nc ns → WM y mc ms Post n0 pc L st w nc ns) (hd : decode y.2.1 pc = .ok (.isub, lenB (.isub, ci, k0, z))) (hc : chkB y pc (.isub, ci, k0, z) = true) (ho : mcn y.2.2.2.2.2.2 = y.1.cls) (h : sy1 mc ms n0 y.2.2.2.1 Post K (.isub, ci, k0, z) pc L st w nc ns) : WM y mc ms Post n0 pc L st w nc ns := by
  dsimp only [sy1] at h
  split at h
  · rename_i b a t
    have k := hK _ _ _ _ _ _ h
    intro p l e s m args below meth c D cA A ρ0 ρ H locs ls G hn hP hD hS hl
    obtain ⟨hx, hb, hr, hml, hown, hts, hlk, hnm, hKK, hN, hA⟩ := id G
    exact lv_isub hx hb hd (k p l e s m args below meth c D cA A ρ0 ρ H locs ls G hn hP hD hS hl)
  · exact h.elim
theorem so_imul {y : MY} {mc ms n0 : Nat} {Post : MP} {K : MK} {pc : Nat} {L : ML} {st : List Value} {w : MW} {nc ns ci k0 : Nat} {z : Int} (hK : ∀ pc L st w nc ns, K pc L st w nc ns → WM y mc ms Post n0 pc L st w nc ns) (hd : decode y.2.1 pc = .ok (.imul, lenB (.imul, ci, k0, z))) (hc : chkB y pc (.imul, ci, k0, z) = true) (ho : mcn y.2.2.2.2.2.2 = y.1.cls) (h : sy1 mc ms n0 y.2.2.2.1 Post K (.imul, ci, k0, z) pc L st w nc ns) : WM y mc ms Post n0 pc L st w nc ns := by
  dsimp only [sy1] at h
  split at h
  · rename_i b a t
    have k := hK _ _ _ _ _ _ h
    intro p l e s m args below meth c D cA A ρ0 ρ H locs ls G hn hP hD hS hl
    obtain ⟨hx, hb, hr, hml, hown, hts, hlk, hnm, hKK, hN, hA⟩ := id G
    exact lv_imul hx hb hd (k p l e s m args below meth c D cA A ρ0 ρ H locs ls G hn hP hD hS hl)
  · exact h.elim
theorem so_iand {y : MY} {mc ms n0 : Nat} {Post : MP} {K : MK} {pc : Nat} {L : ML} {st : List Value} {w : MW} {nc ns ci k0 : Nat} {z : Int} (hK : ∀ pc L st w nc ns, K pc L st w nc ns → WM y mc ms Post n0 pc L st w nc ns) (hd : decode y.2.1 pc = .ok (.iand, lenB (.iand, ci, k0, z))) (hc : chkB y pc (.iand, ci, k0, z) = true) (ho : mcn y.2.2.2.2.2.2 = y.1.cls) (h : sy1 mc ms n0 y.2.2.2.1 Post K (.iand, ci, k0, z) pc L st w nc ns) : WM y mc ms Post n0 pc L st w nc ns := by
  dsimp only [sy1] at h
  split at h
  · rename_i b a t
    have k := hK _ _ _ _ _ _ h
    intro p l e s m args below meth c D cA A ρ0 ρ H locs ls G hn hP hD hS hl
    obtain ⟨hx, hb, hr, hml, hown, hts, hlk, hnm, hKK, hN, hA⟩ := id G
    exact lv_iand hx hb hd (k p l e s m args below meth c D cA A ρ0 ρ H locs ls G hn hP hD hS hl)
  · exact h.elim
theorem so_ior {y : MY} {mc ms n0 : Nat} {Post : MP} {K : MK} {pc : Nat} {L : ML} {st : List Value} {w : MW} {nc ns ci k0 : Nat} {z : Int} (hK : ∀ pc L st w nc ns, K pc L st w nc ns → WM y mc ms Post n0 pc L st w nc ns) (hd : decode y.2.1 pc = .ok (.ior, lenB (.ior, ci, k0, z))) (hc : chkB y pc (.ior, ci, k0, z) = true) (ho : mcn y.2.2.2.2.2.2 = y.1.cls) (h : sy1 mc ms n0 y.2.2.2.1 Post K (.ior, ci, k0, z) pc L st w nc ns) : WM y mc ms Post n0 pc L st w nc ns := by
  dsimp only [sy1] at h
  split at h
  · rename_i b a t
    have k := hK _ _ _ _ _ _ h
    intro p l e s m args below meth c D cA A ρ0 ρ H locs ls G hn hP hD hS hl
    obtain ⟨hx, hb, hr, hml, hown, hts, hlk, hnm, hKK, hN, hA⟩ := id G
    exact lv_ior hx hb hd (k p l e s m args below meth c D cA A ρ0 ρ H locs ls G hn hP hD hS hl)
  · exact h.elim
theorem so_ixor {y : MY} {mc ms n0 : Nat} {Post : MP} {K : MK} {pc : Nat} {L : ML} {st : List Value} {w : MW} {nc ns ci k0 : Nat} {z : Int} (hK : ∀ pc L st w nc ns, K pc L st w nc ns → WM y mc ms Post n0 pc L st w nc ns) (hd : decode y.2.1 pc = .ok (.ixor, lenB (.ixor, ci, k0, z))) (hc : chkB y pc (.ixor, ci, k0, z) = true) (ho : mcn y.2.2.2.2.2.2 = y.1.cls) (h : sy1 mc ms n0 y.2.2.2.1 Post K (.ixor, ci, k0, z) pc L st w nc ns) : WM y mc ms Post n0 pc L st w nc ns := by
  dsimp only [sy1] at h
  split at h
  · rename_i b a t
    have k := hK _ _ _ _ _ _ h
    intro p l e s m args below meth c D cA A ρ0 ρ H locs ls G hn hP hD hS hl
    obtain ⟨hx, hb, hr, hml, hown, hts, hlk, hnm, hKK, hN, hA⟩ := id G
    exact lv_ixor hx hb hd (k p l e s m args below meth c D cA A ρ0 ρ H locs ls G hn hP hD hS hl)
  · exact h.elim
theorem so_idiv {y : MY} {mc ms n0 : Nat} {Post : MP} {K : MK} {pc : Nat} {L : ML} {st : List Value} {w : MW} {nc ns ci k0 : Nat} {z : Int} (hK : ∀ pc L st w nc ns, K pc L st w nc ns → WM y mc ms Post n0 pc L st w nc ns) (hd : decode y.2.1 pc = .ok (.idiv, lenB (.idiv, ci, k0, z))) (hc : chkB y pc (.idiv, ci, k0, z) = true) (ho : mcn y.2.2.2.2.2.2 = y.1.cls) (h : sy1 mc ms n0 y.2.2.2.1 Post K (.idiv, ci, k0, z) pc L st w nc ns) : WM y mc ms Post n0 pc L st w nc ns := by
  dsimp only [sy1] at h
  split at h
  · rename_i b a t
    have k := hK _ _ _ _ _ _ h.2
    intro p l e s m args below meth c D cA A ρ0 ρ H locs ls G hn hP hD hS hl
    obtain ⟨hx, hb, hr, hml, hown, hts, hlk, hnm, hKK, hN, hA⟩ := id G
    exact lv_idiv hx hb hd h.1 (k p l e s m args below meth c D cA A ρ0 ρ H locs ls G hn hP hD hS hl)
  · exact h.elim
theorem so_irem {y : MY} {mc ms n0 : Nat} {Post : MP} {K : MK} {pc : Nat} {L : ML} {st : List Value} {w : MW} {nc ns ci k0 : Nat} {z : Int} (hK : ∀ pc L st w nc ns, K pc L st w nc ns → WM y mc ms Post n0 pc L st w nc ns) (hd : decode y.2.1 pc = .ok (.irem, lenB (.irem, ci, k0, z))) (hc : chkB y pc (.irem, ci, k0, z) = true) (ho : mcn y.2.2.2.2.2.2 = y.1.cls) (h : sy1 mc ms n0 y.2.2.2.1 Post K (.irem, ci, k0, z) pc L st w nc ns) : WM y mc ms Post n0 pc L st w nc ns := by
  dsimp only [sy1] at h
  split at h
  · rename_i b a t
    have k := hK _ _ _ _ _ _ h.2
    intro p l e s m args below meth c D cA A ρ0 ρ H locs ls G hn hP hD hS hl
    obtain ⟨hx, hb, hr, hml, hown, hts, hlk, hnm, hKK, hN, hA⟩ := id G
    exact lv_irem hx hb hd h.1 (k p l e s m args below meth c D cA A ρ0 ρ H locs ls G hn hP hD hS hl)
  · exact h.elim
theorem so_ladd {y : MY} {mc ms n0 : Nat} {Post : MP} {K : MK} {pc : Nat} {L : ML} {st : List Value} {w : MW} {nc ns ci k0 : Nat} {z : Int} (hK : ∀ pc L st w nc ns, K pc L st w nc ns → WM y mc ms Post n0 pc L st w nc ns) (hd : decode y.2.1 pc = .ok (.ladd, lenB (.ladd, ci, k0, z))) (hc : chkB y pc (.ladd, ci, k0, z) = true) (ho : mcn y.2.2.2.2.2.2 = y.1.cls) (h : sy1 mc ms n0 y.2.2.2.1 Post K (.ladd, ci, k0, z) pc L st w nc ns) : WM y mc ms Post n0 pc L st w nc ns := by
  dsimp only [sy1] at h
  split at h
  · rename_i b a t
    have k := hK _ _ _ _ _ _ h
    intro p l e s m args below meth c D cA A ρ0 ρ H locs ls G hn hP hD hS hl
    obtain ⟨hx, hb, hr, hml, hown, hts, hlk, hnm, hKK, hN, hA⟩ := id G
    exact lv_ladd hx hb hd (k p l e s m args below meth c D cA A ρ0 ρ H locs ls G hn hP hD hS hl)
  · exact h.elim
theorem so_lsub {y : MY} {mc ms n0 : Nat} {Post : MP} {K : MK} {pc : Nat} {L : ML} {st : List Value} {w : MW} {nc ns ci k0 : Nat} {z : Int} (hK : ∀ pc L st w nc ns, K pc L st w nc ns → WM y mc ms Post n0 pc L st w nc ns) (hd : decode y.2.1 pc = .ok (.lsub, lenB (.lsub, ci, k0, z))) (hc : chkB y pc (.lsub, ci, k0, z) = true) (ho : mcn y.2.2.2.2.2.2 = y.1.cls) (h : sy1 mc ms n0 y.2.2.2.1 Post K (.lsub, ci, k0, z) pc L st w nc ns) : WM y mc ms Post n0 pc L st w nc ns := by
  dsimp only [sy1] at h
  split at h
  · rename_i b a t
    have k := hK _ _ _ _ _ _ h
    intro p l e s m args below meth c D cA A ρ0 ρ H locs ls G hn hP hD hS hl
    obtain ⟨hx, hb, hr, hml, hown, hts, hlk, hnm, hKK, hN, hA⟩ := id G
    exact lv_lsub hx hb hd (k p l e s m args below meth c D cA A ρ0 ρ H locs ls G hn hP hD hS hl)
  · exact h.elim
theorem so_lmul {y : MY} {mc ms n0 : Nat} {Post : MP} {K : MK} {pc : Nat} {L : ML} {st : List Value} {w : MW} {nc ns ci k0 : Nat} {z : Int} (hK : ∀ pc L st w nc ns, K pc L st w nc ns → WM y mc ms Post n0 pc L st w nc ns) (hd : decode y.2.1 pc = .ok (.lmul, lenB (.lmul, ci, k0, z))) (hc : chkB y pc (.lmul, ci, k0, z) = true) (ho : mcn y.2.2.2.2.2.2 = y.1.cls) (h : sy1 mc ms n0 y.2.2.2.1 Post K (.lmul, ci, k0, z) pc L st w nc ns) : WM y mc ms Post n0 pc L st w nc ns := by
  dsimp only [sy1] at h
  split at h
  · rename_i b a t
    have k := hK _ _ _ _ _ _ h
    intro p l e s m args below meth c D cA A ρ0 ρ H locs ls G hn hP hD hS hl
    obtain ⟨hx, hb, hr, hml, hown, hts, hlk, hnm, hKK, hN, hA⟩ := id G
    exact lv_lmul hx hb hd (k p l e s m args below meth c D cA A ρ0 ρ H locs ls G hn hP hD hS hl)
  · exact h.elim
theorem so_land {y : MY} {mc ms n0 : Nat} {Post : MP} {K : MK} {pc : Nat} {L : ML} {st : List Value} {w : MW} {nc ns ci k0 : Nat} {z : Int} (hK : ∀ pc L st w nc ns, K pc L st w nc ns → WM y mc ms Post n0 pc L st w nc ns) (hd : decode y.2.1 pc = .ok (.land, lenB (.land, ci, k0, z))) (hc : chkB y pc (.land, ci, k0, z) = true) (ho : mcn y.2.2.2.2.2.2 = y.1.cls) (h : sy1 mc ms n0 y.2.2.2.1 Post K (.land, ci, k0, z) pc L st w nc ns) : WM y mc ms Post n0 pc L st w nc ns := by
  dsimp only [sy1] at h
  split at h
  · rename_i b a t
    have k := hK _ _ _ _ _ _ h
    intro p l e s m args below meth c D cA A ρ0 ρ H locs ls G hn hP hD hS hl
    obtain ⟨hx, hb, hr, hml, hown, hts, hlk, hnm, hKK, hN, hA⟩ := id G
    exact lv_land hx hb hd (k p l e s m args below meth c D cA A ρ0 ρ H locs ls G hn hP hD hS hl)
  · exact h.elim
theorem so_lor {y : MY} {mc ms n0 : Nat} {Post : MP} {K : MK} {pc : Nat} {L : ML} {st : List Value} {w : MW} {nc ns ci k0 : Nat} {z : Int} (hK : ∀ pc L st w nc ns, K pc L st w nc ns → WM y mc ms Post n0 pc L st w nc ns) (hd : decode y.2.1 pc = .ok (.lor, lenB (.lor, ci, k0, z))) (hc : chkB y pc (.lor, ci, k0, z) = true) (ho : mcn y.2.2.2.2.2.2 = y.1.cls) (h : sy1 mc ms n0 y.2.2.2.1 Post K (.lor, ci, k0, z) pc L st w nc ns) : WM y mc ms Post n0 pc L st w nc ns := by
  dsimp only [sy1] at h
  split at h
  · rename_i b a t
    have k := hK _ _ _ _ _ _ h
    intro p l e s m args below meth c D cA A ρ0 ρ H locs ls G hn hP hD hS hl
    obtain ⟨hx, hb, hr, hml, hown, hts, hlk, hnm, hKK, hN, hA⟩ := id G
    exact lv_lor hx hb hd (k p l e s m args below meth c D cA A ρ0 ρ H locs ls G hn hP hD hS hl)
  · exact h.elim
theorem so_lxor {y : MY} {mc ms n0 : Nat} {Post : MP} {K : MK} {pc : Nat} {L : ML} {st : List Value} {w : MW} {nc ns ci k0 : Nat} {z : Int} (hK : ∀ pc L st w nc ns, K pc L st w nc ns → WM y mc ms Post n0 pc L st w nc ns) (hd : decode y.2.1 pc = .ok (.lxor, lenB (.lxor, ci, k0, z))) (hc : chkB y pc (.lxor, ci, k0, z) = true) (ho : mcn y.2.2.2.2.2.2 = y.1.cls) (h : sy1 mc ms n0 y.2.2.2.1 Post K (.lxor, ci, k0, z) pc L st w nc ns) : WM y mc ms Post n0 pc L st w nc ns := by
  dsimp only [sy1] at h
  split at h
  · rename_i b a t
    have k := hK _ _ _ _ _ _ h
    intro p l e s m args below meth c D cA A ρ0 ρ H locs ls G hn hP hD hS hl
    obtain ⟨hx, hb, hr, hml, hown, hts, hlk, hnm, hKK, hN, hA⟩ := id G
    exact lv_lxor hx hb hd (k p l e s m args below meth c D cA A ρ0 ρ H locs ls G hn hP hD hS hl)
  · exact h.elim
theorem so_ldiv {y : MY} {mc ms n0 : Nat} {Post : MP} {K : MK} {pc : Nat} {L : ML} {st : List Value} {w : MW} {nc ns ci k0 : Nat} {z : Int} (hK : ∀ pc L st w nc ns, K pc L st w nc ns → WM y mc ms Post n0 pc L st w nc ns) (hd : decode y.2.1 pc = .ok (.ldiv, lenB (.ldiv, ci, k0, z))) (hc : chkB y pc (.ldiv, ci, k0, z) = true) (ho : mcn y.2.2.2.2.2.2 = y.1.cls) (h : sy1 mc ms n0 y.2.2.2.1 Post K (.ldiv, ci, k0, z) pc L st w nc ns) : WM y mc ms Post n0 pc L st w nc ns := by
  dsimp only [sy1] at h
  split at h
  · rename_i b a t
    have k := hK _ _ _ _ _ _ h.2
    intro p l e s m args below meth c D cA A ρ0 ρ H locs ls G hn hP hD hS hl
    obtain ⟨hx, hb, hr, hml, hown, hts, hlk, hnm, hKK, hN, hA⟩ := id G
    exact lv_ldiv hx hb hd h.1 (k p l e s m args below meth c D cA A ρ0 ρ H locs ls G hn hP hD hS hl)
  · exact h.elim
theorem so_lrem {y : MY} {mc ms n0 : Nat} {Post : MP} {K : MK} {pc : Nat} {L : ML} {st : List Value} {w : MW} {nc ns ci k0 : Nat} {z : Int} (hK : ∀ pc L st w nc ns, K pc L st w nc ns → WM y mc ms Post n0 pc L st w nc ns) (hd : decode y.2.1 pc = .ok (.lrem, lenB (.lrem, ci, k0, z))) (hc : chkB y pc (.lrem, ci, k0, z) = true) (ho : mcn y.2.2.2.2.2.2 = y.1.cls) (h : sy1 mc ms n0 y.2.2.2.1 Post K (.lrem, ci, k0, z) pc L st w nc ns) : WM y mc ms Post n0 pc L st w nc ns := by
  dsimp only [sy1] at h
  split at h
  · rename_i b a t
    have k := hK _ _ _ _ _ _ h.2
    intro p l e s m args below meth c D cA A ρ0 ρ H locs ls G hn hP hD hS hl
    obtain ⟨hx, hb, hr, hml, hown, hts, hlk, hnm, hKK, hN, hA⟩ := id G
    exact lv_lrem hx hb hd h.1 (k p l e s m args below meth c D cA A ρ0 ρ H locs ls G hn hP hD hS hl)
  · exact h.elim
theorem so_ishl {y : MY} {mc ms n0 : Nat} {Post : MP} {K : MK} {pc : Nat} {L : ML} {st : List Value} {w : MW} {nc ns ci k0 : Nat} {z : Int} (hK : ∀ pc L st w nc ns, K pc L st w nc ns → WM y mc ms Post n0 pc L st w nc ns) (hd : decode y.2.1 pc = .ok (.ishl, lenB (.ishl, ci, k0, z))) (hc : chkB y pc (.ishl, ci, k0, z) = true) (ho : mcn y.2.2.2.2.2.2 = y.1.cls) (h : sy1 mc ms n0 y.2.2.2.1 Post K (.ishl, ci, k0, z) pc L st w nc ns) : WM y mc ms Post n0 pc L st w nc ns := by
  dsimp only [sy1] at h
  split at h
  · rename_i b a t
    have k := hK _ _ _ _ _ _ h
    intro p l e s m args below meth c D cA A ρ0 ρ H locs ls G hn hP hD hS hl
    obtain ⟨hx, hb, hr, hml, hown, hts, hlk, hnm, hKK, hN, hA⟩ := id G
    exact lv_ishl hx hb hd (k p l e s m args below meth c D cA A ρ0 ρ H locs ls G hn hP hD hS hl)
  · exact h.elim
theorem so_ishr {y : MY} {mc ms n0 : Nat} {Post : MP} {K : MK} {pc : Nat} {L : ML} {st : List Value} {w : MW} {nc ns ci k0 : Nat} {z : Int} (hK : ∀ pc L st w nc ns, K pc L st w nc ns → WM y mc ms Post n0 pc L st w nc ns) (hd : decode y.2.1 pc = .ok (.ishr, lenB (.ishr, ci, k0, z))) (hc : chkB y pc (.ishr, ci, k0, z) = true) (ho : mcn y.2.2.2.2.2.2 = y.1.cls) (h : sy1 mc ms n0 y.2.2.2.1 Post K (.ishr, ci, k0, z) pc L st w nc ns) : WM y mc ms Post n0 pc L st w nc ns := by
  dsimp only [sy1] at h
  split at h
  · rename_i b a t
    have k := hK _ _ _ _ _ _ h
    intro p l e s m args below meth c D cA A ρ0 ρ H locs ls G hn hP hD hS hl
    obtain ⟨hx, hb, hr, hml, hown, hts, hlk, hnm, hKK, hN, hA⟩ := id G
    exact lv_ishr hx hb hd (k p l e s m args below meth c D cA A ρ0 ρ H locs ls G hn hP hD hS hl)
  · exact h.elim
theorem so_iushr {y : MY} {mc ms n0 : Nat} {Post : MP} {K : MK} {pc : Nat} {L : ML} {st : List Value} {w : MW} {nc ns ci k0 : Nat} {z : Int} (hK : ∀ pc L st w nc ns, K pc L st w nc ns → WM y mc ms Post n0 pc L st w nc ns) (hd : decode y.2.1 pc = .ok (.iushr, lenB (.iushr, ci, k0, z))) (hc : chkB y pc (.iushr, ci, k0, z) = true) (ho : mcn y.2.2.2.2.2.2 = y.1.cls) (h : sy1 mc ms n0 y.2.2.2.1 Post K (.iushr, ci, k0, z) pc L st w nc ns) : WM y mc ms Post n0 pc L st w nc ns := by
  dsimp only [sy1] at h
  split at h
  · rename_i b a t
    have k := hK _ _ _ _ _ _ h
    intro p l e s m args below meth c D cA A ρ0 ρ H locs ls G hn hP hD hS hl
    obtain ⟨hx, hb, hr, hml, hown, hts, hlk, hnm, hKK, hN, hA⟩ := id G
    exact lv_iushr hx hb hd rfl (k p l e s m args below meth c D cA A ρ0 ρ H locs ls G hn hP hD hS hl)
  · exact h.elim
theorem so_lushr {y : MY} {mc ms n0 : Nat} {Post : MP} {K : MK} {pc : Nat} {L : ML} {st : List Value} {w : MW} {nc ns ci k0 : Nat} {z : Int} (hK : ∀ pc L st w nc ns, K pc L st w nc ns → WM y mc ms Post n0 pc L st w nc ns) (hd : decode y.2.1 pc = .ok (.lushr, lenB (.lushr, ci, k0, z))) (hc : chkB y pc (.lushr, ci, k0, z) = true) (ho : mcn y.2.2.2.2.2.2 = y.1.cls) (h : sy1 mc ms n0 y.2.2.2.1 Post K (.lushr, ci, k0, z) pc L st w nc ns) : WM y mc ms Post n0 pc L st w nc ns := by
  dsimp only [sy1] at h
  split at h
  · rename_i b a t
    have k := hK _ _ _ _ _ _ h
    intro p l e s m args below meth c D cA A ρ0 ρ H locs ls G hn hP hD hS hl
    obtain ⟨hx, hb, hr, hml, hown, hts, hlk, hnm, hKK, hN, hA⟩ := id G
    exact lv_lushr hx hb hd rfl (k p l e s m args below meth c D cA A ρ0 ρ H locs ls G hn hP hD hS hl)
  · exact h.elim
theorem so_lshl {y : MY} {mc ms n0 : Nat} {Post : MP} {K : MK} {pc : Nat} {L : ML} {st : List Value} {w : MW} {nc ns ci k0 : Nat} {z : Int} (hK : ∀ pc L st w nc ns, K pc L st w nc ns → WM y mc ms Post n0 pc L st w nc ns) (hd : decode y.2.1 pc = .ok (.lshl, lenB (.lshl, ci, k0, z))) (hc : chkB y pc (.lshl, ci, k0, z) = true) (ho : mcn y.2.2.2.2.2.2 = y.1.cls) (h : sy1 mc ms n0 y.2.2.2.1 Post K (.lshl, ci, k0, z) pc L st w nc ns) : WM y mc ms Post n0 pc L st w nc ns := by
  dsimp only [sy1] at h
  split at h
  · rename_i b a t
    have k := hK _ _ _ _ _ _ h
    intro p l e s m args below meth c D cA A ρ0 ρ H locs ls G hn hP hD hS hl
    obtain ⟨hx, hb, hr, hml, hown, hts, hlk, hnm, hKK, hN, hA⟩ := id G
    exact lv_lshl hx hb hd rfl (k p l e s m args below meth c D cA A ρ0 ρ H locs ls G hn hP hD hS hl)
  · exact h.elim
theorem so_lshr {y : MY} {mc ms n0 : Nat} {Post : MP} {K : MK} {pc : Nat} {L : ML} {st : List Value} {w : MW} {nc ns ci k0 : Nat} {z : Int} (hK : ∀ pc L st w nc ns, K pc L st w nc ns → WM y mc ms Post n0 pc L st w nc ns) (hd : decode y.2.1 pc = .ok (.lshr, lenB (.lshr, ci, k0, z))) (hc : chkB y pc (.lshr, ci, k0, z) = true) (ho : mcn y.2.2.2.2.2.2 = y.1.cls) (h : sy1 mc ms n0 y.2.2.2.1 Post K (.lshr, ci, k0, z) pc L st w nc ns) : WM y mc ms Post n0 pc L st w nc ns := by
  dsimp only [sy1] at h
  split at h
  · rename_i b a t
    have k := hK _ _ _ _ _ _ h
    intro p l e s m args below meth c D cA A ρ0 ρ H locs ls G hn hP hD hS hl
    obtain ⟨hx, hb, hr, hml, hown, hts, hlk, hnm, hKK, hN, hA⟩ := id G
    exact lv_lshr hx hb hd rfl (k p l e s m args below meth c D cA A ρ0 ρ H locs ls G hn hP hD hS hl)
  · exact h.elim
theorem so_lcmp {y : MY} {mc ms n0 : Nat} {Post : MP} {K : MK} {pc : Nat} {L : ML} {st : List Value} {w : MW} {nc ns ci k0 : Nat} {z : Int} (hK : ∀ pc L st w nc ns, K pc L st w nc ns → WM y mc ms Post n0 pc L st w nc ns) (hd : decode y.2.1 pc = .ok (.lcmp, lenB (.lcmp, ci, k0, z))) (hc : chkB y pc (.lcmp, ci, k0, z) = true) (ho : mcn y.2.2.2.2.2.2 = y.1.cls) (h : sy1 mc ms n0 y.2.2.2.1 Post K (.lcmp, ci, k0, z) pc L st w nc ns) : WM y mc ms Post n0 pc L st w nc ns := by
  dsimp only [sy1] at h
  split at h
  · rename_i b a t
    have k := hK _ _ _ _ _ _ h
    intro p l e s m args below meth c D cA A ρ0 ρ H locs ls G hn hP hD hS hl
    obtain ⟨hx, hb, hr, hml, hown, hts, hlk, hnm, hKK, hN, hA⟩ := id G
    exact W.lcmp hx hb hd (k p l e s m args below meth c D cA A ρ0 ρ H locs ls G hn hP hD hS hl)
  · exact h.elim
theorem so_ineg {y : MY} {mc ms n0 : Nat} {Post : MP} {K : MK} {pc : Nat} {L : ML} {st : List Value} {w : MW} {nc ns ci k0 : Nat} {z : Int} (hK : ∀ pc L st w nc ns, K pc L st w nc ns → WM y mc ms Post n0 pc L st w nc ns) (hd : decode y.2.1 pc = .ok (.ineg, lenB (.ineg, ci, k0, z))) (hc : chkB y pc (.ineg, ci, k0, z) = true) (ho : mcn y.2.2.2.2.2.2 = y.1.cls) (h : sy1 mc ms n0 y.2.2.2.1 Post K (.ineg, ci, k0, z) pc L st w nc ns) : WM y mc ms Post n0 pc L st w nc ns := by
  dsimp only [sy1] at h
  split at h
  · rename_i a t
    have k := hK _ _ _ _ _ _ h
    intro p l e s m args below meth c D cA A ρ0 ρ H locs ls G hn hP hD hS hl
    obtain ⟨hx, hb, hr, hml, hown, hts, hlk, hnm, hKK, hN, hA⟩ := id G
    exact lv_ineg hx hb hd (k p l e s m args below meth c D cA A ρ0 ρ H locs ls G hn hP hD hS hl)
  · exact h.elim
theorem so_lneg {y : MY} {mc ms n0 : Nat} {Post : MP} {K : MK} {pc : Nat} {L : ML} {st : List Value} {w : MW} {nc ns ci k0 : Nat} {z : Int} (hK : ∀ pc L st w nc ns, K pc L st w nc ns → WM y mc ms Post n0 pc L st w nc ns) (hd : decode y.2.1 pc = .ok (.lneg, lenB (.lneg, ci, k0, z))) (hc : chkB y pc (.lneg, ci, k0, z) = true) (ho : mcn y.2.2.2.2.2.2 = y.1.cls) (h : sy1 mc ms n0 y.2.2.2.1 Post K (.lneg, ci, k0, z) pc L st w nc ns) : WM y mc ms Post n0 pc L st w nc ns := by
  dsimp only [sy1] at h
  split at h
  · rename_i a t
    have k := hK _ _ _ _ _ _ h
    intro p l e s m args below meth c D cA A ρ0 ρ H locs ls G hn hP hD hS hl
    obtain ⟨hx, hb, hr, hml, hown, hts, hlk, hnm, hKK, hN, hA⟩ := id G
    exact lv_lneg hx hb hd (k p l e s m args below meth c D cA A ρ0 ρ H locs ls G hn hP hD hS hl)
  · exact h.elim
theorem so_i2l {y : MY} {mc ms n0 : Nat} {Post : MP} {K : MK} {pc : Nat} {L : ML} {st : List Value} {w : MW} {nc ns ci k0 : Nat} {z : Int} (hK : ∀ pc L st w nc ns, K pc L st w nc ns → WM y mc ms Post n0 pc L st w nc ns) (hd : decode y.2.1 pc = .ok (.i2l, lenB (.i2l, ci, k0, z))) (hc : chkB y pc (.i2l, ci, k0, z) = true) (ho : mcn y.2.2.2.2.2.2 = y.1.cls) (h : sy1 mc ms n0 y.2.2.2.1 Post K (.i2l, ci, k0, z) pc L st w nc ns) : WM y mc ms Post n0 pc L st w nc ns := by
  dsimp only [sy1] at h
  split at h
  · rename_i a t
    have k := hK _ _ _ _ _ _ h
    intro p l e s m args below meth c D cA A ρ0 ρ H locs ls G hn hP hD hS hl
    obtain ⟨hx, hb, hr, hml, hown, hts, hlk, hnm, hKK, hN, hA⟩ := id G
    exact lv_i2l hx hb hd rfl (k p l e s m args below meth c D cA A ρ0 ρ H locs ls G hn hP hD hS hl)
  · exact h.elim
theorem so_l2i {y : MY} {mc ms n0 : Nat} {Post : MP} {K : MK} {pc : Nat} {L : ML} {st : List Value} {w : MW} {nc ns ci k0 : Nat} {z : Int} (hK : ∀ pc L st w nc ns, K pc L st w nc ns → WM y mc ms Post n0 pc L st w nc ns) (hd : decode y.2.1 pc = .ok (.l2i, lenB (.l2i, ci, k0, z))) (hc : chkB y pc (.l2i, ci, k0, z) = true) (ho : mcn y.2.2.2.2.2.2 = y.1.cls) (h : sy1 mc ms n0 y.2.2.2.1 Post K (.l2i, ci, k0, z) pc L st w nc ns) : WM y mc ms Post n0 pc L st w nc ns := by
  dsimp only [sy1] at h
  split at h
  · rename_i a t
    have k := hK _ _ _ _ _ _ h
    intro p l e s m args below meth c D cA A ρ0 ρ H locs ls G hn hP hD hS hl
    obtain ⟨hx, hb, hr, hml, hown, hts, hlk, hnm, hKK, hN, hA⟩ := id G
    exact lv_l2i hx hb hd rfl (k p l e s m args below meth c D cA A ρ0 ρ H locs ls G hn hP hD hS hl)
  · exact h.elim
theorem so_i2b {y : MY} {mc ms n0 : Nat} {Post : MP} {K : MK} {pc : Nat} {L : ML} {st : List Value} {w : MW} {nc ns ci k0 : Nat} {z : Int} (hK : ∀ pc L st w nc ns, K pc L st w nc ns → WM y mc ms Post n0 pc L st w nc ns) (hd : decode y.2.1 pc = .ok (.i2b, lenB (.i2b, ci, k0, z))) (hc : chkB y pc (.i2b, ci, k0, z) = true) (ho : mcn y.2.2.2.2.2.2 = y.1.cls) (h : sy1 mc ms n0 y.2.2.2.1 Post K (.i2b, ci, k0, z) pc L st w nc ns) : WM y mc ms Post n0 pc L st w nc ns := by
  dsimp only [sy1] at h
  split at h
  · rename_i a t
    have k := hK _ _ _ _ _ _ h
    intro p l e s m args below meth c D cA A ρ0 ρ H locs ls G hn hP hD hS hl
    obtain ⟨hx, hb, hr, hml, hown, hts, hlk, hnm, hKK, hN, hA⟩ := id G
    exact lv_i2b hx hb hd rfl (k p l e s m args below meth c D cA A ρ0 ρ H locs ls G hn hP hD hS hl)
  · exact h.elim
theorem so_dup {y : MY} {mc ms n0 : Nat} {Post : MP} {K : MK} {pc : Nat} {L : ML} {st : List Value} {w : MW} {nc ns ci k0 : Nat} {z : Int} (hK : ∀ pc L st w nc ns, K pc L st w nc ns → WM y mc ms Post n0 pc L st w nc ns) (hd : decode y.2.1 pc = .ok (.dup, lenB (.dup, ci, k0, z))) (hc : chkB y pc (.dup, ci, k0, z) = true) (ho : mcn y.2.2.2.2.2.2 = y.1.cls) (h : sy1 mc ms n0 y.2.2.2.1 Post K (.dup, ci, k0, z) pc L st w nc ns) : WM y mc ms Post n0 pc L st w nc ns := by
  dsimp only [sy1] at h
  split at h
  · rename_i v t
    split at h
    · rename_i e1
      have k := hK _ _ _ _ _ _ h
      intro p l e s m args below meth c D cA A ρ0 ρ H locs ls G hn hP hD hS hl
      obtain ⟨hx, hb, hr, hml, hown, hts, hlk, hnm, hKK, hN, hA⟩ := id G
      exact lv_dup hx hb hd (by rw [mvV_cat]; exact Nat.eq_of_beq_eq_true e1) (k p l e s m args below meth c D cA A ρ0 ρ H locs ls G hn hP hD hS hl)
    · exact h.elim
  · exact h.elim
theorem so_pop {y : MY} {mc ms n0 : Nat} {Post : MP} {K : MK} {pc : Nat} {L : ML} {st : List Value} {w : MW} {nc ns ci k0 : Nat} {z : Int} (hK : ∀ pc L st w nc ns, K pc L st w nc ns → WM y mc ms Post n0 pc L st w nc ns) (hd : decode y.2.1 pc = .ok (.pop, lenB (.pop, ci, k0, z))) (hc : chkB y pc (.pop, ci, k0, z) = true) (ho : mcn y.2.2.2.2.2.2 = y.1.cls) (h : sy1 mc ms n0 y.2.2.2.1 Post K (.pop, ci, k0, z) pc L st w nc ns) : WM y mc ms Post n0 pc L st w nc ns := by
  dsimp only [sy1] at h
  split at h
  · rename_i v t
    split at h
    · rename_i e1
      have k := hK _ _ _ _ _ _ h
      intro p l e s m args below meth c D cA A ρ0 ρ H locs ls G hn hP hD hS hl
      obtain ⟨hx, hb, hr, hml, hown, hts, hlk, hnm, hKK, hN, hA⟩ := id G
      exact lv_pop hx hb hd (by rw [mvV_cat]; exact Nat.eq_of_beq_eq_true e1) (k p l e s m args below meth c D cA A ρ0 ρ H locs ls G hn hP hD hS hl)
    · exact h.elim
  · exact h.elim
theorem so_dup_x1 {y : MY} {mc ms n0 : Nat} {Post : MP} {K : MK} {pc : Nat} {L : ML} {st : List Value} {w : MW} {nc ns ci k0 : Nat} {z : Int} (hK : ∀ pc L st w nc ns, K pc L st w nc ns → WM y mc ms Post n0 pc L st w nc ns) (hd : decode y.2.1 pc = .ok (.dup_x1, lenB (.dup_x1, ci, k0, z))) (hc : chkB y pc (.dup_x1, ci, k0, z) = true) (ho : mcn y.2.2.2.2.2.2 = y.1.cls) (h : sy1 mc ms n0 y.2.2.2.1 Post K (.dup_x1, ci, k0, z) pc L st w nc ns) : WM y mc ms Post n0 pc L st w nc ns := by
  dsimp only [sy1] at h
  split at h
  · rename_i va vb t
    split at h
    · rename_i e1
      simp only [Bool.and_eq_true] at e1
      have k := hK _ _ _ _ _ _ h
      intro p l e s m args below meth c D cA A ρ0 ρ H locs ls G hn hP hD hS hl
      obtain ⟨hx, hb, hr, hml, hown, hts, hlk, hnm, hKK, hN, hA⟩ := id G
      exact lv_dup_x1 hx hb hd (by rw [mvV_cat]; exact Nat.eq_of_beq_eq_true e1.1) (by rw [mvV_cat]; exact Nat.eq_of_beq_eq_true e1.2) (k p l e s m args below meth c D cA A ρ0 ρ H locs ls G hn hP hD hS hl)
    · exact h.elim
  · exact h.elim
theorem so_dup_x2 {y : MY} {mc ms n0 : Nat} {Post : MP} {K : MK} {pc : Nat} {L : ML} {st : List Value} {w : MW} {nc ns ci k0 : Nat} {z : Int} (hK : ∀ pc L st w nc ns, K pc L st w nc ns → WM y mc ms Post n0 pc L st w nc ns) (hd : decode y.2.1 pc = .ok (.dup_x2, lenB (.dup_x2, ci, k0, z))) (hc : chkB y pc (.dup_x2, ci, k0, z) = true) (ho : mcn y.2.2.2.2.2.2 = y.1.cls) (h : sy1 mc ms n0 y.2.2.2.1 Post K (.dup_x2, ci, k0, z) pc L st w nc ns) : WM y mc ms Post n0 pc L st w nc ns := by
  dsimp only [sy1] at h
  split at h
  · rename_i va vb vd t
    split at h
    · rename_i e1
      simp only [Bool.and_eq_true] at e1
      have k := hK _ _ _ _ _ _ h
      intro p l e s m args below meth c D cA A ρ0 ρ H locs ls G hn hP hD hS hl
      obtain ⟨hx, hb, hr, hml, hown, hts, hlk, hnm, hKK, hN, hA⟩ := id G
      exact lv_dup_x2 hx hb hd (by rw [mvV_cat]; exact Nat.eq_of_beq_eq_true e1.1.1) (by rw [mvV_cat]; exact Nat.eq_of_beq_eq_true e1.1.2) (by rw [mvV_cat]; exact Nat.eq_of_beq_eq_true e1.2) (k p l e s m args below meth c D cA A ρ0 ρ H locs ls G hn hP hD hS hl)
    · exact h.elim
  · exact h.elim
theorem so_dup2 {y : MY} {mc ms n0 : Nat} {Post : MP} {K : MK} {pc : Nat} {L : ML} {st : List Value} {w : MW} {nc ns ci k0 : Nat} {z : Int} (hK : ∀ pc L st w nc ns, K pc L st w nc ns → WM y mc ms Post n0 pc L st w nc ns) (hd : decode y.2.1 pc = .ok (.dup2, lenB (.dup2, ci, k0, z))) (hc : chkB y pc (.dup2, ci, k0, z) = true) (ho : mcn y.2.2.2.2.2.2 = y.1.cls) (h : sy1 mc ms n0 y.2.2.2.1 Post K (.dup2, ci, k0, z) pc L st w nc ns) : WM y mc ms Post n0 pc L st w nc ns := by
  dsimp only [sy1] at h
  split at h
  · rename_i va vb t
    split at h
    · rename_i e1
      simp only [Bool.and_eq_true] at e1
      have k := hK _ _ _ _ _ _ h
      intro p l e s m args below meth c D cA A ρ0 ρ H locs ls G hn hP hD hS hl
      obtain ⟨hx, hb, hr, hml, hown, hts, hlk, hnm, hKK, hN, hA⟩ := id G
      exact lv_dup2_11 hx hb hd (by rw [mvV_cat]; exact Nat.eq_of_beq_eq_true e1.1) (by rw [mvV_cat]; exact Nat.eq_of_beq_eq_true e1.2) (k p l e s m args below meth c D cA A ρ0 ρ H locs ls G hn hP hD hS hl)
    · exact h.elim
  · exact h.elim
theorem so_ldc {y : MY} {mc ms n0 : Nat} {Post : MP} {K : MK} {pc : Nat} {L : ML} {st : List Value} {w : MW} {nc ns ci k0 : Nat} {z : Int} {i : Nat} (hK : ∀ pc L st w nc ns, K pc L st w nc ns → WM y mc ms Post n0 pc L st w nc ns) (hd : decode y.2.1 pc = .ok (.ldc i, lenB (.ldc i, ci, k0, z))) (hc : chkB y pc (.ldc i, ci, k0, z) = true) (ho : mcn y.2.2.2.2.2.2 = y.1.cls) (h : sy1 mc ms n0 y.2.2.2.1 Post K (.ldc i, ci, k0, z) pc L st w nc ns) : WM y mc ms Post n0 pc L st w nc ns := by
  dsimp only [sy1] at h
  have k := hK _ _ _ _ _ _ h
  simp only [chkB, Bool.and_eq_true, decide_eq_true_eq, List.any_eq_true] at hc
  obtain ⟨hz, ⟨a1, a2, a3, a4⟩, hq, h1⟩ := hc
  have h2 := mIC_ok _ hq
  dsimp only at h1 h2
  obtain ⟨⟨rfl, rfl⟩, rfl⟩ := h1
  intro p l e s m args below meth c D cA A ρ0 ρ H locs ls G hn hP hD hS hl
  obtain ⟨hx, hb, hr, hml, hown, hts, hlk, hnm, hKK, hN, hA⟩ := id G
  exact lv_ldc hx hb hown (hts _ (lwg_in (List.mem_of_getElem? (by rw [h2, ho, hz])) (by rfl))) hd (k p l e s m args below meth c D cA A ρ0 ρ H locs ls G hn hP hD hS hl)
theorem so_ldc_w {y : MY} {mc ms n0 : Nat} {Post : MP} {K : MK} {pc : Nat} {L : ML} {st : List Value} {w : MW} {nc ns ci k0 : Nat} {z : Int} {i : Nat} (hK : ∀ pc L st w nc ns, K pc L st w nc ns → WM y mc ms Post n0 pc L st w nc ns) (hd : decode y.2.1 pc = .ok (.ldc_w i, lenB (.ldc_w i, ci, k0, z))) (hc : chkB y pc (.ldc_w i, ci, k0, z) = true) (ho : mcn y.2.2.2.2.2.2 = y.1.cls) (h : sy1 mc ms n0 y.2.2.2.1 Post K (.ldc_w i, ci, k0, z) pc L st w nc ns) : WM y mc ms Post n0 pc L st w nc ns := by
  dsimp only [sy1] at h
  have k := hK _ _ _ _ _ _ h
  simp only [chkB, Bool.and_eq_true, decide_eq_true_eq, List.any_eq_true] at hc
  obtain ⟨hz, ⟨a1, a2, a3, a4⟩, hq, h1⟩ := hc
  have h2 := mIC_ok _ hq
  dsimp only at h1 h2
  obtain ⟨⟨rfl, rfl⟩, rfl⟩ := h1
  intro p l e s m args below meth c D cA A ρ0 ρ H locs ls G hn hP hD hS hl
  obtain ⟨hx, hb, hr, hml, hown, hts, hlk, hnm, hKK, hN, hA⟩ := id G
  exact lv_ldcw hx hb hown (hts _ (lwg_in (List.mem_of_getElem? (by rw [h2, ho, hz])) (by rfl))) hd (k p l e s m args below meth c D cA A ρ0 ρ H locs ls G hn hP hD hS hl)
theorem so_ldc2_w {y : MY} {mc ms n0 : Nat} {Post : MP} {K : MK} {pc : Nat} {L : ML} {st : List Value} {w : MW} {nc ns ci k0 : Nat} {z : Int} {i : Nat} (hK : ∀ pc L st w nc ns, K pc L st w nc ns → WM y mc ms Post n0 pc L st w nc ns) (hd : decode y.2.1 pc = .ok (.ldc2_w i, lenB (.ldc2_w i, ci, k0, z))) (hc : chkB y pc (.ldc2_w i, ci, k0, z) = true) (ho : mcn y.2.2.2.2.2.2 = y.1.cls) (h : sy1 mc ms n0 y.2.2.2.1 Post K (.ldc2_w i, ci, k0, z) pc L st w nc ns) : WM y mc ms Post n0 pc L st w nc ns := by
  dsimp only [sy1] at h
  have k := hK _ _ _ _ _ _ h
  simp only [chkB, Bool.and_eq_true, decide_eq_true_eq, List.any_eq_true] at hc
  obtain ⟨hz, ⟨a1, a2, a3, a4⟩, hq, h1⟩ := hc
  have h2 := mLC_ok _ hq
  dsimp only at h1 h2
  obtain ⟨⟨rfl, rfl⟩, rfl⟩ := h1
  intro p l e s m args below meth c D cA A ρ0 ρ H locs ls G hn hP hD hS hl
  obtain ⟨hx, hb, hr, hml, hown, hts, hlk, hnm, hKK, hN, hA⟩ := id G
  exact lv_ldc2 hx hb hown (hts _ (lwg_in (List.mem_of_getElem? (by rw [h2, ho, hz])) (by rfl))) hd (k p l e s m args below meth c D cA A ρ0 ρ H locs ls G hn hP hD hS hl)
theorem so_ifCond {y : MY} {mc ms n0 : Nat} {Post : MP} {K : MK} {pc : Nat} {L : ML} {st : List Value} {w : MW} {nc ns ci k0 : Nat} {z : Int} {c : Jvm.ClassFile.Cond} {off : Int} (hK : ∀ pc L st w nc ns, K pc L st w nc ns → WM y mc ms Post n0 pc L st w nc ns) (hd : decode y.2.1 pc = .ok (.ifCond c off, lenB (.ifCond c off, ci, k0, z))) (hc : chkB y pc (.ifCond c off, ci, k0, z) = true) (ho : mcn y.2.2.2.2.2.2 = y.1.cls) (h : sy1 mc ms n0 y.2.2.2.1 Post K (.ifCond c off, ci, k0, z) pc L st w nc ns) : WM y mc ms Post n0 pc L st w nc ns := by
  dsimp only [sy1] at h
  split at h
  · rename_i x t
    cases c <;> dsimp only at h
    · intro p l e s m args below meth c D cA A ρ0 ρ H locs ls G hn hP hD hS hl
      exact lv_if_eq (tgt := tg pc off) G.1 G.2.1 hd (Int.toNat_of_nonneg (of_decide_eq_true hc)).symm (fun q => hK _ _ _ _ _ _ (h.1 q) p l e s m args below meth c D cA A ρ0 ρ H locs ls G hn hP hD hS hl) (fun q => hK _ _ _ _ _ _ (h.2 q) p l e s m args below meth c D cA A ρ0 ρ H locs ls G hn hP hD hS hl)
    · intro p l e s m args below meth c D cA A ρ0 ρ H locs ls G hn hP hD hS hl
      exact lv_if_ne (tgt := tg pc off) G.1 G.2.1 hd (Int.toNat_of_nonneg (of_decide_eq_true hc)).symm (fun q => hK _ _ _ _ _ _ (h.1 q) p l e s m args below meth c D cA A ρ0 ρ H locs ls G hn hP hD hS hl) (fun q => hK _ _ _ _ _ _ (h.2 q) p l e s m args below meth c D cA A ρ0 ρ H locs ls G hn hP hD hS hl)
    · intro p l e s m args below meth c D cA A ρ0 ρ H locs ls G hn hP hD hS hl
      exact lv_if_lt (tgt := tg pc off) G.1 G.2.1 hd (Int.toNat_of_nonneg (of_decide_eq_true hc)).symm (fun q => hK _ _ _ _ _ _ (h.1 q) p l e s m args below meth c D cA A ρ0 ρ H locs ls G hn hP hD hS hl) (fun q => hK _ _ _ _ _ _ (h.2 q) p l e s m args below meth c D cA A ρ0 ρ H locs ls G hn hP hD hS hl)
    · intro p l e s m args below meth c D cA A ρ0 ρ H locs ls G hn hP hD hS hl
      exact lv_if_ge (tgt := tg pc off) G.1 G.2.1 hd (Int.toNat_of_nonneg (of_decide_eq_true hc)).symm (fun q => hK _ _ _ _ _ _ (h.1 q) p l e s m args below meth c D cA A ρ0 ρ H locs ls G hn hP hD hS hl) (fun q => hK _ _ _ _ _ _ (h.2 q) p l e s m args below meth c D cA A ρ0 ρ H locs ls G hn hP hD hS hl)
    · intro p l e s m args below meth c D cA A ρ0 ρ H locs ls G hn hP hD hS hl
      exact lv_if_gt (tgt := tg pc off) G.1 G.2.1 hd (Int.toNat_of_nonneg (of_decide_eq_true hc)).symm (fun q => hK _ _ _ _ _ _ (h.1 q) p l e s m args below meth c D cA A ρ0 ρ H locs ls G hn hP hD hS hl) (fun q => hK _ _ _ _ _ _ (h.2 q) p l e s m args below meth c D cA A ρ0 ρ H locs ls G hn hP hD hS hl)
    · intro p l e s m args below meth c D cA A ρ0 ρ H locs ls G hn hP hD hS hl
      exact lv_if_le (tgt := tg pc off) G.1 G.2.1 hd (Int.toNat_of_nonneg (of_decide_eq_true hc)).symm (fun q => hK _ _ _ _ _ _ (h.1 q) p l e s m args below meth c D cA A ρ0 ρ H locs ls G hn hP hD hS hl) (fun q => hK _ _ _ _ _ _ (h.2 q) p l e s m args below meth c D cA A ρ0 ρ H locs ls G hn hP hD hS hl)
  · exact h.elim
theorem so_if_icmp {y : MY} {mc ms n0 : Nat} {Post : MP} {K : MK} {pc : Nat} {L : ML} {st : List Value} {w : MW} {nc ns ci k0 : Nat} {z : Int} {c : Jvm.ClassFile.Cond} {off : Int} (hK : ∀ pc L st w nc ns, K pc L st w nc ns → WM y mc ms Post n0 pc L st w nc ns) (hd : decode y.2.1 pc = .ok (.if_icmp c off, lenB (.if_icmp c off, ci, k0, z))) (hc : chkB y pc (.if_icmp c off, ci, k0, z) = true) (ho : mcn y.2.2.2.2.2.2 = y.1.cls) (h : sy1 mc ms n0 y.2.2.2.1 Post K (.if_icmp c off, ci, k0, z) pc L st w nc ns) : WM y mc ms Post n0 pc L st w nc ns := by
  dsimp only [sy1] at h
  split at h
  · rename_i y' x t
    cases c <;> dsimp only at h
    · intro p l e s m args below meth c D cA A ρ0 ρ H locs ls G hn hP hD hS hl
      exact lv_icmp_eq (tgt := tg pc off) G.1 G.2.1 hd (Int.toNat_of_nonneg (of_decide_eq_true hc)).symm (fun q => hK _ _ _ _ _ _ (h.1 q) p l e s m args below meth c D cA A ρ0 ρ H locs ls G hn hP hD hS hl) (fun q => hK _ _ _ _ _ _ (h.2 q) p l e s m args below meth c D cA A ρ0 ρ H locs ls G hn hP hD hS hl)
    · intro p l e s m args below meth c D cA A ρ0 ρ H locs ls G hn hP hD hS hl
      exact lv_icmp_ne (tgt := tg pc off) G.1 G.2.1 hd (Int.toNat_of_nonneg (of_decide_eq_true hc)).symm (fun q => hK _ _ _ _ _ _ (h.1 q) p l e s m args below meth c D cA A ρ0 ρ H locs ls G hn hP hD hS hl) (fun q => hK _ _ _ _ _ _ (h.2 q) p l e s m args below meth c D cA A ρ0 ρ H locs ls G hn hP hD hS hl)
    · intro p l e s m args below meth c D cA A ρ0 ρ H locs ls G hn hP hD hS hl
      exact lv_icmp_lt (tgt := tg pc off) G.1 G.2.1 hd (Int.toNat_of_nonneg (of_decide_eq_true hc)).symm (fun q => hK _ _ _ _ _ _ (h.1 q) p l e s m args below meth c D cA A ρ0 ρ H locs ls G hn hP hD hS hl) (fun q => hK _ _ _ _ _ _ (h.2 q) p l e s m args below meth c D cA A ρ0 ρ H locs ls G hn hP hD hS hl)
    · intro p l e s m args below meth c D cA A ρ0 ρ H locs ls G hn hP hD hS hl
      exact lv_icmp_ge (tgt := tg pc off) G.1 G.2.1 hd (Int.toNat_of_nonneg (of_decide_eq_true hc)).symm (fun q => hK _ _ _ _ _ _ (h.1 q) p l e s m args below meth c D cA A ρ0 ρ H locs ls G hn hP hD hS hl) (fun q => hK _ _ _ _ _ _ (h.2 q) p l e s m args below meth c D cA A ρ0 ρ H locs ls G hn hP hD hS hl)
    · intro p l e s m args below meth c D cA A ρ0 ρ H locs ls G hn hP hD hS hl
      exact lv_icmp_gt (tgt := tg pc off) G.1 G.2.1 hd (Int.toNat_of_nonneg (of_decide_eq_true hc)).symm (fun q => hK _ _ _ _ _ _ (h.1 q) p l e s m args below meth c D cA A ρ0 ρ H locs ls G hn hP hD hS hl) (fun q => hK _ _ _ _ _ _ (h.2 q) p l e s m args below meth c D cA A ρ0 ρ H locs ls G hn hP hD hS hl)
    · intro p l e s m args below meth c D cA A ρ0 ρ H locs ls G hn hP hD hS hl
      exact lv_icmp_le (tgt := tg pc off) G.1 G.2.1 hd (Int.toNat_of_nonneg (of_decide_eq_true hc)).symm (fun q => hK _ _ _ _ _ _ (h.1 q) p l e s m args below meth c D cA A ρ0 ρ H locs ls G hn hP hD hS hl) (fun q => hK _ _ _ _ _ _ (h.2 q) p l e s m args below meth c D cA A ρ0 ρ H locs ls G hn hP hD hS hl)
  · exact h.elim
theorem so_goto {y : MY} {mc ms n0 : Nat} {Post : MP} {K : MK} {pc : Nat} {L : ML} {st : List Value} {w : MW} {nc ns ci k0 : Nat} {z : Int} {off : Int} (hK : ∀ pc L st w nc ns, K pc L st w nc ns → WM y mc ms Post n0 pc L st w nc ns) (hd : decode y.2.1 pc = .ok (.goto off, lenB (.goto off, ci, k0, z))) (hc : chkB y pc (.goto off, ci, k0, z) = true) (ho : mcn y.2.2.2.2.2.2 = y.1.cls) (h : sy1 mc ms n0 y.2.2.2.1 Post K (.goto off, ci, k0, z) pc L st w nc ns) : WM y mc ms Post n0 pc L st w nc ns := by
  dsimp only [sy1] at h
  have k := hK _ _ _ _ _ _ h
  intro p l e s m args below meth c D cA A ρ0 ρ H locs ls G hn hP hD hS hl
  obtain ⟨hx, hb, hr, hml, hown, hts, hlk, hnm, hKK, hN, hA⟩ := id G
  exact lv_goto hx hb hd (Int.toNat_of_nonneg (of_decide_eq_true hc)).symm (k p l e s m args below meth c D cA A ρ0 ρ H locs ls G hn hP hD hS hl)
theorem so_getfield {y : MY} {mc ms n0 : Nat} {Post : MP} {K : MK} {pc : Nat} {L : ML} {st : List Value} {w : MW} {nc ns ci k0 : Nat} {z : Int} {i : Nat} (hK : ∀ pc L st w nc ns, K pc L st w nc ns → WM y mc ms Post n0 pc L st w nc ns) (hd : decode y.2.1 pc = .ok (.getfield i, lenB (.getfield i, ci, k0, z))) (hc : chkB y pc (.getfield i, ci, k0, z) = true) (ho : mcn y.2.2.2.2.2.2 = y.1.cls) (h : sy1 mc ms n0 y.2.2.2.1 Post K (.getfield i, ci, k0, z) pc L st w nc ns) : WM y mc ms Post n0 pc L st w nc ns := by
  dsimp only [sy1] at h
  split at h
  · rename_i a t
    split at h
    · rename_i ci' fs hwa
      split at h
      · rename_i hci
        split at h
        · rename_i v hv
          have k := hK _ _ _ _ _ _ h
          have e1 := Nat.eq_of_beq_eq_true hci
          subst e1
          obtain ⟨r, h1, h2, h3⟩ := fl_ok hc ho
          obtain ⟨o1, o2, o3, -⟩ := mcl_ok _ _ h1
          intro p l e s m args below meth c D cA A ρ0 ρ H locs ls G hn hP hD hS hl
          obtain ⟨hx, hb, hr, hml, hown, hts, hlk, hnm, hKK, hN, hA⟩ := id G
          exact va_get (D := D) (ci := ci') (v := mvV ρ v) (C := r.1) (T := r.2.1) (N := r.2.2) (a := ρ a) hx hb hts (lay_in o1) hown hKK hP a (mvW_at hwa) h1 k0 h2 (hts _ h3) (fun _ q => q) (by rw [List.getElem?_map, hv]; rfl) hd (k p l e s m args below meth c D cA A ρ0 ρ H locs ls G hn hP hD hS hl)
        · exact h.elim
      · exact h.elim
    · exact h.elim
  · exact h.elim
theorem so_putfield {y : MY} {mc ms n0 : Nat} {Post : MP} {K : MK} {pc : Nat} {L : ML} {st : List Value} {w : MW} {nc ns ci k0 : Nat} {z : Int} {i : Nat} (hK : ∀ pc L st w nc ns, K pc L st w nc ns → WM y mc ms Post n0 pc L st w nc ns) (hd : decode y.2.1 pc = .ok (.putfield i, lenB (.putfield i, ci, k0, z))) (hc : chkB y pc (.putfield i, ci, k0, z) = true) (ho : mcn y.2.2.2.2.2.2 = y.1.cls) (h : sy1 mc ms n0 y.2.2.2.1 Post K (.putfield i, ci, k0, z) pc L st w nc ns) : WM y mc ms Post n0 pc L st w nc ns := by
  dsimp only [sy1] at h
  split at h
  · rename_i v a t
    split at h
    · rename_i ci' fs hwa
      split at h
      · rename_i hci
        have e1 := Nat.eq_of_beq_eq_true hci
        subst e1
        split at h
        · rename_i hlt
          split at h
          · rename_i x hty
            exact so_put hd hc ho hwa (Nat.le_of_ble_eq_true hlt) hty (fun _ => rfl) (fun _ => rfl) (hK _ _ _ _ _ _ h)
          · rename_i x hty
            exact so_put hd hc ho hwa (Nat.le_of_ble_eq_true hlt) hty (fun _ => rfl) (fun _ => rfl) (hK _ _ _ _ _ _ h)
          · rename_i hty
            exact so_put hd hc ho hwa (Nat.le_of_ble_eq_true hlt) hty (fun _ => rfl) (fun _ => rfl) (hK _ _ _ _ _ _ h)
          · rename_i hty
            exact so_put hd hc ho hwa (Nat.le_of_ble_eq_true hlt) hty (fun _ => rfl) (fun _ => rfl) (hK _ _ _ _ _ _ h)
          · rename_i x hty
            exact so_put hd hc ho hwa (Nat.le_of_ble_eq_true hlt) hty (fun _ => h.1.1) (fun _ => h.1.2) (hK _ _ _ _ _ _ h.2)
          · exact h.elim
        · exact h.elim
      · exact h.elim
    · exact h.elim
  · exact h.elim
theorem so_iaload {y : MY} {mc ms n0 : Nat} {Post : MP} {K : MK} {pc : Nat} {L : ML} {st : List Value} {w : MW} {nc ns ci k0 : Nat} {z : Int} (hK : ∀ pc L st w nc ns, K pc L st w nc ns → WM y mc ms Post n0 pc L st w nc ns) (hd : decode y.2.1 pc = .ok (.iaload, lenB (.iaload, ci, k0, z))) (hc : chkB y pc (.iaload, ci, k0, z) = true) (ho : mcn y.2.2.2.2.2.2 = y.1.cls) (h : sy1 mc ms n0 y.2.2.2.1 Post K (.iaload, ci, k0, z) pc L st w nc ns) : WM y mc ms Post n0 pc L st w nc ns := by
  dsimp only [sy1] at h
  split at h
  · rename_i i a t
    split at h
    · rename_i n f hwa
      obtain ⟨j, hj, h⟩ := h
      obtain ⟨hj1, hj2⟩ := mj_in hj
      have k := hK _ _ _ _ _ _ h
      rw [← hj2] at k
      intro p l e s m args below meth c D cA A ρ0 ρ H locs ls G hn hP hD hS hl
      obtain ⟨hx, hb, hr, hml, hown, hts, hlk, hnm, hKK, hN, hA⟩ := id G
      exact va_iald hx hb hKK hP a 0 (mvW_at hwa) rfl hj1 hd (k p l e s m args below meth c D cA A ρ0 ρ H locs ls G hn hP hD hS hl)
    · exact h.elim
  · exact h.elim
theorem so_laload {y : MY} {mc ms n0 : Nat} {Post : MP} {K : MK} {pc : Nat} {L : ML} {st : List Value} {w : MW} {nc ns ci k0 : Nat} {z : Int} (hK : ∀ pc L st w nc ns, K pc L st w nc ns → WM y mc ms Post n0 pc L st w nc ns) (hd : decode y.2.1 pc = .ok (.laload, lenB (.laload, ci, k0, z))) (hc : chkB y pc (.laload, ci, k0, z) = true) (ho : mcn y.2.2.2.2.2.2 = y.1.cls) (h : sy1 mc ms n0 y.2.2.2.1 Post K (.laload, ci, k0, z) pc L st w nc ns) : WM y mc ms Post n0 pc L st w nc ns := by
  dsimp only [sy1] at h
  split at h
  · rename_i i a t
    split at h
    · rename_i n f hwa
      obtain ⟨j, hj, h⟩ := h
      obtain ⟨hj1, hj2⟩ := mj_in hj
      have k := hK _ _ _ _ _ _ h
      rw [← hj2] at k
      intro p l e s m args below meth c D cA A ρ0 ρ H locs ls G hn hP hD hS hl
      obtain ⟨hx, hb, hr, hml, hown, hts, hlk, hnm, hKK, hN, hA⟩ := id G
      exact va_lald hx hb hKK hP a 1 (mvW_at hwa) rfl hj1 hd (k p l e s m args below meth c D cA A ρ0 ρ H locs ls G hn hP hD hS hl)
    · exact h.elim
  · exact h.elim
theorem so_baload {y : MY} {mc ms n0 : Nat} {Post : MP} {K : MK} {pc : Nat} {L : ML} {st : List Value} {w : MW} {nc ns ci k0 : Nat} {z : Int} (hK : ∀ pc L st w nc ns, K pc L st w nc ns → WM y mc ms Post n0 pc L st w nc ns) (hd : decode y.2.1 pc = .ok (.baload, lenB (.baload, ci, k0, z))) (hc : chkB y pc (.baload, ci, k0, z) = true) (ho : mcn y.2.2.2.2.2.2 = y.1.cls) (h : sy1 mc ms n0 y.2.2.2.1 Post K (.baload, ci, k0, z) pc L st w nc ns) : WM y mc ms Post n0 pc L st w nc ns := by
  dsimp only [sy1] at h
  split at h
  · rename_i i a t
    split at h
    · rename_i n f hwa
      obtain ⟨j, hj, h⟩ := h
      obtain ⟨hj1, hj2⟩ := mj_in hj
      have k := hK _ _ _ _ _ _ h
      rw [← hj2] at k
      intro p l e s m args below meth c D cA A ρ0 ρ H locs ls G hn hP hD hS hl
      obtain ⟨hx, hb, hr, hml, hown, hts, hlk, hnm, hKK, hN, hA⟩ := id G
      exact va_bald hx hb hKK hP a 2 (mvW_at hwa) rfl hj1 hd (k p l e s m args below meth c D cA A ρ0 ρ H locs ls G hn hP hD hS hl)
    · rename_i n f hwa
      obtain ⟨j, hj, h⟩ := h
      obtain ⟨hj1, hj2⟩ := mj_in hj
      have k := hK _ _ _ _ _ _ h
      rw [← hj2] at k
      intro p l e s m args below meth c D cA A ρ0 ρ H locs ls G hn hP hD hS hl
      obtain ⟨hx, hb, hr, hml, hown, hts, hlk, hnm, hKK, hN, hA⟩ := id G
      exact va_zald hx hb hKK hP a 3 (mvW_at hwa) rfl hj1 hd (k p l e s m args below meth c D cA A ρ0 ρ H locs ls G hn hP hD hS hl)
    · exact h.elim
  · exact h.elim
theorem so_iastore {y : MY} {mc ms n0 : Nat} {Post : MP} {K : MK} {pc : Nat} {L : ML} {st : List Value} {w : MW} {nc ns ci k0 : Nat} {z : Int} (hK : ∀ pc L st w nc ns, K pc L st w nc ns → WM y mc ms Post n0 pc L st w nc ns) (hd : decode y.2.1 pc = .ok (.iastore, lenB (.iastore, ci, k0, z))) (hc : chkB y pc (.iastore, ci, k0, z) = true) (ho : mcn y.2.2.2.2.2.2 = y.1.cls) (h : sy1 mc ms n0 y.2.2.2.1 Post K (.iastore, ci, k0, z) pc L st w nc ns) : WM y mc ms Post n0 pc L st w nc ns := by
  dsimp only [sy1] at h
  split at h
  · rename_i x i a t
    split at h
    · rename_i n f hwa
      obtain ⟨j, g, ⟨hj, rfl⟩, h⟩ := h
      obtain ⟨hj1, hj2⟩ := mj_in hj
      have k := hK _ _ _ _ _ _ h
      rw [← hj2] at k
      intro p l e s m args below meth c D cA A ρ0 ρ H locs ls G hn hP hD hS hl
      obtain ⟨hx, hb, hr, hml, hown, hts, hlk, hnm, hKK, hN, hA⟩ := id G
      refine va_iast hx hb hKK hP hD hS a 0 (mvW_at hwa) rfl hj1 hd (fun H1 locs1 hP1 hD1 hS1 => ?_)
      exact k p l e s m args below meth c D cA A ρ0 ρ H1 locs1 ls G hn (by rw [mvW_set]; exact hP1) (by rw [mvW_set]; exact hD1) hS1 hl
    · exact h.elim
  · exact h.elim
theorem so_lastore {y : MY} {mc ms n0 : Nat} {Post : MP} {K : MK} {pc : Nat} {L : ML} {st : List Value} {w : MW} {nc ns ci k0 : Nat} {z : Int} (hK : ∀ pc L st w nc ns, K pc L st w nc ns → WM y mc ms Post n0 pc L st w nc ns) (hd : decode y.2.1 pc = .ok (.lastore, lenB (.lastore, ci, k0, z))) (hc : chkB y pc (.lastore, ci, k0, z) = true) (ho : mcn y.2.2.2.2.2.2 = y.1.cls) (h : sy1 mc ms n0 y.2.2.2.1 Post K (.lastore, ci, k0, z) pc L st w nc ns) : WM y mc ms Post n0 pc L st w nc ns := by
  dsimp only [sy1] at h
  split at h
  · rename_i x i a t
    split at h
    · rename_i n f hwa
      obtain ⟨j, g, ⟨hj, rfl⟩, h⟩ := h
      obtain ⟨hj1, hj2⟩ := mj_in hj
      have k := hK _ _ _ _ _ _ h
      rw [← hj2] at k
      intro p l e s m args below meth c D cA A ρ0 ρ H locs ls G hn hP hD hS hl
      obtain ⟨hx, hb, hr, hml, hown, hts, hlk, hnm, hKK, hN, hA⟩ := id G
      refine va_last hx hb hKK hP hD hS a 1 (mvW_at hwa) rfl hj1 hd (fun H1 locs1 hP1 hD1 hS1 => ?_)
      exact k p l e s m args below meth c D cA A ρ0 ρ H1 locs1 ls G hn (by rw [mvW_set]; exact hP1) (by rw [mvW_set]; exact hD1) hS1 hl
    · exact h.elim
  · exact h.elim
theorem so_bastore {y : MY} {mc ms n0 : Nat} {Post : MP} {K : MK} {pc : Nat} {L : ML} {st : List Value} {w : MW} {nc ns ci k0 : Nat} {z : Int} (hK : ∀ pc L st w nc ns, K pc L st w nc ns → WM y mc ms Post n0 pc L st w nc ns) (hd : decode y.2.1 pc = .ok (.bastore, lenB (.bastore, ci, k0, z))) (hc : chkB y pc (.bastore, ci, k0, z) = true) (ho : mcn y.2.2.2.2.2.2 = y.1.cls) (h : sy1 mc ms n0 y.2.2.2.1 Post K (.bastore, ci, k0, z) pc L st w nc ns) : WM y mc ms Post n0 pc L st w nc ns := by
  dsimp only [sy1] at h
  split at h
  · rename_i x i a t
    split at h
    · rename_i n f hwa
      obtain ⟨j, g, ⟨hj, rfl⟩, h⟩ := h
      obtain ⟨hj1, hj2⟩ := mj_in hj
      have k := hK _ _ _ _ _ _ h
      rw [← hj2] at k
      intro p l e s m args below meth c D cA A ρ0 ρ H locs ls G hn hP hD hS hl
      obtain ⟨hx, hb, hr, hml, hown, hts, hlk, hnm, hKK, hN, hA⟩ := id G
      refine va_bast hx hb hKK hP hD hS a 2 (mvW_at hwa) rfl hj1 hd (fun H1 locs1 hP1 hD1 hS1 => ?_)
      exact k p l e s m args below meth c D cA A ρ0 ρ H1 locs1 ls G hn (by rw [mvW_set]; exact hP1) (by rw [mvW_set]; exact hD1) hS1 hl
    · rename_i n f hwa
      obtain ⟨j, g, ⟨hj, rfl⟩, h⟩ := h
      obtain ⟨hj1, hj2⟩ := mj_in hj
      have k := hK _ _ _ _ _ _ h
      rw [← hj2] at k
      intro p l e s m args below meth c D cA A ρ0 ρ H locs ls G hn hP hD hS hl
      obtain ⟨hx, hb, hr, hml, hown, hts, hlk, hnm, hKK, hN, hA⟩ := id G
      refine va_zast hx hb hKK hP hD hS a 3 (mvW_at hwa) rfl hj1 hd (fun H1 locs1 hP1 hD1 hS1 => ?_)
      exact k p l e s m args below meth c D cA A ρ0 ρ H1 locs1 ls G hn (by rw [mvW_set]; exact hP1) (by rw [mvW_set]; exact hD1) hS1 hl
    · exact h.elim
  · exact h.elim
theorem so_arraylength {y : MY} {mc ms n0 : Nat} {Post : MP} {K : MK} {pc : Nat} {L : ML} {st : List Value} {w : MW} {nc ns ci k0 : Nat} {z : Int} (hK : ∀ pc L st w nc ns, K pc L st w nc ns → WM y mc ms Post n0 pc L st w nc ns) (hd : decode y.2.1 pc = .ok (.arraylength, lenB (.arraylength, ci, k0, z))) (hc : chkB y pc (.arraylength, ci, k0, z) = true) (ho : mcn y.2.2.2.2.2.2 = y.1.cls) (h : sy1 mc ms n0 y.2.2.2.1 Post K (.arraylength, ci, k0, z) pc L st w nc ns) : WM y mc ms Post n0 pc L st w nc ns := by
  dsimp only [sy1] at h
  split at h
  · rename_i a t
    split at h
    · rename_i tt n d hwa
      split at h
      · rename_i hlt
        have k := hK _ _ _ _ _ _ h
        intro p l e s m args below meth c D cA A ρ0 ρ H locs ls G hn hP hD hS hl
        obtain ⟨hx, hb, hr, hml, hown, hts, hlk, hnm, hKK, hN, hA⟩ := id G
        have hlt := Nat.le_of_ble_eq_true hlt
        obtain ⟨ty, hty⟩ : ∃ ty, (mvT cA)[tt]? = some (cA tt, ty) := by
          match tt, hlt with
          | 0, _ => exact ⟨_, rfl⟩
          | 1, _ => exact ⟨_, rfl⟩
          | 2, _ => exact ⟨_, rfl⟩
          | 3, _ => exact ⟨_, rfl⟩
        exact va_alen (x := (n, d)) hx hb hKK hP a tt (mvW_at hwa) hty (kI_nat n).symm hd (k p l e s m args below meth c D cA A ρ0 ρ H locs ls G hn hP hD hS hl)
      · exact h.elim
    · exact h.elim
  · exact h.elim
theorem so_newarray {y : MY} {mc ms n0 : Nat} {Post : MP} {K : MK} {pc : Nat} {L : ML} {st : List Value} {w : MW} {nc ns ci k0 : Nat} {z : Int} {at_ : ArrayType} (hK : ∀ pc L st w nc ns, K pc L st w nc ns → WM y mc ms Post n0 pc L st w nc ns) (hd : decode y.2.1 pc = .ok (.newarray at_, lenB (.newarray at_, ci, k0, z))) (hc : chkB y pc (.newarray at_, ci, k0, z) = true) (ho : mcn y.2.2.2.2.2.2 = y.1.cls) (h : sy1 mc ms n0 y.2.2.2.1 Post K (.newarray at_, ci, k0, z) pc L st w nc ns) : WM y mc ms Post n0 pc L st w nc ns := by
  dsimp only [sy1] at h
  split at h
  · rename_i n t
    split at h
    · rename_i hw
      simp only [Bool.and_eq_true] at hw
      obtain ⟨N, ⟨rfl, h1, h2⟩, h⟩ := h
      have k := hK _ _ _ _ _ _ h
      have e1 : ¬ kI (N : Int) < 0 ∧ (kI (N : Int)).toNatClampNeg = N := by
        rw [kI_nat]
        exact ⟨nI_pos (by omega), nI_clamp (by omega)⟩
      rw [← e1.2] at h1 h2 k
      exact so_newa hd hw.1 (Nat.le_of_ble_eq_true hw.2.1) hw.2.2 ⟨e1.1, h1, h2⟩ k
    · exact h.elim
  · exact h.elim
theorem so_new {y : MY} {mc ms n0 : Nat} {Post : MP} {K : MK} {pc : Nat} {L : ML} {st : List Value} {w : MW} {nc ns ci k0 : Nat} {z : Int} {i : Nat} (hK : ∀ pc L st w nc ns, K pc L st w nc ns → WM y mc ms Post n0 pc L st w nc ns) (hd : decode y.2.1 pc = .ok (.new i, lenB (.new i, ci, k0, z))) (hc : chkB y pc (.new i, ci, k0, z) = true) (ho : mcn y.2.2.2.2.2.2 = y.1.cls) (h : sy1 mc ms n0 y.2.2.2.1 Post K (.new i, ci, k0, z) pc L st w nc ns) : WM y mc ms Post n0 pc L st w nc ns := by
  dsimp only [sy1] at h
  split at h
  · rename_i hw
    simp only [Bool.and_eq_true] at hw
    split at h
    · rename_i r hr
      have k := hK _ _ _ _ _ _ h.2
      exact so_newc hd hc ho hr (Nat.le_of_ble_eq_true hw.1) hw.2 h.1 k
    · exact h.elim
  · exact h.elim
theorem so_ireturn {y : MY} {mc ms n0 : Nat} {Post : MP} {K : MK} {pc : Nat} {L : ML} {st : List Value} {w : MW} {nc ns ci k0 : Nat} {z : Int} (hK : ∀ pc L st w nc ns, K pc L st w nc ns → WM y mc ms Post n0 pc L st w nc ns) (hd : decode y.2.1 pc = .ok (.ireturn, lenB (.ireturn, ci, k0, z))) (hc : chkB y pc (.ireturn, ci, k0, z) = true) (ho : mcn y.2.2.2.2.2.2 = y.1.cls) (h : sy1 mc ms n0 y.2.2.2.1 Post K (.ireturn, ci, k0, z) pc L st w nc ns) : WM y mc ms Post n0 pc L st w nc ns := by
  dsimp only [sy1] at h
  split at h
  · rename_i x
    split at h
    · rename_i hw
      split at h
      · rename_i hret
        intro p l e s m args below meth c D cA A ρ0 ρ H locs ls G hn hP hD hS hl
        obtain ⟨hx, hb, hr, hml, hown, hts, hlk, hnm, hKK, hN, hA⟩ := id G
        refine W.widen (k := mc) (n := ms) h.1.1 h.1.2 ?_
        exact W.iret hx hb (by rw [hr, hret]) (fun t ht hW => ⟨⟨_, w, ρ, rfl, h.2, Nat.le_of_ble_eq_true hw, hn, by rw [ht]; exact hP, hD⟩, hS.F ht⟩) hS.2.2 hd hlk
      · rename_i hret
        intro p l e s m args below meth c D cA A ρ0 ρ H locs ls G hn hP hD hS hl
        obtain ⟨hx, hb, hr, hml, hown, hts, hlk, hnm, hKK, hN, hA⟩ := id G
        refine W.widen (k := mc) (n := ms) h.2.1.1 h.2.1.2 ?_
        exact W.zret hx hb (by rw [hr, hret]) h.1 (fun t ht hW => ⟨⟨_, w, ρ, rfl, h.2.2, Nat.le_of_ble_eq_true hw, hn, by rw [ht]; exact hP, hD⟩, hS.F ht⟩) hS.2.2 hd hlk
      · exact h.elim
    · exact h.elim
  · exact h.elim
theorem so_lreturn {y : MY} {mc ms n0 : Nat} {Post : MP} {K : MK} {pc : Nat} {L : ML} {st : List Value} {w : MW} {nc ns ci k0 : Nat} {z : Int} (hK : ∀ pc L st w nc ns, K pc L st w nc ns → WM y mc ms Post n0 pc L st w nc ns) (hd : decode y.2.1 pc = .ok (.lreturn, lenB (.lreturn, ci, k0, z))) (hc : chkB y pc (.lreturn, ci, k0, z) = true) (ho : mcn y.2.2.2.2.2.2 = y.1.cls) (h : sy1 mc ms n0 y.2.2.2.1 Post K (.lreturn, ci, k0, z) pc L st w nc ns) : WM y mc ms Post n0 pc L st w nc ns := by
  dsimp only [sy1] at h
  split at h
  · rename_i x
    split at h
    · rename_i hw
      split at h
      · rename_i hret
        intro p l e s m args below meth c D cA A ρ0 ρ H locs ls G hn hP hD hS hl
        obtain ⟨hx, hb, hr, hml, hown, hts, hlk, hnm, hKK, hN, hA⟩ := id G
        refine W.widen (k := mc) (n := ms) h.1.1 h.1.2 ?_
        exact W.lret hx hb (by rw [hr, hret]) (fun t ht hW => ⟨⟨_, w, ρ, rfl, h.2, Nat.le_of_ble_eq_true hw, hn, by rw [ht]; exact hP, hD⟩, hS.F ht⟩) hS.2.2 hd hlk
      · exact h.elim
    · exact h.elim
  · exact h.elim
theorem so_areturn {y : MY} {mc ms n0 : Nat} {Post : MP} {K : MK} {pc : Nat} {L : ML} {st : List Value} {w : MW} {nc ns ci k0 : Nat} {z : Int} (hK : ∀ pc L st w nc ns, K pc L st w nc ns → WM y mc ms Post n0 pc L st w nc ns) (hd : decode y.2.1 pc = .ok (.areturn, lenB (.areturn, ci, k0, z))) (hc : chkB y pc (.areturn, ci, k0, z) = true) (ho : mcn y.2.2.2.2.2.2 = y.1.cls) (h : sy1 mc ms n0 y.2.2.2.1 Post K (.areturn, ci, k0, z) pc L st w nc ns) : WM y mc ms Post n0 pc L st w nc ns := by
  dsimp only [sy1] at h
  split at h
  · rename_i x
    split at h
    · rename_i hw
      split at h
      · rename_i tt hret
        intro p l e s m args below meth c D cA A ρ0 ρ H locs ls G hn hP hD hS hl
        obtain ⟨hx, hb, hr, hml, hown, hts, hlk, hnm, hKK, hN, hA⟩ := id G
        refine W.widen (k := mc) (n := ms) h.1.1 h.1.2 ?_
        exact W.aret hx hb (by rw [hr, hret]) (Or.inr ⟨_, rfl⟩) (Or.inr ⟨_, rfl⟩) (fun t ht hW => ⟨⟨_, w, ρ, rfl, h.2, Nat.le_of_ble_eq_true hw, hn, by rw [ht]; exact hP, hD⟩, hS.F ht⟩) hS.2.2 hd hlk
      · exact h.elim
    · exact h.elim
  · exact h.elim
theorem so_return_ {y : MY} {mc ms n0 : Nat} {Post : MP} {K : MK} {pc : Nat} {L : ML} {st : List Value} {w : MW} {nc ns ci k0 : Nat} {z : Int} (hK : ∀ pc L st w nc ns, K pc L st w nc ns → WM y mc ms Post n0 pc L st w nc ns) (hd : decode y.2.1 pc = .ok (.return_, lenB (.return_, ci, k0, z))) (hc : chkB y pc (.return_, ci, k0, z) = true) (ho : mcn y.2.2.2.2.2.2 = y.1.cls) (h : sy1 mc ms n0 y.2.2.2.1 Post K (.return_, ci, k0, z) pc L st w nc ns) : WM y mc ms Post n0 pc L st w nc ns := by
  dsimp only [sy1] at h
  split at h
  · split at h
    · rename_i hw
      split at h
      · rename_i hret
        intro p l e s m args below meth c D cA A ρ0 ρ H locs ls G hn hP hD hS hl
        obtain ⟨hx, hb, hr, hml, hown, hts, hlk, hnm, hKK, hN, hA⟩ := id G
        refine W.widen (k := mc) (n := ms) h.1.1 h.1.2 ?_
        exact W.vret hx hb (by rw [hr, hret]) (fun t ht hW => ⟨⟨_, w, ρ, rfl, h.2, Nat.le_of_ble_eq_true hw, hn, by rw [ht]; exact hP, hD⟩, hS.F ht⟩) hS.2.2 hd hlk
      · exact h.elim
    · exact h.elim
  · exact h.elim
theorem so_tableswitch {y : MY} {mc ms n0 : Nat} {Post : MP} {K : MK} {pc : Nat} {L : ML} {st : List Value} {w : MW} {nc ns ci k0 : Nat} {z : Int} {d lo hi : Int} {offs : Array Int} (hK : ∀ pc L st w nc ns, K pc L st w nc ns → WM y mc ms Post n0 pc L st w nc ns) (hd : decode y.2.1 pc = .ok (.tableswitch d lo hi offs, lenB (.tableswitch d lo hi offs, ci, k0, z))) (hc : chkB y pc (.tableswitch d lo hi offs, ci, k0, z) = true) (ho : mcn y.2.2.2.2.2.2 = y.1.cls) (h : sy1 mc ms n0 y.2.2.2.1 Post K (.tableswitch d lo hi offs, ci, k0, z) pc L st w nc ns) : WM y mc ms Post n0 pc L st w nc ns := by
  dsimp only [sy1] at h
  split at h
  · rename_i x t
    exact so_tsw hd hc (fun q hq => hK _ _ _ _ _ _ hq) h
  · exact h.elim
theorem so_lookupswitch {y : MY} {mc ms n0 : Nat} {Post : MP} {K : MK} {pc : Nat} {L : ML} {st : List Value} {w : MW} {nc ns ci k0 : Nat} {z : Int} {d : Int} {ps : Array (Int × Int)} (hK : ∀ pc L st w nc ns, K pc L st w nc ns → WM y mc ms Post n0 pc L st w nc ns) (hd : decode y.2.1 pc = .ok (.lookupswitch d ps, lenB (.lookupswitch d ps, ci, k0, z))) (hc : chkB y pc (.lookupswitch d ps, ci, k0, z) = true) (ho : mcn y.2.2.2.2.2.2 = y.1.cls) (h : sy1 mc ms n0 y.2.2.2.1 Post K (.lookupswitch d ps, ci, k0, z) pc L st w nc ns) : WM y mc ms Post n0 pc L st w nc ns := by
  dsimp only [sy1] at h
  split at h
  · rename_i x t
    exact so_lsw hd hc (fun q hq => hK _ _ _ _ _ _ hq) h
  · exact h.elim
theorem sy1_ok {y : MY} {mc ms n0 : Nat} {Post : MP} {K : MK} {pc : Nat} {L : ML} {st : List Value} {w : MW} {nc ns : Nat} (b : MB) (hK : ∀ pc L st w nc ns, K pc L st w nc ns → WM y mc ms Post n0 pc L st w nc ns) (hd : decode y.2.1 pc = .ok (b.1, lenB b)) (hc : chkB y pc b = true) (ho : mcn y.2.2.2.2.2.2 = y.1.cls) (h : sy1 mc ms n0 y.2.2.2.1 Post K b pc L st w nc ns) : WM y mc ms Post n0 pc L st w nc ns := by
  obtain ⟨i, ci, k0, z⟩ := b
  cases i
  all_goals try exact False.elim h
  case iconst => exact so_iconst hK hd hc ho h
  case bipush => exact so_bipush hK hd hc ho h
  case sipush => exact so_sipush hK hd hc ho h
  case lconst => exact so_lconst hK hd hc ho h
  case iload => exact so_iload hK hd hc ho h
  case iload_n => exact so_iload_n hK hd hc ho h
  case lload => exact so_lload hK hd hc ho h
  case lload_n => exact so_lload_n hK hd hc ho h
  case aload => exact so_aload hK hd hc ho h
  case aload_n => exact so_aload_n hK hd hc ho h
  case istore => exact so_istore hK hd hc ho h
  case istore_n => exact so_istore_n hK hd hc ho h
  case lstore => exact so_lstore hK hd hc ho h
  case lstore_n => exact so_lstore_n hK hd hc ho h
  case astore => exact so_astore hK hd hc ho h
  case astore_n => exact so_astore_n hK hd hc ho h
  case iinc => exact so_iinc hK hd hc ho h
  case iadd => exact so_iadd hK hd hc ho h
  case isub => exact so_isub hK hd hc ho h
  case imul => exact so_imul hK hd hc ho h
  case iand => exact so_iand hK hd hc ho h
  case ior => exact so_ior hK hd hc ho h
  case ixor => exact so_ixor hK hd hc ho h
  case idiv => exact so_idiv hK hd hc ho h
  case irem => exact so_irem hK hd hc ho h
  case ladd => exact so_ladd hK hd hc ho h
  case lsub => exact so_lsub hK hd hc ho h
  case lmul => exact so_lmul hK hd hc ho h
  case land => exact so_land hK hd hc ho h
  case lor => exact so_lor hK hd hc ho h
  case lxor => exact so_lxor hK hd hc ho h
  case ldiv => exact so_ldiv hK hd hc ho h
  case lrem => exact so_lrem hK hd hc ho h
  case ishl => exact so_ishl hK hd hc ho h
  case ishr => exact so_ishr hK hd hc ho h
  case iushr => exact so_iushr hK hd hc ho h
  case lushr => exact so_lushr hK hd hc ho h
  case lshl => exact so_lshl hK hd hc ho h
  case lshr => exact so_lshr hK hd hc ho h
  case lcmp => exact so_lcmp hK hd hc ho h
  case ineg => exact so_ineg hK hd hc ho h
  case lneg => exact so_lneg hK hd hc ho h
  case i2l => exact so_i2l hK hd hc ho h
  case l2i => exact so_l2i hK hd hc ho h
  case i2b => exact so_i2b hK hd hc ho h
  case dup => exact so_dup hK hd hc ho h
  case pop => exact so_pop hK hd hc ho h
  case dup_x1 => exact so_dup_x1 hK hd hc ho h
  case dup_x2 => exact so_dup_x2 hK hd hc ho h
  case dup2 => exact so_dup2 hK hd hc ho h
  case ldc => exact so_ldc hK hd hc ho h
  case ldc_w => exact so_ldc_w hK hd hc ho h
  case ldc2_w => exact so_ldc2_w hK hd hc ho h
  case ifCond => exact so_ifCond hK hd hc ho h
  case if_icmp => exact so_if_icmp hK hd hc ho h
  case goto => exact so_goto hK hd hc ho h
  case getfield => exact so_getfield hK hd hc ho h
  case putfield => exact so_putfield hK hd hc ho h
  case iaload => exact so_iaload hK hd hc ho h
  case laload => exact so_laload hK hd hc ho h
  case baload => exact so_baload hK hd hc ho h
  case iastore => exact so_iastore hK hd hc ho h
  case lastore => exact so_lastore hK hd hc ho h
  case bastore => exact so_bastore hK hd hc ho h
  case arraylength => exact so_arraylength hK hd hc ho h
  case newarray => exact so_newarray hK hd hc ho h
  case new => exact so_new hK hd hc ho h
  case ireturn => exact so_ireturn hK hd hc ho h
  case lreturn => exact so_lreturn hK hd hc ho h
  case areturn => exact so_areturn hK hd hc ho h
  case return_ => exact so_return_ hK hd hc ho h
  case tableswitch => exact so_tableswitch hK hd hc ho h
  case lookupswitch => exact so_lookupswitch hK hd hc ho h
/-- a stretch of instructions -/
def sy (mc ms n0 : Nat) (ret : Option FieldType) (Post : MP) (K : MK) : List MB → MK
  | [], pc, L, st, w, nc, ns => K pc L st w nc ns
  | b :: r, pc, L, st, w, nc, ns => sy1 mc ms n0 ret Post (sy mc ms n0 ret Post K r) b pc L st w nc ns
/-- the stretch stands there -/
def stB (y : MY) : Nat → List MB → Bool
  | _, [] => true
  | pc, b :: r => decide (decode y.2.1 pc = .ok (b.1, lenB b)) && chkB y pc b && stB y (pc + lenB b) r
