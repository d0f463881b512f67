/-! THE LAW, 1: its own judgement, with the script outside the world -/
abbrev SX : Type := Nat × Nat × (Nat → Int32)
def mGX (X : SX) (y : MY) (p : Program) (s : State) (m : MethodId) (args : Array Value) (meth : Method) (c : Code) (D : va_G) (cA : Nat → ClassId) (A : Nat → Prop) : Prop := mG y p s m args meth c D cA A ∧ va_X X.1 X.2.1 X.2.2 s s.heap ∧ X.1 < s.heap.size ∧ ¬ A X.1
def WL (X : SX) (y : MY) (mc ms : Nat) (Post : MP) (n0 pc : Nat) (L : ML) (st : List Value) (w : MW) (nc ns : Nat) : Prop :=
  ∀ (p : Program) (l : Launch) (e : Env) (s : State) (m : MethodId) (args : Array Value) (below : List Frame) (meth : Method) (c : Code) (D : va_G) (cA : Nat → ClassId) (A : Nat → Prop) (ρ0 ρ : Nat → Nat) (H : Heap) (locs : List Loc) (ls : Array Slot),
    mGX X y p s m args meth c D cA A → (∀ i, i < n0 → ρ i = ρ0 i) → va_P D mcl (mvW cA ρ w) H → va_D A (mvW cA ρ w) → va_S A s.heap H locs → lv_has ls y.2.2.1 (mvL ρ L ++ [(0, .ref X.1)]) →
    W p l e (rmY y mc ms) s m args below meth c H locs nc ns (MQ below (mvQ D cA A n0 ρ0 Post) args s mc ms A) (F0 m pc ls (st.map (mvV ρ)))
theorem lvX_l {ls : Array Slot} {nL : Nat} {l l' : List (Nat × Value)} (h : lv_has ls nL (l ++ l')) : lv_has ls nL l := ⟨h.1, h.2.1, fun q hq => h.2.2 q (List.mem_append_left _ hq)⟩
theorem sL1_hasX {ls : Array Slot} {nL i b : Nat} {v : Value} {L : ML} {ρ : Nat → Nat} (hi : i ≠ 0) (h : lv_has ls nL ((i, mvV ρ v) :: (mvL ρ L ++ [((0 : Nat), Value.ref b)]).filter (fun q => !(q.1 == i) && !(q.1 + 1 == i && q.2.category == 2)))) : lv_has ls nL (mvL ρ (sL1 i v L) ++ [(0, .ref b)]) := by
  refine ⟨h.1, h.2.1, fun q hq => ?_⟩
  rcases List.mem_append.mp hq with h1 | h1
  · refine (sL1_has (v := v) (L := L) (ρ := ρ) (i := i) ⟨h.1, h.2.1, fun q hq => h.2.2 q ?_⟩).2.2 q h1
    rcases List.mem_cons.mp hq with h2 | h2
    · rw [h2]; exact List.mem_cons_self
    · rw [List.filter_append]
      exact List.mem_cons_of_mem _ (List.mem_append_left _ h2)
  · rw [List.mem_singleton.mp h1]
    refine h.2.2 _ (List.mem_cons_of_mem _ (List.mem_filter.mpr ⟨List.mem_append_right _ (List.mem_singleton.mpr rfl), ?_⟩))
    have h3 : ((0 : Nat) == i) = false := beq_eq_false_iff_ne.mpr (fun h => hi h.symm)
    show (!((0 : Nat) == i) && !((0 : Nat) + 1 == i && (Value.ref b).category == 2)) = true
    rw [h3, show ((Value.ref b).category == 2) = false from rfl, Bool.and_false]
    rfl

theorem so_nwX {X : SX} {y : MY} {mc ms n0 : Nat} {Post : MP} {pc' : Nat} {L : ML} {t : List Value} {w : MW} {nc ns : Nat} {E : va_E} (h0 : n0 ≤ w.length) (hwf : mwfA w L t = true) (k : WL X y mc ms Post n0 pc' L (.ref w.length :: t) (w ++ [E]) nc ns)
    {p : Program} {l : Launch} {e : Env} {s : State} {m : MethodId} {args : Array Value} {below : List Frame} {meth : Method} {c : Code} {D : va_G} {cA : Nat → ClassId} {A : Nat → Prop} {ρ0 ρ : Nat → Nat} {H1 : Heap} {locs : List Loc} {ls : Array Slot} (G : mGX X y p s m args meth c D cA A) (hn : ∀ i, i < n0 → ρ i = ρ0 i) {q : Nat} {E' : va_E} (hE : ∀ ρ, mvE cA ρ E = E') (hP1 : va_P D mcl (mvW cA ρ w ++ [(q, E')]) H1) (hD1 : va_D A (mvW cA ρ w ++ [(q, E')])) (hS : va_S A s.heap H1 locs) (hl : lv_has ls y.2.2.1 (mvL ρ L ++ [(0, .ref X.1)])) :
    W p l e (rmY y mc ms) s m args below meth c H1 locs nc ns (MQ below (mvQ D cA A n0 ρ0 Post) args s mc ms A) (F0 m pc' ls (.ref q :: t.map (mvV ρ))) := by
  obtain ⟨f1, f2, f3⟩ := mwfA_spec hwf
  have hc : ∀ j, j < w.length → (fun j => if j = w.length then q else ρ j) j = ρ j := fun j hj => if_neg (by omega)
  have e1 := mvW_congr (cA := cA) hc (Nat.le_refl _) f1
  have e2 := mvL_congr hc (mwfL_all f2)
  have e3 := mapV_congr hc (mwfF_all f3)
  have e4 : mvW cA (fun j => if j = w.length then q else ρ j) (w ++ [E]) = mvW cA ρ w ++ [(q, E')] := by
    rw [mvW_app, e1, hE]
    simp
  have k1 := k p l e s m args below meth c D cA A ρ0 (fun j => if j = w.length then q else ρ j) H1 locs ls G (fun i hi => (hc i (by omega)).trans (hn i hi)) (by rw [e4]; exact hP1) (by rw [e4]; exact hD1) hS (by rw [e2]; exact hl)
  have e5 : (Value.ref w.length :: t).map (mvV (fun j => if j = w.length then q else ρ j)) = .ref q :: t.map (mvV ρ) := by
    rw [List.map_cons, e3]
    simp [mvV]
  rw [e5] at k1
  exact k1

theorem so_newcX {X : SX} {y : MY} {mc ms n0 : Nat} {Post : MP} {pc : Nat} {L : ML} {st : List Value} {w : MW} {nc ns ci k0 : Nat} {z : Int} {i : Nat} {r : vw_C} (hd : decode y.2.1 pc = .ok (.new i, 3)) (hc : chkB y pc (.new i, ci, k0, z) = true) (ho : mcn y.2.2.2.2.2.2 = y.1.cls) (hrr : mcl[ci]? = some r) (h0 : n0 ≤ w.length) (hwf : mwfA w L st = true)
    (hr : nc + 1 ≤ mc ∧ ns + r.2.2 ≤ ms) (k : WL X y mc ms Post n0 (pc + 3) L (.ref w.length :: st) (w ++ [.inr (ci, mini ci r.2.2)]) (nc + 1) (ns + r.2.2)) : WL X y mc ms Post n0 pc L st w nc ns := by
  intro p l e s m args below meth c D cA A ρ0 ρ H locs ls G hn hP hD hS hl
  obtain ⟨hx, hb, hrt, hml, hown, hts, hlk, hnm, hKK, hN, hA⟩ := id G.1
  obtain ⟨q, hq, h1⟩ := List.any_eq_true.mp hc
  simp only [Bool.and_eq_true, decide_eq_true_eq] at h1
  obtain ⟨⟨e1, e2⟩, e3⟩ := h1
  obtain ⟨r', r1, r2⟩ := mCL_ok q hq
  rw [e3, hrr] at r1
  cases r1
  rw [e1, e2, ho] at r2
  obtain ⟨o1, o2, o3, o4, o5⟩ := mcl_ok _ _ hrr
  refine va_new (ci := ci) (fs := mini ci r.2.2) (C := r.1) (T := r.2.1) (N := r.2.2) hx hb hts (lay_in o1) (mty ci) o2 hown (hts _ (lwg_in (List.mem_of_getElem? r2) rfl)) (hts _ (lwg_in o4 rfl)) (hts _ (lwg_in o5 rfl)) hKK hP hD hS hA hrr (fun j hj => ?_) hr.1 hr.2 hd (fun q H1 hP1 hD1 hS1 => ?_)
  · simp [vp_V, mini, List.getD, hj]
  · refine so_nwX h0 hwf k G hn (fun ρ => ?_) hP1 hD1 hS1 hl
    simp only [mvE, mini, List.map_map]
    congr 2
    apply List.map_congr_left
    intro k _
    exact mvV_df ρ _

theorem so_tswX {X : SX} {y : MY} {mc ms n0 : Nat} {Post : MP} {pc : Nat} {L : ML} {t : List Value} {w : MW} {nc ns ci k0 : Nat} {z : Int} {d lo hi : Int} {offs : Array Int} {x : Int32} {K' : Nat → Prop} (hd : decode y.2.1 pc = .ok (.tableswitch d lo hi offs, lenB (.tableswitch d lo hi offs, ci, k0, z))) (hc : chkB y pc (.tableswitch d lo hi offs, ci, k0, z) = true)
    (hK : ∀ q, K' q → WL X y mc ms Post n0 q L t w nc ns) (h : swN K' pc x d (swT lo offs.toList)) : WL X y mc ms Post n0 pc L (.int x :: t) w nc ns := by
  have hc' : swB pc d (swT lo offs.toList) = true ∧ hi = lo + offs.toList.length - 1 := by
    have := hc
    simp only [chkB, Bool.and_eq_true, decide_eq_true_eq] at this
    exact this
  obtain ⟨hb1, hb2⟩ := swB_spec hc'.1
  obtain ⟨s1, s2⟩ := swT_spec offs.toList lo hb2 h
  intro p l e s m args below meth c D cA A ρ0 ρ H locs ls G hn hP hD hS hl
  by_cases hlo : x.toInt < lo
  · exact lv_tableOut (tgt := tg pc d) G.1.1 G.1.2.1 hd (Or.inl hlo) (Int.toNat_of_nonneg hb1).symm (hK _ (s2 (Or.inl hlo)) p l e s m args below meth c D cA A ρ0 ρ H locs ls G hn hP hD hS hl)
  · by_cases hhi : hi < x.toInt
    · exact lv_tableOut (tgt := tg pc d) G.1.1 G.1.2.1 hd (Or.inr hhi) (Int.toNat_of_nonneg hb1).symm (hK _ (s2 (Or.inr (by omega))) p l e s m args below meth c D cA A ρ0 ρ H locs ls G hn hP hD hS hl)
    · have hj : (x.toInt - lo).toNat < offs.toList.length := by omega
      have ho : offs.toList[(x.toInt - lo).toNat]? = some (offs.toList[(x.toInt - lo).toNat]) := List.getElem?_eq_getElem hj
      obtain ⟨k1, k2⟩ := s1 _ _ ho (by omega)
      exact lv_tableIn (tgt := tg pc (offs.toList[(x.toInt - lo).toNat])) (off := offs.toList[(x.toInt - lo).toNat]) G.1.1 G.1.2.1 hd hlo hhi (by rw [← ho, Array.getElem?_toList]) (Int.toNat_of_nonneg k2).symm (hK _ k1 p l e s m args below meth c D cA A ρ0 ρ H locs ls G hn hP hD hS hl)

theorem so_iconstX {X : SX} {y : MY} {mc ms n0 : Nat} {Post : MP} {K : MK} {pc : Nat} {L : ML} {st : List Value} {w : MW} {nc ns ci k0 : Nat} {z : Int} {n : Int} (hK : ∀ pc L st w nc ns, K pc L st w nc ns → WL X y mc ms Post n0 pc L st w nc ns) (hd : decode y.2.1 pc = .ok (.iconst n, lenB (.iconst n, ci, k0, z))) (hc : chkB y pc (.iconst n, ci, k0, z) = true) (ho : mcn y.2.2.2.2.2.2 = y.1.cls) (h : sy1 mc ms n0 y.2.2.2.1 Post K (.iconst n, ci, k0, z) pc L st w nc ns) : WL X y mc ms Post n0 pc L st w nc ns := by
  dsimp only [sy1] at h
  have k := hK _ _ _ _ _ _ h
  intro p l e s m args below meth c D cA A ρ0 ρ H locs ls G hn hP hD hS hl
  obtain ⟨hx, hb, hr, hml, hown, hts, hlk, hnm, hKK, hN, hA⟩ := id G.1
  exact lv_iconst hx hb hd (of_decide_eq_true hc) (k p l e s m args below meth c D cA A ρ0 ρ H locs ls G hn hP hD hS hl)

theorem so_bipushX {X : SX} {y : MY} {mc ms n0 : Nat} {Post : MP} {K : MK} {pc : Nat} {L : ML} {st : List Value} {w : MW} {nc ns ci k0 : Nat} {z : Int} {n : Int} (hK : ∀ pc L st w nc ns, K pc L st w nc ns → WL X y mc ms Post n0 pc L st w nc ns) (hd : decode y.2.1 pc = .ok (.bipush n, lenB (.bipush n, ci, k0, z))) (hc : chkB y pc (.bipush n, ci, k0, z) = true) (ho : mcn y.2.2.2.2.2.2 = y.1.cls) (h : sy1 mc ms n0 y.2.2.2.1 Post K (.bipush n, ci, k0, z) pc L st w nc ns) : WL X y mc ms Post n0 pc L st w nc ns := by
  dsimp only [sy1] at h
  have k := hK _ _ _ _ _ _ h
  intro p l e s m args below meth c D cA A ρ0 ρ H locs ls G hn hP hD hS hl
  obtain ⟨hx, hb, hr, hml, hown, hts, hlk, hnm, hKK, hN, hA⟩ := id G.1
  exact lv_bipush hx hb hd (of_decide_eq_true hc) (k p l e s m args below meth c D cA A ρ0 ρ H locs ls G hn hP hD hS hl)

theorem so_sipushX {X : SX} {y : MY} {mc ms n0 : Nat} {Post : MP} {K : MK} {pc : Nat} {L : ML} {st : List Value} {w : MW} {nc ns ci k0 : Nat} {z : Int} {n : Int} (hK : ∀ pc L st w nc ns, K pc L st w nc ns → WL X y mc ms Post n0 pc L st w nc ns) (hd : decode y.2.1 pc = .ok (.sipush n, lenB (.sipush n, ci, k0, z))) (hc : chkB y pc (.sipush n, ci, k0, z) = true) (ho : mcn y.2.2.2.2.2.2 = y.1.cls) (h : sy1 mc ms n0 y.2.2.2.1 Post K (.sipush n, ci, k0, z) pc L st w nc ns) : WL X y mc ms Post n0 pc L st w nc ns := by
  dsimp only [sy1] at h
  have k := hK _ _ _ _ _ _ h
  intro p l e s m args below meth c D cA A ρ0 ρ H locs ls G hn hP hD hS hl
  obtain ⟨hx, hb, hr, hml, hown, hts, hlk, hnm, hKK, hN, hA⟩ := id G.1
  exact lv_sipush hx hb hd (of_decide_eq_true hc) (k p l e s m args below meth c D cA A ρ0 ρ H locs ls G hn hP hD hS hl)

theorem so_iloadX {X : SX} {y : MY} {mc ms n0 : Nat} {Post : MP} {K : MK} {pc : Nat} {L : ML} {st : List Value} {w : MW} {nc ns ci k0 : Nat} {z : Int} {j : Nat} (hK : ∀ pc L st w nc ns, K pc L st w nc ns → WL X y mc ms Post n0 pc L st w nc ns) (hd : decode y.2.1 pc = .ok (.iload j, lenB (.iload j, ci, k0, z))) (hc : chkB y pc (.iload j, ci, k0, z) = true) (ho : mcn y.2.2.2.2.2.2 = y.1.cls) (h : sy1 mc ms n0 y.2.2.2.1 Post K (.iload j, ci, k0, z) pc L st w nc ns) : WL X y mc ms Post n0 pc L st w nc ns := by
  dsimp only [sy1] at h
  split at h
  · rename_i x hg
    have k := hK _ _ _ _ _ _ h
    intro p l e s m args below meth c D cA A ρ0 ρ H locs ls G hn hP hD hS hl
    obtain ⟨hx, hb, hr, hml, hown, hts, hlk, hnm, hKK, hN, hA⟩ := id G.1
    exact lv_iload hx hb hd (gL_at (lvX_l hl) hg) (k p l e s m args below meth c D cA A ρ0 ρ H locs ls G hn hP hD hS hl)
  · exact h.elim

theorem so_iload_nX {X : SX} {y : MY} {mc ms n0 : Nat} {Post : MP} {K : MK} {pc : Nat} {L : ML} {st : List Value} {w : MW} {nc ns ci k0 : Nat} {z : Int} {j : Fin 4} (hK : ∀ pc L st w nc ns, K pc L st w nc ns → WL X y mc ms Post n0 pc L st w nc ns) (hd : decode y.2.1 pc = .ok (.iload_n j, lenB (.iload_n j, ci, k0, z))) (hc : chkB y pc (.iload_n j, ci, k0, z) = true) (ho : mcn y.2.2.2.2.2.2 = y.1.cls) (h : sy1 mc ms n0 y.2.2.2.1 Post K (.iload_n j, ci, k0, z) pc L st w nc ns) : WL X y mc ms Post n0 pc L st w nc ns := by
  dsimp only [sy1] at h
  split at h
  · rename_i x hg
    have k := hK _ _ _ _ _ _ h
    intro p l e s m args below meth c D cA A ρ0 ρ H locs ls G hn hP hD hS hl
    obtain ⟨hx, hb, hr, hml, hown, hts, hlk, hnm, hKK, hN, hA⟩ := id G.1
    exact lv_iload_n hx hb hd rfl (gL_at (lvX_l hl) hg) (k p l e s m args below meth c D cA A ρ0 ρ H locs ls G hn hP hD hS hl)
  · exact h.elim

theorem so_aloadX {X : SX} {y : MY} {mc ms n0 : Nat} {Post : MP} {K : MK} {pc : Nat} {L : ML} {st : List Value} {w : MW} {nc ns ci k0 : Nat} {z : Int} {j : Nat} (hK : ∀ pc L st w nc ns, K pc L st w nc ns → WL X y mc ms Post n0 pc L st w nc ns) (hd : decode y.2.1 pc = .ok (.aload j, lenB (.aload j, ci, k0, z))) (hc : chkB y pc (.aload j, ci, k0, z) = true) (ho : mcn y.2.2.2.2.2.2 = y.1.cls) (h : sy1 mc ms n0 y.2.2.2.1 Post K (.aload j, ci, k0, z) pc L st w nc ns) : WL X y mc ms Post n0 pc L st w nc ns := by
  dsimp only [sy1] at h
  split at h
  · rename_i x hg
    have k := hK _ _ _ _ _ _ h
    intro p l e s m args below meth c D cA A ρ0 ρ H locs ls G hn hP hD hS hl
    obtain ⟨hx, hb, hr, hml, hown, hts, hlk, hnm, hKK, hN, hA⟩ := id G.1
    exact lv_aload hx hb hd (gL_at (lvX_l hl) hg) (k p l e s m args below meth c D cA A ρ0 ρ H locs ls G hn hP hD hS hl)
  · exact h.elim

theorem so_aload_nX {X : SX} {y : MY} {mc ms n0 : Nat} {Post : MP} {K : MK} {pc : Nat} {L : ML} {st : List Value} {w : MW} {nc ns ci k0 : Nat} {z : Int} {j : Fin 4} (hK : ∀ pc L st w nc ns, K pc L st w nc ns → WL X y mc ms Post n0 pc L st w nc ns) (hd : decode y.2.1 pc = .ok (.aload_n j, lenB (.aload_n j, ci, k0, z))) (hc : chkB y pc (.aload_n j, ci, k0, z) = true) (ho : mcn y.2.2.2.2.2.2 = y.1.cls) (h : sy1 mc ms n0 y.2.2.2.1 Post K (.aload_n j, ci, k0, z) pc L st w nc ns) : WL X y mc ms Post n0 pc L st w nc ns := by
  dsimp only [sy1] at h
  split at h
  · rename_i x hg
    have k := hK _ _ _ _ _ _ h
    intro p l e s m args below meth c D cA A ρ0 ρ H locs ls G hn hP hD hS hl
    obtain ⟨hx, hb, hr, hml, hown, hts, hlk, hnm, hKK, hN, hA⟩ := id G.1
    exact lv_aload_n hx hb hd rfl (gL_at (lvX_l hl) hg) (k p l e s m args below meth c D cA A ρ0 ρ H locs ls G hn hP hD hS hl)
  · exact h.elim

theorem so_istoreX {X : SX} {y : MY} {mc ms n0 : Nat} {Post : MP} {K : MK} {pc : Nat} {L : ML} {st : List Value} {w : MW} {nc ns ci k0 : Nat} {z : Int} {j : Nat} (hK : ∀ pc L st w nc ns, K pc L st w nc ns → WL X y mc ms Post n0 pc L st w nc ns) (hi : j ≠ 0) (hd : decode y.2.1 pc = .ok (.istore j, lenB (.istore j, ci, k0, z))) (hc : chkB y pc (.istore j, ci, k0, z) = true) (ho : mcn y.2.2.2.2.2.2 = y.1.cls) (h : sy1 mc ms n0 y.2.2.2.1 Post K (.istore j, ci, k0, z) pc L st w nc ns) : WL X y mc ms Post n0 pc L st w nc ns := by
  dsimp only [sy1] at h
  split at h
  · rename_i x t
    have k := hK _ _ _ _ _ _ h
    intro p l e s m args below meth c D cA A ρ0 ρ H locs ls G hn hP hD hS hl
    obtain ⟨hx, hb, hr, hml, hown, hts, hlk, hnm, hKK, hN, hA⟩ := id G.1
    exact lv_istore hx hb hd hl (Nat.le_of_ble_eq_true hc) rfl (fun ls hl => k p l e s m args below meth c D cA A ρ0 ρ H locs ls G hn hP hD hS (sL1_hasX hi hl))
  · exact h.elim

theorem so_istore_nX {X : SX} {y : MY} {mc ms n0 : Nat} {Post : MP} {K : MK} {pc : Nat} {L : ML} {st : List Value} {w : MW} {nc ns ci k0 : Nat} {z : Int} {j : Fin 4} (hK : ∀ pc L st w nc ns, K pc L st w nc ns → WL X y mc ms Post n0 pc L st w nc ns) (hi : j.val ≠ 0) (hd : decode y.2.1 pc = .ok (.istore_n j, lenB (.istore_n j, ci, k0, z))) (hc : chkB y pc (.istore_n j, ci, k0, z) = true) (ho : mcn y.2.2.2.2.2.2 = y.1.cls) (h : sy1 mc ms n0 y.2.2.2.1 Post K (.istore_n j, ci, k0, z) pc L st w nc ns) : WL X y mc ms Post n0 pc L st w nc ns := by
  dsimp only [sy1] at h
  split at h
  · rename_i x t
    have k := hK _ _ _ _ _ _ h
    intro p l e s m args below meth c D cA A ρ0 ρ H locs ls G hn hP hD hS hl
    obtain ⟨hx, hb, hr, hml, hown, hts, hlk, hnm, hKK, hN, hA⟩ := id G.1
    exact lv_istore_n hx hb hd rfl hl (Nat.le_of_ble_eq_true hc) rfl (fun ls hl => k p l e s m args below meth c D cA A ρ0 ρ H locs ls G hn hP hD hS (sL1_hasX hi hl))
  · exact h.elim

theorem so_astoreX {X : SX} {y : MY} {mc ms n0 : Nat} {Post : MP} {K : MK} {pc : Nat} {L : ML} {st : List Value} {w : MW} {nc ns ci k0 : Nat} {z : Int} {j : Nat} (hK : ∀ pc L st w nc ns, K pc L st w nc ns → WL X y mc ms Post n0 pc L st w nc ns) (hi : j ≠ 0) (hd : decode y.2.1 pc = .ok (.astore j, lenB (.astore j, ci, k0, z))) (hc : chkB y pc (.astore j, ci, k0, z) = true) (ho : mcn y.2.2.2.2.2.2 = y.1.cls) (h : sy1 mc ms n0 y.2.2.2.1 Post K (.astore j, ci, k0, z) pc L st w nc ns) : WL X y mc ms Post n0 pc L st w nc ns := by
  dsimp only [sy1] at h
  split at h
  · rename_i x t
    have k := hK _ _ _ _ _ _ h
    intro p l e s m args below meth c D cA A ρ0 ρ H locs ls G hn hP hD hS hl
    obtain ⟨hx, hb, hr, hml, hown, hts, hlk, hnm, hKK, hN, hA⟩ := id G.1
    exact lv_astore hx hb hd hl (Nat.le_of_ble_eq_true hc) rfl (fun ls hl => k p l e s m args below meth c D cA A ρ0 ρ H locs ls G hn hP hD hS (sL1_hasX hi hl))
  · exact h.elim

theorem so_astore_nX {X : SX} {y : MY} {mc ms n0 : Nat} {Post : MP} {K : MK} {pc : Nat} {L : ML} {st : List Value} {w : MW} {nc ns ci k0 : Nat} {z : Int} {j : Fin 4} (hK : ∀ pc L st w nc ns, K pc L st w nc ns → WL X y mc ms Post n0 pc L st w nc ns) (hi : j.val ≠ 0) (hd : decode y.2.1 pc = .ok (.astore_n j, lenB (.astore_n j, ci, k0, z))) (hc : chkB y pc (.astore_n j, ci, k0, z) = true) (ho : mcn y.2.2.2.2.2.2 = y.1.cls) (h : sy1 mc ms n0 y.2.2.2.1 Post K (.astore_n j, ci, k0, z) pc L st w nc ns) : WL X y mc ms Post n0 pc L st w nc ns := by
  dsimp only [sy1] at h
  split at h
  · rename_i x t
    have k := hK _ _ _ _ _ _ h
    intro p l e s m args below meth c D cA A ρ0 ρ H locs ls G hn hP hD hS hl
    obtain ⟨hx, hb, hr, hml, hown, hts, hlk, hnm, hKK, hN, hA⟩ := id G.1
    exact lv_astore_n hx hb hd rfl hl (Nat.le_of_ble_eq_true hc) rfl (fun ls hl => k p l e s m args below meth c D cA A ρ0 ρ H locs ls G hn hP hD hS (sL1_hasX hi hl))
  · exact h.elim

theorem so_iincX {X : SX} {y : MY} {mc ms n0 : Nat} {Post : MP} {K : MK} {pc : Nat} {L : ML} {st : List Value} {w : MW} {nc ns ci k0 : Nat} {z : Int} {j : Nat} {n : Int} (hK : ∀ pc L st w nc ns, K pc L st w nc ns → WL X y mc ms Post n0 pc L st w nc ns) (hi : j ≠ 0) (hd : decode y.2.1 pc = .ok (.iinc j n, lenB (.iinc j n, ci, k0, z))) (hc : chkB y pc (.iinc j n, ci, k0, z) = true) (ho : mcn y.2.2.2.2.2.2 = y.1.cls) (h : sy1 mc ms n0 y.2.2.2.1 Post K (.iinc j n, ci, k0, z) pc L st w nc ns) : WL X y mc ms Post n0 pc L st w nc ns := by
  dsimp only [sy1] at h
  split at h
  · rename_i x hg
    have k := hK _ _ _ _ _ _ h
    simp only [chkB, Bool.and_eq_true, decide_eq_true_eq] at hc
    intro p l e s m args below meth c D cA A ρ0 ρ H locs ls G hn hP hD hS hl
    obtain ⟨hx, hb, hr, hml, hown, hts, hlk, hnm, hKK, hN, hA⟩ := id G.1
    obtain ⟨k1, hk1⟩ := List.getElem?_of_mem (List.mem_append_left _ (List.mem_map.mpr ⟨(j, Value.int x), gL_mem hg, rfl⟩) : (j, mvV ρ (.int x)) ∈ mvL ρ L ++ [(0, Value.ref X.1)])
    exact lv_iinc hx hb hd hl hk1 (by rw [hc.1]) (Nat.le_of_ble_eq_true hc.2) rfl (fun ls hl => k p l e s m args below meth c D cA A ρ0 ρ H locs ls G hn hP hD hS (sL1_hasX hi hl))
  · exact h.elim

theorem so_iaddX {X : SX} {y : MY} {mc ms n0 : Nat} {Post : MP} {K : MK} {pc : Nat} {L : ML} {st : List Value} {w : MW} {nc ns ci k0 : Nat} {z : Int} (hK : ∀ pc L st w nc ns, K pc L st w nc ns → WL X y mc ms Post n0 pc L st w nc ns) (hd : decode y.2.1 pc = .ok (.iadd, lenB (.iadd, ci, k0, z))) (hc : chkB y pc (.iadd, ci, k0, z) = true) (ho : mcn y.2.2.2.2.2.2 = y.1.cls) (h : sy1 mc ms n0 y.2.2.2.1 Post K (.iadd, ci, k0, z) pc L st w nc ns) : WL X y mc ms Post n0 pc L st w nc ns := by
  dsimp only [sy1] at h
  split at h
  · rename_i b a t
    have k := hK _ _ _ _ _ _ h
    intro p l e s m args below meth c D cA A ρ0 ρ H locs ls G hn hP hD hS hl
    obtain ⟨hx, hb, hr, hml, hown, hts, hlk, hnm, hKK, hN, hA⟩ := id G.1
    exact lv_iadd hx hb hd (k p l e s m args below meth c D cA A ρ0 ρ H locs ls G hn hP hD hS hl)
  · exact h.elim

theorem so_isubX {X : SX} {y : MY} {mc ms n0 : Nat} {Post : MP} {K : MK} {pc : Nat} {L : ML} {st : List Value} {w : MW} {nc ns ci k0 : Nat} {z : Int} (hK : ∀ pc L st w nc ns, K pc L st w nc ns → WL X y mc ms Post n0 pc L st w nc ns) (hd : decode y.2.1 pc = .ok (.isub, lenB (.isub, ci, k0, z))) (hc : chkB y pc (.isub, ci, k0, z) = true) (ho : mcn y.2.2.2.2.2.2 = y.1.cls) (h : sy1 mc ms n0 y.2.2.2.1 Post K (.isub, ci, k0, z) pc L st w nc ns) : WL X y mc ms Post n0 pc L st w nc ns := by
  dsimp only [sy1] at h
  split at h
  · rename_i b a t
    have k := hK _ _ _ _ _ _ h
    intro p l e s m args below meth c D cA A ρ0 ρ H locs ls G hn hP hD hS hl
    obtain ⟨hx, hb, hr, hml, hown, hts, hlk, hnm, hKK, hN, hA⟩ := id G.1
    exact lv_isub hx hb hd (k p l e s m args below meth c D cA A ρ0 ρ H locs ls G hn hP hD hS hl)
  · exact h.elim

theorem so_iandX {X : SX} {y : MY} {mc ms n0 : Nat} {Post : MP} {K : MK} {pc : Nat} {L : ML} {st : List Value} {w : MW} {nc ns ci k0 : Nat} {z : Int} (hK : ∀ pc L st w nc ns, K pc L st w nc ns → WL X y mc ms Post n0 pc L st w nc ns) (hd : decode y.2.1 pc = .ok (.iand, lenB (.iand, ci, k0, z))) (hc : chkB y pc (.iand, ci, k0, z) = true) (ho : mcn y.2.2.2.2.2.2 = y.1.cls) (h : sy1 mc ms n0 y.2.2.2.1 Post K (.iand, ci, k0, z) pc L st w nc ns) : WL X y mc ms Post n0 pc L st w nc ns := by
  dsimp only [sy1] at h
  split at h
  · rename_i b a t
    have k := hK _ _ _ _ _ _ h
    intro p l e s m args below meth c D cA A ρ0 ρ H locs ls G hn hP hD hS hl
    obtain ⟨hx, hb, hr, hml, hown, hts, hlk, hnm, hKK, hN, hA⟩ := id G.1
    exact lv_iand hx hb hd (k p l e s m args below meth c D cA A ρ0 ρ H locs ls G hn hP hD hS hl)
  · exact h.elim

theorem so_i2lX {X : SX} {y : MY} {mc ms n0 : Nat} {Post : MP} {K : MK} {pc : Nat} {L : ML} {st : List Value} {w : MW} {nc ns ci k0 : Nat} {z : Int} (hK : ∀ pc L st w nc ns, K pc L st w nc ns → WL X y mc ms Post n0 pc L st w nc ns) (hd : decode y.2.1 pc = .ok (.i2l, lenB (.i2l, ci, k0, z))) (hc : chkB y pc (.i2l, ci, k0, z) = true) (ho : mcn y.2.2.2.2.2.2 = y.1.cls) (h : sy1 mc ms n0 y.2.2.2.1 Post K (.i2l, ci, k0, z) pc L st w nc ns) : WL X y mc ms Post n0 pc L st w nc ns := by
  dsimp only [sy1] at h
  split at h
  · rename_i a t
    have k := hK _ _ _ _ _ _ h
    intro p l e s m args below meth c D cA A ρ0 ρ H locs ls G hn hP hD hS hl
    obtain ⟨hx, hb, hr, hml, hown, hts, hlk, hnm, hKK, hN, hA⟩ := id G.1
    exact lv_i2l hx hb hd rfl (k p l e s m args below meth c D cA A ρ0 ρ H locs ls G hn hP hD hS hl)
  · exact h.elim

theorem so_lshlX {X : SX} {y : MY} {mc ms n0 : Nat} {Post : MP} {K : MK} {pc : Nat} {L : ML} {st : List Value} {w : MW} {nc ns ci k0 : Nat} {z : Int} (hK : ∀ pc L st w nc ns, K pc L st w nc ns → WL X y mc ms Post n0 pc L st w nc ns) (hd : decode y.2.1 pc = .ok (.lshl, lenB (.lshl, ci, k0, z))) (hc : chkB y pc (.lshl, ci, k0, z) = true) (ho : mcn y.2.2.2.2.2.2 = y.1.cls) (h : sy1 mc ms n0 y.2.2.2.1 Post K (.lshl, ci, k0, z) pc L st w nc ns) : WL X y mc ms Post n0 pc L st w nc ns := by
  dsimp only [sy1] at h
  split at h
  · rename_i b a t
    have k := hK _ _ _ _ _ _ h
    intro p l e s m args below meth c D cA A ρ0 ρ H locs ls G hn hP hD hS hl
    obtain ⟨hx, hb, hr, hml, hown, hts, hlk, hnm, hKK, hN, hA⟩ := id G.1
    exact lv_lshl hx hb hd rfl (k p l e s m args below meth c D cA A ρ0 ρ H locs ls G hn hP hD hS hl)
  · exact h.elim

theorem so_landX {X : SX} {y : MY} {mc ms n0 : Nat} {Post : MP} {K : MK} {pc : Nat} {L : ML} {st : List Value} {w : MW} {nc ns ci k0 : Nat} {z : Int} (hK : ∀ pc L st w nc ns, K pc L st w nc ns → WL X y mc ms Post n0 pc L st w nc ns) (hd : decode y.2.1 pc = .ok (.land, lenB (.land, ci, k0, z))) (hc : chkB y pc (.land, ci, k0, z) = true) (ho : mcn y.2.2.2.2.2.2 = y.1.cls) (h : sy1 mc ms n0 y.2.2.2.1 Post K (.land, ci, k0, z) pc L st w nc ns) : WL X y mc ms Post n0 pc L st w nc ns := by
  dsimp only [sy1] at h
  split at h
  · rename_i b a t
    have k := hK _ _ _ _ _ _ h
    intro p l e s m args below meth c D cA A ρ0 ρ H locs ls G hn hP hD hS hl
    obtain ⟨hx, hb, hr, hml, hown, hts, hlk, hnm, hKK, hN, hA⟩ := id G.1
    exact lv_land hx hb hd (k p l e s m args below meth c D cA A ρ0 ρ H locs ls G hn hP hD hS hl)
  · exact h.elim

theorem so_lorX {X : SX} {y : MY} {mc ms n0 : Nat} {Post : MP} {K : MK} {pc : Nat} {L : ML} {st : List Value} {w : MW} {nc ns ci k0 : Nat} {z : Int} (hK : ∀ pc L st w nc ns, K pc L st w nc ns → WL X y mc ms Post n0 pc L st w nc ns) (hd : decode y.2.1 pc = .ok (.lor, lenB (.lor, ci, k0, z))) (hc : chkB y pc (.lor, ci, k0, z) = true) (ho : mcn y.2.2.2.2.2.2 = y.1.cls) (h : sy1 mc ms n0 y.2.2.2.1 Post K (.lor, ci, k0, z) pc L st w nc ns) : WL X y mc ms Post n0 pc L st w nc ns := by
  dsimp only [sy1] at h
  split at h
  · rename_i b a t
    have k := hK _ _ _ _ _ _ h
    intro p l e s m args below meth c D cA A ρ0 ρ H locs ls G hn hP hD hS hl
    obtain ⟨hx, hb, hr, hml, hown, hts, hlk, hnm, hKK, hN, hA⟩ := id G.1
    exact lv_lor hx hb hd (k p l e s m args below meth c D cA A ρ0 ρ H locs ls G hn hP hD hS hl)
  · exact h.elim

theorem so_ldc2_wX {X : SX} {y : MY} {mc ms n0 : Nat} {Post : MP} {K : MK} {pc : Nat} {L : ML} {st : List Value} {w : MW} {nc ns ci k0 : Nat} {z : Int} {i : Nat} (hK : ∀ pc L st w nc ns, K pc L st w nc ns → WL X y mc ms Post n0 pc L st w nc ns) (hd : decode y.2.1 pc = .ok (.ldc2_w i, lenB (.ldc2_w i, ci, k0, z))) (hc : chkB y pc (.ldc2_w i, ci, k0, z) = true) (ho : mcn y.2.2.2.2.2.2 = y.1.cls) (h : sy1 mc ms n0 y.2.2.2.1 Post K (.ldc2_w i, ci, k0, z) pc L st w nc ns) : WL X y mc ms Post n0 pc L st w nc ns := by
  dsimp only [sy1] at h
  have k := hK _ _ _ _ _ _ h
  simp only [chkB, Bool.and_eq_true, decide_eq_true_eq, List.any_eq_true] at hc
  obtain ⟨hz, ⟨a1, a2, a3, a4⟩, hq, h1⟩ := hc
  have h2 := mLC_ok _ hq
  dsimp only at h1 h2
  obtain ⟨⟨rfl, rfl⟩, rfl⟩ := h1
  intro p l e s m args below meth c D cA A ρ0 ρ H locs ls G hn hP hD hS hl
  obtain ⟨hx, hb, hr, hml, hown, hts, hlk, hnm, hKK, hN, hA⟩ := id G.1
  exact lv_ldc2 hx hb hown (hts _ (lwg_in (List.mem_of_getElem? (by rw [h2, ho, hz])) (by rfl))) hd (k p l e s m args below meth c D cA A ρ0 ρ H locs ls G hn hP hD hS hl)

theorem so_lcmpX {X : SX} {y : MY} {mc ms n0 : Nat} {Post : MP} {K : MK} {pc : Nat} {L : ML} {st : List Value} {w : MW} {nc ns ci k0 : Nat} {z : Int} (hK : ∀ pc L st w nc ns, K pc L st w nc ns → WL X y mc ms Post n0 pc L st w nc ns) (hd : decode y.2.1 pc = .ok (.lcmp, lenB (.lcmp, ci, k0, z))) (hc : chkB y pc (.lcmp, ci, k0, z) = true) (ho : mcn y.2.2.2.2.2.2 = y.1.cls) (h : sy1 mc ms n0 y.2.2.2.1 Post K (.lcmp, ci, k0, z) pc L st w nc ns) : WL X y mc ms Post n0 pc L st w nc ns := by
  dsimp only [sy1] at h
  split at h
  · rename_i b a t
    have k := hK _ _ _ _ _ _ h
    intro p l e s m args below meth c D cA A ρ0 ρ H locs ls G hn hP hD hS hl
    obtain ⟨hx, hb, hr, hml, hown, hts, hlk, hnm, hKK, hN, hA⟩ := id G.1
    exact W.lcmp hx hb hd (k p l e s m args below meth c D cA A ρ0 ρ H locs ls G hn hP hD hS hl)
  · exact h.elim

theorem so_dupX {X : SX} {y : MY} {mc ms n0 : Nat} {Post : MP} {K : MK} {pc : Nat} {L : ML} {st : List Value} {w : MW} {nc ns ci k0 : Nat} {z : Int} (hK : ∀ pc L st w nc ns, K pc L st w nc ns → WL X y mc ms Post n0 pc L st w nc ns) (hd : decode y.2.1 pc = .ok (.dup, lenB (.dup, ci, k0, z))) (hc : chkB y pc (.dup, ci, k0, z) = true) (ho : mcn y.2.2.2.2.2.2 = y.1.cls) (h : sy1 mc ms n0 y.2.2.2.1 Post K (.dup, ci, k0, z) pc L st w nc ns) : WL X y mc ms Post n0 pc L st w nc ns := by
  dsimp only [sy1] at h
  split at h
  · rename_i v t
    split at h
    · rename_i e1
      have k := hK _ _ _ _ _ _ h
      intro p l e s m args below meth c D cA A ρ0 ρ H locs ls G hn hP hD hS hl
      obtain ⟨hx, hb, hr, hml, hown, hts, hlk, hnm, hKK, hN, hA⟩ := id G.1
      exact lv_dup hx hb hd (by rw [mvV_cat]; exact Nat.eq_of_beq_eq_true e1) (k p l e s m args below meth c D cA A ρ0 ρ H locs ls G hn hP hD hS hl)
    · exact h.elim
  · exact h.elim

theorem so_popX {X : SX} {y : MY} {mc ms n0 : Nat} {Post : MP} {K : MK} {pc : Nat} {L : ML} {st : List Value} {w : MW} {nc ns ci k0 : Nat} {z : Int} (hK : ∀ pc L st w nc ns, K pc L st w nc ns → WL X y mc ms Post n0 pc L st w nc ns) (hd : decode y.2.1 pc = .ok (.pop, lenB (.pop, ci, k0, z))) (hc : chkB y pc (.pop, ci, k0, z) = true) (ho : mcn y.2.2.2.2.2.2 = y.1.cls) (h : sy1 mc ms n0 y.2.2.2.1 Post K (.pop, ci, k0, z) pc L st w nc ns) : WL X y mc ms Post n0 pc L st w nc ns := by
  dsimp only [sy1] at h
  split at h
  · rename_i v t
    split at h
    · rename_i e1
      have k := hK _ _ _ _ _ _ h
      intro p l e s m args below meth c D cA A ρ0 ρ H locs ls G hn hP hD hS hl
      obtain ⟨hx, hb, hr, hml, hown, hts, hlk, hnm, hKK, hN, hA⟩ := id G.1
      exact lv_pop hx hb hd (by rw [mvV_cat]; exact Nat.eq_of_beq_eq_true e1) (k p l e s m args below meth c D cA A ρ0 ρ H locs ls G hn hP hD hS hl)
    · exact h.elim
  · exact h.elim

theorem so_ifCondX {X : SX} {y : MY} {mc ms n0 : Nat} {Post : MP} {K : MK} {pc : Nat} {L : ML} {st : List Value} {w : MW} {nc ns ci k0 : Nat} {z : Int} {c : Jvm.ClassFile.Cond} {off : Int} (hK : ∀ pc L st w nc ns, K pc L st w nc ns → WL X y mc ms Post n0 pc L st w nc ns) (hd : decode y.2.1 pc = .ok (.ifCond c off, lenB (.ifCond c off, ci, k0, z))) (hc : chkB y pc (.ifCond c off, ci, k0, z) = true) (ho : mcn y.2.2.2.2.2.2 = y.1.cls) (h : sy1 mc ms n0 y.2.2.2.1 Post K (.ifCond c off, ci, k0, z) pc L st w nc ns) : WL X y mc ms Post n0 pc L st w nc ns := by
  dsimp only [sy1] at h
  split at h
  · rename_i x t
    cases c <;> dsimp only at h
    · intro p l e s m args below meth c D cA A ρ0 ρ H locs ls G hn hP hD hS hl
      exact lv_if_eq (tgt := tg pc off) G.1.1 G.1.2.1 hd (Int.toNat_of_nonneg (of_decide_eq_true hc)).symm (fun q => hK _ _ _ _ _ _ (h.1 q) p l e s m args below meth c D cA A ρ0 ρ H locs ls G hn hP hD hS hl) (fun q => hK _ _ _ _ _ _ (h.2 q) p l e s m args below meth c D cA A ρ0 ρ H locs ls G hn hP hD hS hl)
    · intro p l e s m args below meth c D cA A ρ0 ρ H locs ls G hn hP hD hS hl
      exact lv_if_ne (tgt := tg pc off) G.1.1 G.1.2.1 hd (Int.toNat_of_nonneg (of_decide_eq_true hc)).symm (fun q => hK _ _ _ _ _ _ (h.1 q) p l e s m args below meth c D cA A ρ0 ρ H locs ls G hn hP hD hS hl) (fun q => hK _ _ _ _ _ _ (h.2 q) p l e s m args below meth c D cA A ρ0 ρ H locs ls G hn hP hD hS hl)
    · intro p l e s m args below meth c D cA A ρ0 ρ H locs ls G hn hP hD hS hl
      exact lv_if_lt (tgt := tg pc off) G.1.1 G.1.2.1 hd (Int.toNat_of_nonneg (of_decide_eq_true hc)).symm (fun q => hK _ _ _ _ _ _ (h.1 q) p l e s m args below meth c D cA A ρ0 ρ H locs ls G hn hP hD hS hl) (fun q => hK _ _ _ _ _ _ (h.2 q) p l e s m args below meth c D cA A ρ0 ρ H locs ls G hn hP hD hS hl)
    · intro p l e s m args below meth c D cA A ρ0 ρ H locs ls G hn hP hD hS hl
      exact lv_if_ge (tgt := tg pc off) G.1.1 G.1.2.1 hd (Int.toNat_of_nonneg (of_decide_eq_true hc)).symm (fun q => hK _ _ _ _ _ _ (h.1 q) p l e s m args below meth c D cA A ρ0 ρ H locs ls G hn hP hD hS hl) (fun q => hK _ _ _ _ _ _ (h.2 q) p l e s m args below meth c D cA A ρ0 ρ H locs ls G hn hP hD hS hl)
    · intro p l e s m args below meth c D cA A ρ0 ρ H locs ls G hn hP hD hS hl
      exact lv_if_gt (tgt := tg pc off) G.1.1 G.1.2.1 hd (Int.toNat_of_nonneg (of_decide_eq_true hc)).symm (fun q => hK _ _ _ _ _ _ (h.1 q) p l e s m args below meth c D cA A ρ0 ρ H locs ls G hn hP hD hS hl) (fun q => hK _ _ _ _ _ _ (h.2 q) p l e s m args below meth c D cA A ρ0 ρ H locs ls G hn hP hD hS hl)
    · intro p l e s m args below meth c D cA A ρ0 ρ H locs ls G hn hP hD hS hl
      exact lv_if_le (tgt := tg pc off) G.1.1 G.1.2.1 hd (Int.toNat_of_nonneg (of_decide_eq_true hc)).symm (fun q => hK _ _ _ _ _ _ (h.1 q) p l e s m args below meth c D cA A ρ0 ρ H locs ls G hn hP hD hS hl) (fun q => hK _ _ _ _ _ _ (h.2 q) p l e s m args below meth c D cA A ρ0 ρ H locs ls G hn hP hD hS hl)
  · exact h.elim

theorem so_if_icmpX {X : SX} {y : MY} {mc ms n0 : Nat} {Post : MP} {K : MK} {pc : Nat} {L : ML} {st : List Value} {w : MW} {nc ns ci k0 : Nat} {z : Int} {c : Jvm.ClassFile.Cond} {off : Int} (hK : ∀ pc L st w nc ns, K pc L st w nc ns → WL X y mc ms Post n0 pc L st w nc ns) (hd : decode y.2.1 pc = .ok (.if_icmp c off, lenB (.if_icmp c off, ci, k0, z))) (hc : chkB y pc (.if_icmp c off, ci, k0, z) = true) (ho : mcn y.2.2.2.2.2.2 = y.1.cls) (h : sy1 mc ms n0 y.2.2.2.1 Post K (.if_icmp c off, ci, k0, z) pc L st w nc ns) : WL X y mc ms Post n0 pc L st w nc ns := by
  dsimp only [sy1] at h
  split at h
  · rename_i y' x t
    cases c <;> dsimp only at h
    · intro p l e s m args below meth c D cA A ρ0 ρ H locs ls G hn hP hD hS hl
      exact lv_icmp_eq (tgt := tg pc off) G.1.1 G.1.2.1 hd (Int.toNat_of_nonneg (of_decide_eq_true hc)).symm (fun q => hK _ _ _ _ _ _ (h.1 q) p l e s m args below meth c D cA A ρ0 ρ H locs ls G hn hP hD hS hl) (fun q => hK _ _ _ _ _ _ (h.2 q) p l e s m args below meth c D cA A ρ0 ρ H locs ls G hn hP hD hS hl)
    · intro p l e s m args below meth c D cA A ρ0 ρ H locs ls G hn hP hD hS hl
      exact lv_icmp_ne (tgt := tg pc off) G.1.1 G.1.2.1 hd (Int.toNat_of_nonneg (of_decide_eq_true hc)).symm (fun q => hK _ _ _ _ _ _ (h.1 q) p l e s m args below meth c D cA A ρ0 ρ H locs ls G hn hP hD hS hl) (fun q => hK _ _ _ _ _ _ (h.2 q) p l e s m args below meth c D cA A ρ0 ρ H locs ls G hn hP hD hS hl)
    · intro p l e s m args below meth c D cA A ρ0 ρ H locs ls G hn hP hD hS hl
      exact lv_icmp_lt (tgt := tg pc off) G.1.1 G.1.2.1 hd (Int.toNat_of_nonneg (of_decide_eq_true hc)).symm (fun q => hK _ _ _ _ _ _ (h.1 q) p l e s m args below meth c D cA A ρ0 ρ H locs ls G hn hP hD hS hl) (fun q => hK _ _ _ _ _ _ (h.2 q) p l e s m args below meth c D cA A ρ0 ρ H locs ls G hn hP hD hS hl)
    · intro p l e s m args below meth c D cA A ρ0 ρ H locs ls G hn hP hD hS hl
      exact lv_icmp_ge (tgt := tg pc off) G.1.1 G.1.2.1 hd (Int.toNat_of_nonneg (of_decide_eq_true hc)).symm (fun q => hK _ _ _ _ _ _ (h.1 q) p l e s m args below meth c D cA A ρ0 ρ H locs ls G hn hP hD hS hl) (fun q => hK _ _ _ _ _ _ (h.2 q) p l e s m args below meth c D cA A ρ0 ρ H locs ls G hn hP hD hS hl)
    · intro p l e s m args below meth c D cA A ρ0 ρ H locs ls G hn hP hD hS hl
      exact lv_icmp_gt (tgt := tg pc off) G.1.1 G.1.2.1 hd (Int.toNat_of_nonneg (of_decide_eq_true hc)).symm (fun q => hK _ _ _ _ _ _ (h.1 q) p l e s m args below meth c D cA A ρ0 ρ H locs ls G hn hP hD hS hl) (fun q => hK _ _ _ _ _ _ (h.2 q) p l e s m args below meth c D cA A ρ0 ρ H locs ls G hn hP hD hS hl)
    · intro p l e s m args below meth c D cA A ρ0 ρ H locs ls G hn hP hD hS hl
      exact lv_icmp_le (tgt := tg pc off) G.1.1 G.1.2.1 hd (Int.toNat_of_nonneg (of_decide_eq_true hc)).symm (fun q => hK _ _ _ _ _ _ (h.1 q) p l e s m args below meth c D cA A ρ0 ρ H locs ls G hn hP hD hS hl) (fun q => hK _ _ _ _ _ _ (h.2 q) p l e s m args below meth c D cA A ρ0 ρ H locs ls G hn hP hD hS hl)
  · exact h.elim

theorem so_gotoX {X : SX} {y : MY} {mc ms n0 : Nat} {Post : MP} {K : MK} {pc : Nat} {L : ML} {st : List Value} {w : MW} {nc ns ci k0 : Nat} {z : Int} {off : Int} (hK : ∀ pc L st w nc ns, K pc L st w nc ns → WL X y mc ms Post n0 pc L st w nc ns) (hd : decode y.2.1 pc = .ok (.goto off, lenB (.goto off, ci, k0, z))) (hc : chkB y pc (.goto off, ci, k0, z) = true) (ho : mcn y.2.2.2.2.2.2 = y.1.cls) (h : sy1 mc ms n0 y.2.2.2.1 Post K (.goto off, ci, k0, z) pc L st w nc ns) : WL X y mc ms Post n0 pc L st w nc ns := by
  dsimp only [sy1] at h
  have k := hK _ _ _ _ _ _ h
  intro p l e s m args below meth c D cA A ρ0 ρ H locs ls G hn hP hD hS hl
  obtain ⟨hx, hb, hr, hml, hown, hts, hlk, hnm, hKK, hN, hA⟩ := id G.1
  exact lv_goto hx hb hd (Int.toNat_of_nonneg (of_decide_eq_true hc)).symm (k p l e s m args below meth c D cA A ρ0 ρ H locs ls G hn hP hD hS hl)

theorem so_newX {X : SX} {y : MY} {mc ms n0 : Nat} {Post : MP} {K : MK} {pc : Nat} {L : ML} {st : List Value} {w : MW} {nc ns ci k0 : Nat} {z : Int} {i : Nat} (hK : ∀ pc L st w nc ns, K pc L st w nc ns → WL X y mc ms Post n0 pc L st w nc ns) (hd : decode y.2.1 pc = .ok (.new i, lenB (.new i, ci, k0, z))) (hc : chkB y pc (.new i, ci, k0, z) = true) (ho : mcn y.2.2.2.2.2.2 = y.1.cls) (h : sy1 mc ms n0 y.2.2.2.1 Post K (.new i, ci, k0, z) pc L st w nc ns) : WL X y mc ms Post n0 pc L st w nc ns := by
  dsimp only [sy1] at h
  split at h
  · rename_i hw
    simp only [Bool.and_eq_true] at hw
    split at h
    · rename_i r hr
      have k := hK _ _ _ _ _ _ h.2
      exact so_newcX hd hc ho hr (Nat.le_of_ble_eq_true hw.1) hw.2 h.1 k
    · exact h.elim
  · exact h.elim

theorem so_ireturnX {X : SX} {y : MY} {mc ms n0 : Nat} {Post : MP} {K : MK} {pc : Nat} {L : ML} {st : List Value} {w : MW} {nc ns ci k0 : Nat} {z : Int} (hK : ∀ pc L st w nc ns, K pc L st w nc ns → WL X y mc ms Post n0 pc L st w nc ns) (hd : decode y.2.1 pc = .ok (.ireturn, lenB (.ireturn, ci, k0, z))) (hc : chkB y pc (.ireturn, ci, k0, z) = true) (ho : mcn y.2.2.2.2.2.2 = y.1.cls) (h : sy1 mc ms n0 y.2.2.2.1 Post K (.ireturn, ci, k0, z) pc L st w nc ns) : WL X y mc ms Post n0 pc L st w nc ns := by
  dsimp only [sy1] at h
  split at h
  · rename_i x
    split at h
    · rename_i hw
      split at h
      · rename_i hret
        intro p l e s m args below meth c D cA A ρ0 ρ H locs ls G hn hP hD hS hl
        obtain ⟨hx, hb, hr, hml, hown, hts, hlk, hnm, hKK, hN, hA⟩ := id G.1
        refine W.widen (k := mc) (n := ms) h.1.1 h.1.2 ?_
        exact W.iret hx hb (by rw [hr, hret]) (fun t ht hW => ⟨⟨_, w, ρ, rfl, h.2, Nat.le_of_ble_eq_true hw, hn, by rw [ht]; exact hP, hD⟩, hS.F ht⟩) hS.2.2 hd hlk
      · rename_i hret
        intro p l e s m args below meth c D cA A ρ0 ρ H locs ls G hn hP hD hS hl
        obtain ⟨hx, hb, hr, hml, hown, hts, hlk, hnm, hKK, hN, hA⟩ := id G.1
        refine W.widen (k := mc) (n := ms) h.2.1.1 h.2.1.2 ?_
        exact W.zret hx hb (by rw [hr, hret]) h.1 (fun t ht hW => ⟨⟨_, w, ρ, rfl, h.2.2, Nat.le_of_ble_eq_true hw, hn, by rw [ht]; exact hP, hD⟩, hS.F ht⟩) hS.2.2 hd hlk
      · exact h.elim
    · exact h.elim
  · exact h.elim

theorem so_tableswitchX {X : SX} {y : MY} {mc ms n0 : Nat} {Post : MP} {K : MK} {pc : Nat} {L : ML} {st : List Value} {w : MW} {nc ns ci k0 : Nat} {z : Int} {d lo hi : Int} {offs : Array Int} (hK : ∀ pc L st w nc ns, K pc L st w nc ns → WL X y mc ms Post n0 pc L st w nc ns) (hd : decode y.2.1 pc = .ok (.tableswitch d lo hi offs, lenB (.tableswitch d lo hi offs, ci, k0, z))) (hc : chkB y pc (.tableswitch d lo hi offs, ci, k0, z) = true) (ho : mcn y.2.2.2.2.2.2 = y.1.cls) (h : sy1 mc ms n0 y.2.2.2.1 Post K (.tableswitch d lo hi offs, ci, k0, z) pc L st w nc ns) : WL X y mc ms Post n0 pc L st w nc ns := by
  dsimp only [sy1] at h
  split at h
  · rename_i x t
    exact so_tswX hd hc (fun q hq => hK _ _ _ _ _ _ hq) h
  · exact h.elim

def okI (b : MB) : Bool := match b.1 with
  | .istore j => decide (j ≠ 0)
  | .astore j => decide (j ≠ 0)
  | .istore_n j => decide (j.val ≠ 0)
  | .astore_n j => decide (j.val ≠ 0)
  | .iinc j _ => decide (j ≠ 0)
  | .iconst _ => true
  | .bipush _ => true
  | .sipush _ => true
  | .iload _ => true
  | .iload_n _ => true
  | .aload _ => true
  | .aload_n _ => true
  | .iadd => true
  | .isub => true
  | .iand => true
  | .i2l => true
  | .lshl => true
  | .land => true
  | .lor => true
  | .ldc2_w _ => true
  | .lcmp => true
  | .dup => true
  | .pop => true
  | .ifCond _ _ => true
  | .if_icmp _ _ => true
  | .goto _ => true
  | .new _ => true
  | .ireturn => true
  | .tableswitch _ _ _ _ => true
  | _ => false

theorem sy1_okX {X : SX} {y : MY} {mc ms n0 : Nat} {Post : MP} {K : MK} {pc : Nat} {L : ML} {st : List Value} {w : MW} {nc ns : Nat} (b : MB) (hK : ∀ pc L st w nc ns, K pc L st w nc ns → WL X y mc ms Post n0 pc L st w nc ns) (hok : okI b = true) (hd : decode y.2.1 pc = .ok (b.1, lenB b)) (hc : chkB y pc b = true) (ho : mcn y.2.2.2.2.2.2 = y.1.cls) (h : sy1 mc ms n0 y.2.2.2.1 Post K b pc L st w nc ns) : WL X y mc ms Post n0 pc L st w nc ns := by
  obtain ⟨i, ci, k0, z⟩ := b
  cases i
  all_goals try exact Bool.noConfusion hok
  case iconst => exact so_iconstX hK hd hc ho h
  case bipush => exact so_bipushX hK hd hc ho h
  case sipush => exact so_sipushX hK hd hc ho h
  case iload => exact so_iloadX hK hd hc ho h
  case iload_n => exact so_iload_nX hK hd hc ho h
  case aload => exact so_aloadX hK hd hc ho h
  case aload_n => exact so_aload_nX hK hd hc ho h
  case istore => exact so_istoreX hK (of_decide_eq_true hok) hd hc ho h
  case istore_n => exact so_istore_nX hK (of_decide_eq_true hok) hd hc ho h
  case astore => exact so_astoreX hK (of_decide_eq_true hok) hd hc ho h
  case astore_n => exact so_astore_nX hK (of_decide_eq_true hok) hd hc ho h
  case iinc => exact so_iincX hK (of_decide_eq_true hok) hd hc ho h
  case iadd => exact so_iaddX hK hd hc ho h
  case isub => exact so_isubX hK hd hc ho h
  case iand => exact so_iandX hK hd hc ho h
  case land => exact so_landX hK hd hc ho h
  case lor => exact so_lorX hK hd hc ho h
  case lshl => exact so_lshlX hK hd hc ho h
  case lcmp => exact so_lcmpX hK hd hc ho h
  case i2l => exact so_i2lX hK hd hc ho h
  case dup => exact so_dupX hK hd hc ho h
  case pop => exact so_popX hK hd hc ho h
  case ldc2_w => exact so_ldc2_wX hK hd hc ho h
  case ifCond => exact so_ifCondX hK hd hc ho h
  case if_icmp => exact so_if_icmpX hK hd hc ho h
  case goto => exact so_gotoX hK hd hc ho h
  case new => exact so_newX hK hd hc ho h
  case ireturn => exact so_ireturnX hK hd hc ho h
  case tableswitch => exact so_tableswitchX hK hd hc ho h

theorem sq_okX {X : SX} {y : MY} {mc ms n0 : Nat} {Post : MP} (ho : mcn y.2.2.2.2.2.2 = y.1.cls) : ∀ (bs : List MB) (pc : Nat) (L : ML) (st : List Value) (w : MW) (nc ns : Nat), bs.all okI = true → stB y pc bs = true →
    sq mc ms n0 y.2.2.2.1 Post (WL X y mc ms Post n0) bs pc L st w nc ns → WL X y mc ms Post n0 pc L st w nc ns
  | [], pc, L, st, w, nc, ns, _, _, h => h
  | [b], pc, L, st, w, nc, ns, ha, hs, h => by
    simp only [stB, Bool.and_eq_true, decide_eq_true_eq] at hs
    exact sy1_okX b (fun _ _ _ _ _ _ q => q) (by simpa using ha) hs.1.1 hs.1.2 ho h
  | b :: b2 :: r, pc, L, st, w, nc, ns, ha, hs, h => by
    unfold stB at hs
    simp only [Bool.and_eq_true, decide_eq_true_eq] at hs
    have h : sy1 mc ms n0 y.2.2.2.1 Post (fun pc' L st w nc ns => match Nat.beq pc' (pc + lenB b) with
      | true => sq mc ms n0 y.2.2.2.1 Post (WL X y mc ms Post n0) (b2 :: r) pc' L st w nc ns
      | false => False) b pc L st w nc ns := h
    rw [List.all_cons, Bool.and_eq_true] at ha
    refine sy1_okX b (fun pc' L st w nc ns q => ?_) ha.1 hs.1.1 hs.1.2 ho h
    cases hp : Nat.beq pc' (pc + lenB b) with
    | false => simp only [hp] at q
    | true =>
      simp only [hp] at q
      have e := Nat.eq_of_beq_eq_true hp
      subst e
      exact sq_okX ho (b2 :: r) _ L st w nc ns ha.2 hs.2 q

theorem so_callX {X : SX} {y y' : MY} {mc ms n0 : Nat} {Post Post' : MP} {pc mc' ms' nc ns : Nat} {L : ML} {rest av st : List Value} {w wl : MW} {σ : List Nat}
    (hrun : ∀ (p : Program) (l : Launch) (e : Env) (s : State) (m : MethodId) (args : Array Value) (below : List Frame) (meth : Method) (c : Code) (D : va_G) (cA : Nat → ClassId) (A : Nat → Prop) (ρ : Nat → Nat) (H : Heap) (locs : List Loc) (ls : Array Slot), mG y p s m args meth c D cA A → ls.size = y.2.2.1 → va_P D mcl (mvW cA (fun i => ρ (sg σ w.length i)) wl) H → va_D A (mvW cA (fun i => ρ (sg σ w.length i)) wl) →
      va_Run p l e (rmY y mc ms) s m args below meth c H locs nc ns mc' ms' (F0 m pc ls (st.map (mvV ρ))) (rest.map (mvV ρ)) (mvQ D cA (va_A (mvW cA (fun i => ρ (sg σ w.length i)) wl) H.size) wl.length (fun i => ρ (sg σ w.length i)) Post' (av.map (mvV (fun i => ρ (sg σ w.length i)))).toArray) (va_A (mvW cA (fun i => ρ (sg σ w.length i)) wl) H.size))
    (hin : mIn σ w wl) (hnd : va_nd σ = true) (h0 : n0 ≤ w.length) (hwf : mwfA w L rest = true)
    (k : ∀ r wl', Post' r wl' → WL X y mc ms Post n0 (pc + 3) L ((r.map (mvV (sg σ w.length))).toList ++ rest) (mrg σ w wl') (nc + mc') (ns + ms')) : WL X y mc ms Post n0 pc L st w nc ns := by
  obtain ⟨hlen, hw⟩ := mIn_spec hin
  obtain ⟨f1, f2, f3⟩ := mwfA_spec hwf
  have hinj : ∀ i j, i < wl.length → j < wl.length → sg σ w.length i = sg σ w.length j → i = j := by
    intro i j hi hj hij
    have h1 : σ[i]? = some σ[i] := List.getElem?_eq_getElem (by omega)
    have h2 : σ[j]? = some σ[j] := List.getElem?_eq_getElem (by omega)
    simp only [sg, h1, h2] at hij
    exact va_nd_inj σ hnd i j σ[i] h1 (by rw [h2, hij])
  intro p l e s m args below meth c D cA A ρ0 ρ H locs ls G hn hP hD hS hl
  have hA := G.1.2.2.2.2.2.2.2.2.2.2
  have hPc := mv_sub hP hw
  have hDc := mv_subD hD hw hinj
  have hF : ∀ q, va_A (mvW cA (fun i => ρ (sg σ w.length i)) wl) H.size q → A q := by
    intro q hq
    rcases hq with ⟨j, e', hj⟩ | hq
    · exact hDc.2 j _ hj
    · exact hA q (Nat.le_trans hS.1 hq)
  refine mv_after (hrun p l e s m args below meth c D cA A ρ H locs ls G.1 hl.1 hPc hDc) hS hF (fun r w' ρ' H1 locs1 hp h1 h2 h3 h4 h5 h6 => ?_)
  obtain ⟨j1, j2⟩ := mv_join hP hD hw hlen h3 h4 h1 (fun i hi => h2 i hi) h5 hF f1
  have hc : ∀ j, j < w.length → (fun j => if j < w.length then ρ j else ρ' (wl.length + (j - w.length))) j = ρ j := fun j hj => if_pos hj
  have k1 := k r w' hp p l e s m args below meth c D cA A ρ0 (fun j => if j < w.length then ρ j else ρ' (wl.length + (j - w.length))) H1 locs1 ls G (fun i hi => (hc i (by omega)).trans (hn i hi)) j1 j2 h6 (by rw [mvL_congr hc (mwfL_all f2)]; exact hl)
  have ha : ∀ i, (fun j => if j < w.length then ρ j else ρ' (wl.length + (j - w.length))) (sg σ w.length i) = ρ' i := by
    intro i
    by_cases hi : i < σ.length
    · have h1' : σ[i]? = some σ[i] := List.getElem?_eq_getElem hi
      have h2' : sg σ w.length i = σ[i] := by simp [sg, h1']
      have h3' := hw i _ (List.getElem?_eq_getElem (by omega))
      rw [h2'] at h3'
      have h4' : σ[i] < w.length := (List.getElem?_eq_some_iff.mp h3').1
      rw [h2']
      simp only [if_pos h4']
      rw [h2 i (by omega), h2']
    · have h2' : sg σ w.length i = w.length + (i - σ.length) := by
        unfold sg
        rw [List.getElem?_eq_none (by omega)]
      rw [h2']
      simp only
      rw [if_neg (by omega)]
      congr 1
      omega
  have e5 : (((r.map (mvV (sg σ w.length))).toList ++ rest).map (mvV (fun j => if j < w.length then ρ j else ρ' (wl.length + (j - w.length))))) = (r.map (mvV ρ')).toList ++ rest.map (mvV ρ) := by
    rw [List.map_append, mapV_congr hc (mwfF_all f3)]
    congr 1
    cases r with
    | none => rfl
    | some v =>
      simp only [Option.map_some, Option.toList_some, List.map_cons, List.map_nil]
      rw [mvV_comp]
      congr 2
      funext i
      exact ha i
  rw [e5] at k1
  exact k1
