/-! THE LAW, 3: its beginning and its end -/
def mL_law : MY := (x, code, 4, ret, 10, 372, 18)
theorem law_arr {s : State} {args : Array Value} {ty : FieldType} (h : (Cond.arrayClass ty).before args s = true) : ∃ cA : ClassId, ArrOfT s cA ty ∧ s.vm.findClass ("[" ++ ty.toString) = some cA := by
  obtain ⟨cB, kB, comp, h1, h2, h3⟩ := Cond.arrayClass_spec h
  exact ⟨cB, fun n z => ⟨fun k h => (by cases h), kB, h2, comp, h3⟩, h1⟩
theorem law_K {s : State} {args : Array Value} (hts : ∀ w ∈ lw_tbl, w.before args s = true) : ∃ (D : va_G) (cA : Nat → ClassId), va_K D mcl (mvT cA) s ∧ mNs s := by
  have h1 : ∀ c : Nat, ∃ (cC : ClassId) (iS : Nat → Nat), ∀ q : vw_C, mcl[c]? = some q → u_Kn s q.1 q.2.1 q.2.2 cC iS := by
    intro c
    cases h : mcl[c]? with
    | none => exact ⟨0, fun _ => 0, fun q hq => by cases hq⟩
    | some q =>
      obtain ⟨m1, -, -, m4, -⟩ := mcl_ok c q h
      obtain ⟨cC, iS, hk⟩ := u_known hts m1 (hts _ m4)
      exact ⟨cC, iS, fun q' hq => by cases hq; exact hk⟩
  obtain ⟨a0, b0, c0⟩ := law_arr (hts (.arrayClass .int) (by decide +kernel))
  obtain ⟨a1, b1, c1⟩ := law_arr (hts (.arrayClass .long) (by decide +kernel))
  obtain ⟨a2, b2, c2⟩ := law_arr (hts (.arrayClass .byte) (by decide +kernel))
  obtain ⟨a3, b3, c3⟩ := law_arr (hts (.arrayClass .boolean) (by decide +kernel))
  refine ⟨(fun c => Classical.choose (h1 c), fun c => Classical.choose (Classical.choose_spec (h1 c))), fun k => match k with | 0 => a0 | 1 => a1 | 2 => a2 | _ => a3, ⟨fun c q hq => Classical.choose_spec (Classical.choose_spec (h1 c)) q hq, fun k q hq => ?_⟩, fun own idx y host hm => va_Nw.of rfl (hts _ hm)⟩
  match k, hq with
  | 0, hq => cases hq; exact ⟨b0, c0⟩
  | 1, hq => cases hq; exact ⟨b1, c1⟩
  | 2, hq => cases hq; exact ⟨b2, c2⟩
  | 3, hq => cases hq; exact ⟨b3, c3⟩
  | k + 4, hq => cases hq
theorem law_end {s t : State} {o : Outcome} {locs : List Loc} {mc ms : Nat} (hF : FrameEnd s o t locs mc ms) (h : ∀ q ∈ locs, s.heap.size ≤ q.base) : FrameEnd s o t [] mc ms := by
  obtain ⟨h1, h2, h3, h4, h5, h6, h7, h8⟩ := hF
  refine ⟨h1, h2, h3, h4, h5, h6, h7, fun a c hc => ?_⟩
  obtain ⟨c', k1, k2, k3, k4⟩ := h8 a c hc
  refine ⟨c', k1, k2, k3, fun i _ => k4 i (fun hm => ?_)⟩
  have h9 := h _ hm
  have h10 : a < s.heap.size := (Array.getElem?_eq_some_iff.mp hc).1
  exact absurd h10 (Nat.not_lt.mpr h9)
theorem law_W {p : Program} {l : Launch} {e : Env} {s : State} {m : MethodId} {below : List Frame} {meth : Method} {c : Code} {b L : Nat} {xs : Nat → Int32} (hx : p.tables.exec = Jvm.exec) (hb : c.code = code) (hr : meth.sig.returnType = ret) (hml : c.maxLocals = 4) (hown : s.vm.findClass "SynonymGraphsLaw" = some m.cls) (hts : ∀ w ∈ lw_tbl, w.before #[Value.ref b] s = true) (hX : va_X b L xs s s.heap) (hbl : b < s.heap.size) (hlk : meth.locks = false) (hnm : meth.name = x.name)
    (h : WL (b, L, xs) mL_law 600000 7302250 (fun r _ => r = some (vI 1)) 0 0 [] [] [] 0 0) : W p l e room_1 s m #[Value.ref b] below meth c s.heap [] 0 0 (fun t => ∃ o, t.status = .running ∧ Ended t below o ∧ o = .returned (some (.int 1)) ∧ FrameEnd s o t [] 600000 7302250) (entryFrame m ([Value.ref b] : List Value).toArray 4) := by
  obtain ⟨D, cA, hK, hN⟩ := law_K hts
  have hl := lv_entry [Value.ref b] (n := 4) (by show 1 ≤ 4; decide)
  rw [lg_entry_eq]
  intro T hT X
  obtain ⟨t, a, o, b1, b2, ⟨⟨r, w', ρ', q1, q2, q3⟩, q4⟩, Lo, b4, b5⟩ := h p l e s m #[Value.ref b] below meth c D cA (fun q => s.heap.size ≤ q) (fun _ => 0) (fun _ => 0) s.heap [] _ ⟨⟨hx, hb, hr, hml, hown, fun w hw => hts w (List.mem_filter.mp hw).1, hlk, hnm, hK, hN, fun q hq => hq⟩, hX, hbl, fun hq => absurd hbl (Nat.not_lt.mpr hq)⟩ (fun _ _ => rfl) (fun k q hq => by simp [mvW] at hq) ⟨fun i j p q hp => by simp [mvW] at hp, fun k q hq => by simp [mvW] at hq⟩ va_S.rf hl T hT X
  refine ⟨t, a, o, b1, b2, ?_, law_end b4 b5⟩
  rw [q1, q2]
  rfl
