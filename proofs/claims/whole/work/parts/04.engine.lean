def wsY (y : MY) : List Cond := mcode y :: lwg
def rmY (y : MY) (mc ms : Nat) : Room := { frames := y.2.2.2.2.1, cells := mc, slots := ms, locals := y.2.2.2.2.2.1 }
def mvV (ρ : Nat → Nat) : Value → Value
  | .ref i => .ref (ρ i)
  | v => v
def mvE (cA : Nat → ClassId) (ρ : Nat → Nat) : va_E → va_E
  | .inl a => .inl (cA a.1, a.2)
  | .inr o => .inr (o.1, o.2.map (mvV ρ))
def mvW (cA : Nat → ClassId) (ρ : Nat → Nat) (w : MW) : va_W := w.mapIdx (fun i e => (ρ i, mvE cA ρ e))
def mvL (ρ : Nat → Nat) (L : ML) : ML := L.map (fun q => (q.1, mvV ρ q.2))
def mvT (cA : Nat → ClassId) : List (ClassId × FieldType) := [(cA 0, .int), (cA 1, .long), (cA 2, .byte), (cA 3, .boolean)]
def mNs (U : State) : Prop := ∀ (own : String) (idx : Nat) (y : MethodName) (host : String), Cond.methodLinkNest own idx y host ∈ lw_tbl → va_Nw (.methodLinkNest own idx y host) U
theorem mNs.warm {s U : State} (hW : s.WarmedH U.vm) (h : mNs s) : mNs U := fun own idx y host hm => va_Nw.warmM hW (h own idx y host hm)
theorem mNs.same {s U : State} (e : s.vm = U.vm) (h : mNs s) : mNs U := fun own idx y host hm => va_Nw.same rfl e (h own idx y host hm)
/-- what stands fixed while a method runs -/
def mG (y : MY) (p : Program) (s : State) (m : MethodId) (args : Array Value) (meth : Method) (c : Code) (D : va_G) (cA : Nat → ClassId) (A : Nat → Prop) : Prop :=
  p.tables.exec = Jvm.exec ∧ c.code = y.2.1 ∧ meth.sig.returnType = y.2.2.2.1 ∧ c.maxLocals = y.2.2.1 ∧ s.vm.findClass y.1.cls = some m.cls ∧ (∀ w ∈ lwg, w.before args s = true) ∧ meth.locks = false ∧ meth.name = y.1.name ∧ va_K D mcl (mvT cA) s ∧ mNs s ∧ ∀ q : Nat, s.heap.size ≤ q → A q
def mvQ (D : va_G) (cA : Nat → ClassId) (A : Nat → Prop) (n0 : Nat) (ρ0 : Nat → Nat) (Post : MP) : Array Value → State → Outcome → State → Prop := fun _ st oc t =>
  (∃ (r : Option Value) (w : MW) (ρ : Nat → Nat), oc = .returned (r.map (mvV ρ)) ∧ Post r w ∧ n0 ≤ w.length ∧ (∀ i, i < n0 → ρ i = ρ0 i) ∧ va_P D mcl (mvW cA ρ w) t.heap ∧ va_D A (mvW cA ρ w)) ∧ va_F A st t
def WM (y : MY) (mc ms : Nat) (Post : MP) (n0 pc : Nat) (L : ML) (st : List Value) (w : MW) (nc ns : Nat) : Prop :=
  ∀ (p : Program) (l : Launch) (e : Env) (s : State) (m : MethodId) (args : Array Value) (below : List Frame) (meth : Method) (c : Code) (D : va_G) (cA : Nat → ClassId) (A : Nat → Prop) (ρ0 ρ : Nat → Nat) (H : Heap) (locs : List Loc) (ls : Array Slot),
    mG y p s m args meth c D cA A → (∀ i, i < n0 → ρ i = ρ0 i) → va_P D mcl (mvW cA ρ w) H → va_D A (mvW cA ρ w) → va_S A s.heap H locs → lv_has ls y.2.2.1 (mvL ρ L) →
    W p l e (rmY y mc ms) s m args below meth c H locs nc ns (MQ below (mvQ D cA A n0 ρ0 Post) args s mc ms A) (F0 m pc ls (st.map (mvV ρ)))
/-- a method's contract -/
def CT (y : MY) (mc ms : Nat) (av : List Value) (w : MW) (Post : MP) : Prop :=
  ∀ (l : Launch) (D : va_G) (cA : Nat → ClassId) (ρ : Nat → Nat) (sz : Nat), Met l y.1 (wsY y) (rmY y mc ms)
    (va_Pc (av.map (mvV ρ)) (fun U => U.heap.size = sz ∧ va_P D mcl (mvW cA ρ w) U.heap ∧ va_K D mcl (mvT cA) U ∧ mNs U ∧ va_D (fun _ => True) (mvW cA ρ w)))
    (mvQ D cA (va_A (mvW cA ρ w) sz) w.length ρ Post) mc ms (va_A (mvW cA ρ w) sz)
theorem mvV_cat (ρ : Nat → Nat) (v : Value) : (mvV ρ v).category = v.category := by cases v <;> rfl
theorem mvV_comp (ρ σ : Nat → Nat) (v : Value) : mvV ρ (mvV σ v) = mvV (fun i => ρ (σ i)) v := by cases v <;> rfl
theorem mvL_args (ρ : Nat → Nat) (vs : List Value) : ∀ i, mvL ρ (lv_args i vs) = lv_args i (vs.map (mvV ρ)) := by
  induction vs with
  | nil => intro i; rfl
  | cons v vs ih =>
    intro i
    show (i, mvV ρ v) :: mvL ρ (lv_args _ vs) = (i, mvV ρ v) :: lv_args (if (mvV ρ v).category = 2 then i + 2 else i + 1) (vs.map (mvV ρ))
    rw [mvV_cat, ih]
theorem mv_sl (ρ : Nat → Nat) (vs : List Value) : (lg_sl (vs.map (mvV ρ))).length = (lg_sl vs).length := by
  induction vs with
  | nil => rfl
  | cons v vs ih =>
    simp only [lg_sl, List.map_cons, List.flatMap_cons, List.length_append, mvV_cat] at ih ⊢
    rw [ih]
    by_cases h : v.category = 2 <;> simp [h]
theorem mvW_get (cA : Nat → ClassId) (ρ : Nat → Nat) (w : MW) (k : Nat) : (mvW cA ρ w)[k]? = (w[k]?).map (fun e => (ρ k, mvE cA ρ e)) := by
  unfold mvW
  rw [List.getElem?_mapIdx]
theorem mvW_at {cA : Nat → ClassId} {ρ : Nat → Nat} {w : MW} {k : Nat} {e : va_E} (h : w[k]? = some e) : (mvW cA ρ w)[k]? = some (ρ k, mvE cA ρ e) := by rw [mvW_get, h]; rfl
theorem mvW_len (cA : Nat → ClassId) (ρ : Nat → Nat) (w : MW) : (mvW cA ρ w).length = w.length := by simp [mvW]
theorem mvW_set (cA : Nat → ClassId) (ρ : Nat → Nat) (w : MW) (k : Nat) (e : va_E) : mvW cA ρ (w.set k e) = (mvW cA ρ w).set k (ρ k, mvE cA ρ e) := by
  apply List.ext_getElem?
  intro i
  rw [mvW_get, List.getElem?_set, List.getElem?_set, mvW_len, mvW_get]
  by_cases hk : k = i
  · subst hk
    by_cases hl : k < w.length <;> simp [hl]
  · simp [hk]
theorem mvW_app (cA : Nat → ClassId) (ρ : Nat → Nat) (w : MW) (e : va_E) : mvW cA ρ (w ++ [e]) = mvW cA ρ w ++ [(ρ w.length, mvE cA ρ e)] := by
  simp [mvW, List.mapIdx_append]
theorem CT.intro {y : MY} {mc ms : Nat} {av : List Value} {w : MW} {Post : MP} (hy : plainName y.1.cls = true) (ha : (lg_sl av).length ≤ y.2.2.1) (h : WM y mc ms Post w.length 0 (lv_args 0 av) [] w 0 0) : CT y mc ms av w Post := by
  intro l D cA ρ sz
  refine Met.ofW (cc := y.2.1) (maxL := y.2.2.1) (ret := y.2.2.2.1) (ws' := lwg) hy rfl ?_
  intro p e s m args below meth c s₁ B hml hv
  obtain ⟨rfl, hsz, hP, hK, hN, hD0⟩ := hv
  subst hsz
  have hts := atoms_spec (ws := wsY y) B.pre
  have hown : s.vm.findClass y.1.cls = some m.cls := findClass_of_methodNamed B.named
  have hnm : meth.name = y.1.name := (name_of_methodNamed B.named B.method).1
  have hD := hD0.self (sz := s.heap.size)
  have hl := lv_entry (av.map (mvV ρ)) (n := y.2.2.1) (by rw [mv_sl]; exact ha)
  rw [lg_entry_eq]
  rw [← mvL_args] at hl
  exact h p l e s m _ below meth c D cA _ ρ ρ s.heap [] _ ⟨B.exec, B.bytes, B.returns, hml, hown, fun w hw => hts w (List.mem_cons_of_mem _ hw), B.notSynchronized, hnm, hK, hN, fun q hq => Or.inr hq⟩ (fun _ _ => rfl) hP hD va_S.rf hl
theorem CT.weaken {y : MY} {mc ms : Nat} {av : List Value} {w : MW} {Post Post' : MP} (h : CT y mc ms av w Post) (hp : ∀ r w', Post r w' → Post' r w') : CT y mc ms av w Post' := by
  intro l D cA ρ sz p e ha hc hk s m args below hf happ hP hK
  obtain ⟨t, o, h1, h2, h3, ⟨⟨r, w', ρ', q1, q2, q3⟩, q4⟩, h5⟩ := h l D cA ρ sz p e ha hc hk s m args below hf happ hP hK
  exact ⟨t, o, h1, h2, h3, ⟨⟨r, w', ρ', q1, hp r w' q2, q3⟩, q4⟩, h5⟩
/-- fewer locals, in any order -/
theorem WM.locals {y : MY} {mc ms : Nat} {Post : MP} {n0 pc : Nat} {L L' : ML} {st : List Value} {w : MW} {nc ns : Nat} (k : WM y mc ms Post n0 pc L' st w nc ns) (h : ∀ q ∈ L', q ∈ L) : WM y mc ms Post n0 pc L st w nc ns := by
  intro p l e s m args below meth c D cA A ρ0 ρ H locs ls G hn hP hD hS hl
  refine k p l e s m args below meth c D cA A ρ0 ρ H locs ls G hn hP hD hS ⟨hl.1, hl.2.1, fun q hq => ?_⟩
  obtain ⟨q', h1, rfl⟩ := List.mem_map.mp hq
  exact hl.2.2 _ (List.mem_map.mpr ⟨q', h q' h1, rfl⟩)
theorem WM.widen {y : MY} {mc ms : Nat} {Post : MP} {n0 pc : Nat} {L : ML} {st : List Value} {w : MW} {nc ns nc' ns' : Nat} (k : WM y mc ms Post n0 pc L st w nc' ns') (h1 : nc ≤ nc') (h2 : ns ≤ ns') : WM y mc ms Post n0 pc L st w nc ns := by
  intro p l e s m args below meth c D cA A ρ0 ρ H locs ls G hn hP hD hS hl
  exact W.widen h1 h2 (k p l e s m args below meth c D cA A ρ0 ρ H locs ls G hn hP hD hS hl)
theorem WM.imp {y : MY} {mc ms : Nat} {Post Post' : MP} {n0 pc : Nat} {L : ML} {st : List Value} {w : MW} {nc ns : Nat} (k : WM y mc ms Post n0 pc L st w nc ns) (hp : ∀ r w', Post r w' → Post' r w') : WM y mc ms Post' n0 pc L st w nc ns := by
  intro p l e s m args below meth c D cA A ρ0 ρ H locs ls G hn hP hD hS hl T hT X
  obtain ⟨t, a, o, b1, b2, ⟨⟨r, w', ρ', q1, q2, q3⟩, q4⟩, b4⟩ := k p l e s m args below meth c D cA A ρ0 ρ H locs ls G hn hP hD hS hl T hT X
  exact ⟨t, a, o, b1, b2, ⟨⟨r, w', ρ', q1, hp r w' q2, q3⟩, q4⟩, b4⟩
/-- a local's value -/
def gL (i : Nat) : ML → Option Value
  | [] => none
  | q :: r => match Nat.beq q.1 i with
    | true => some q.2
    | false => gL i r
theorem gL_mem {i : Nat} {v : Value} : ∀ {L : ML}, gL i L = some v → (i, v) ∈ L
  | [], h => by cases h
  | (j, u) :: r, h => by
    unfold gL at h
    cases hb : Nat.beq j i with
    | true =>
      simp only [hb] at h
      cases h
      rw [Nat.eq_of_beq_eq_true hb]
      exact List.mem_cons_self
    | false =>
      simp only [hb] at h
      exact List.mem_cons_of_mem _ (gL_mem h)
/-- storing: the list stays in order; what a store takes away goes -/
def bad1 (i : Nat) (q : Nat × Value) : Bool := Nat.beq q.1 i || (Nat.beq (q.1 + 1) i && Nat.beq q.2.category 2)
def bad2 (i : Nat) (q : Nat × Value) : Bool := Nat.beq q.1 i || (Nat.beq q.1 (i + 1) || (Nat.beq (q.1 + 1) i && Nat.beq q.2.category 2))
def insL (i : Nat) (v : Value) : ML → ML
  | [] => [(i, v)]
  | q :: r => match Nat.ble q.1 i with
    | true => q :: insL i v r
    | false => (i, v) :: q :: r
def dropL (b : Nat × Value → Bool) : ML → ML
  | [] => []
  | q :: r => match b q with
    | true => dropL b r
    | false => q :: dropL b r
def sL1 (i : Nat) (v : Value) (L : ML) : ML := insL i v (dropL (bad1 i) L)
def sL2 (i : Nat) (v : Value) (L : ML) : ML := insL i v (dropL (bad2 i) L)
theorem insL_mem {i : Nat} {v : Value} {q : Nat × Value} : ∀ {L : ML}, q ∈ insL i v L → q = (i, v) ∨ q ∈ L
  | [], h => Or.inl (List.mem_singleton.mp h)
  | x :: r, h => by
    unfold insL at h
    cases hb : Nat.ble x.1 i with
    | true =>
      simp only [hb] at h
      rcases List.mem_cons.mp h with h | h
      · exact Or.inr (by rw [h]; exact List.mem_cons_self)
      · exact (insL_mem h).imp id (List.mem_cons_of_mem _)
    | false =>
      simp only [hb] at h
      exact List.mem_cons.mp h
theorem dropL_mem {b : Nat × Value → Bool} {q : Nat × Value} : ∀ {L : ML}, q ∈ dropL b L → q ∈ L ∧ b q = false
  | [], h => by cases h
  | x :: r, h => by
    unfold dropL at h
    cases hb : b x with
    | true =>
      simp only [hb] at h
      exact ⟨List.mem_cons_of_mem _ (dropL_mem h).1, (dropL_mem h).2⟩
    | false =>
      simp only [hb] at h
      rcases List.mem_cons.mp h with h | h
      · exact ⟨by rw [h]; exact List.mem_cons_self, by rw [h]; exact hb⟩
      · exact ⟨List.mem_cons_of_mem _ (dropL_mem h).1, (dropL_mem h).2⟩
theorem beq_ne {a b : Nat} : Nat.beq a b = false ↔ ¬ a = b := by
  constructor
  · intro h e
    rw [e] at h
    simp at h
  · intro h
    cases hb : Nat.beq a b with
    | true => exact absurd (Nat.eq_of_beq_eq_true hb) h
    | false => rfl
theorem sL1_has {ls : Array Slot} {nL i : Nat} {v : Value} {L : ML} {ρ : Nat → Nat} (h : lv_has ls nL ((i, mvV ρ v) :: (mvL ρ L).filter (fun q => !(q.1 == i) && !(q.1 + 1 == i && q.2.category == 2)))) : lv_has ls nL (mvL ρ (sL1 i v L)) := by
  refine ⟨h.1, h.2.1, fun q hq => ?_⟩
  obtain ⟨q', h1, rfl⟩ := List.mem_map.mp hq
  rcases insL_mem h1 with h2 | h2
  · subst h2
    exact h.2.2 _ List.mem_cons_self
  · obtain ⟨h3, h4⟩ := dropL_mem h2
    refine h.2.2 _ (List.mem_cons_of_mem _ (List.mem_filter.mpr ⟨List.mem_map.mpr ⟨q', h3, rfl⟩, ?_⟩))
    simp only [bad1, Bool.or_eq_false_iff, Bool.and_eq_false_iff, beq_ne] at h4
    simp only [mvV_cat, Bool.and_eq_true, Bool.not_eq_true', beq_eq_false_iff_ne, ne_eq, Bool.and_eq_false_iff]
    exact h4
theorem sL2_has {ls : Array Slot} {nL i : Nat} {v : Value} {L : ML} {ρ : Nat → Nat} (h : lv_has ls nL ((i, mvV ρ v) :: (mvL ρ L).filter (fun q => !(q.1 == i) && (!(q.1 == i + 1) && !(q.1 + 1 == i && q.2.category == 2))))) : lv_has ls nL (mvL ρ (sL2 i v L)) := by
  refine ⟨h.1, h.2.1, fun q hq => ?_⟩
  obtain ⟨q', h1, rfl⟩ := List.mem_map.mp hq
  rcases insL_mem h1 with h2 | h2
  · subst h2
    exact h.2.2 _ List.mem_cons_self
  · obtain ⟨h3, h4⟩ := dropL_mem h2
    refine h.2.2 _ (List.mem_cons_of_mem _ (List.mem_filter.mpr ⟨List.mem_map.mpr ⟨q', h3, rfl⟩, ?_⟩))
    simp only [bad2, Bool.or_eq_false_iff, Bool.and_eq_false_iff, beq_ne] at h4
    simp only [mvV_cat, Bool.and_eq_true, Bool.not_eq_true', beq_eq_false_iff_ne, ne_eq, Bool.and_eq_false_iff]
    exact h4
theorem gL_at {i : Nat} {v : Value} {L : ML} {ρ : Nat → Nat} {ls : Array Slot} {nL : Nat} (hl : lv_has ls nL (mvL ρ L)) (h : gL i L = some v) : ls[i]? = some (.val (mvV ρ v)) :=
  hl.2.2 (i, mvV ρ v) (List.mem_map.mpr ⟨(i, v), gL_mem h, rfl⟩)
